theorem pm_init : Rel (cl63 M0C) M0R := sorry
theorem pm_rules {M T : mM} (hR : Rel M T) : ∃ (r : Int32) (M' : mM) (T' : mM), fX11_rules M = some (r, M') ∧ fX12_rules T = some (r, T') ∧ Rel M' T' := sorry
theorem pm_buys {M T : mM} (hR : Rel M T) (a0 : Int32) : ∃ (r : Int32) (M' : mM) (T' : mM), fX11_buys M a0 = some (r, M') ∧ fX12_buys T a0 = some (r, T') ∧ Rel M' T' := sorry
theorem pm_whom {M T : mM} (hR : Rel M T) (a0 : Int32) : ∃ (r : Int32) (M' : mM) (T' : mM), fX11_whom M a0 = some (r, M') ∧ fX12_whom T a0 = some (r, T') ∧ Rel M' T' := sorry
theorem pm_liars {M T : mM} (hR : Rel M T) : ∃ (r : Int32) (M' : mM) (T' : mM), fX11_liars M = some (r, M') ∧ fX12_liars T = some (r, T') ∧ Rel M' T' := sorry
theorem pm_power {M T : mM} (hR : Rel M T) (a0 : Int32) : ∃ (r : Int32) (M' : mM) (T' : mM), fX11_power M a0 = some (r, M') ∧ fX12_power T a0 = some (r, T') ∧ Rel M' T' := sorry
theorem pm_game {M T : mM} (hR : Rel M T) (a0 : Int32) : ∃ (r : Int32) (M' : mM) (T' : mM), fX11_game M a0 = some (r, M') ∧ fX12_game T a0 = some (r, T') ∧ Rel M' T' := sorry
theorem pm_play {M T : mM} (hR : Rel M T) (a0 : Int32) : ∃ (r : Int32) (M' : mM) (T' : mM), fX11_play M a0 = some (r, M') ∧ fX12_play T a0 = some (r, T') ∧ Rel M' T' := sorry
theorem pm_span {M T : mM} (hR : Rel M T) (a0 : Int32) : ∃ (r : Int32) (T' : mM), fX11_span M a0 = some r ∧ fX12_span T a0 = some (r, T') ∧ Rel M T' := sorry
theorem pm_liar {M T : mM} (hR : Rel M T) : ∃ (r : Int32) (T' : mM), fX11_liar M = some r ∧ fX12_liar T = some (r, T') ∧ Rel M T' := sorry
theorem pm_lot {M T : mM} (hR : Rel M T) : ∃ (r : Int32) (M' : mM) (T' : mM), fX11_lot M = some (r, M') ∧ fX12_lot T = some (r, T') ∧ Rel M' T' := sorry
theorem pm_often {M T : mM} (hR : Rel M T) (a0 : Int32) (a1 : Int32) : ∃ (r : Int32) (M' : mM) (T' : mM), fX11_often M a0 a1 = some (r, M') ∧ fX12_often T a0 a1 = some (r, T') ∧ Rel M' T' := sorry
theorem pm_prove {M T : mM} (hR : Rel M T) (a0 : Int32) : ∃ (r : Int32) (M' : mM) (T' : mM), fX11_prove M a0 = some (r, M') ∧ fX12_prove T a0 = some (r, T') ∧ Rel M' T' := sorry
theorem pm_judge {M T : mM} (hR : Rel M T) (a0 : Int32) : ∃ (r : Int32) (M' : mM) (T' : mM), fX11_judge M a0 = some (r, M') ∧ fX12_judge T a0 = some (r, T') ∧ Rel M' T' := sorry
theorem pm_goAll {M T : mM} (hR : Rel M T) (a0 : Int32) (a1 : Int32) (a2 : Int32) : ∃ (r : Int32) (M' : mM) (T' : mM), fX11_goAll M a0 a1 a2 = some (r, M') ∧ fX12_goAll T a0 a1 a2 = some (r, T') ∧ Rel M' T' := sorry
theorem pm_wouldBe {M T : mM} (hR : Rel M T) (a0 : Int32) (a1 : Int32) (a2 : Int32) : ∃ (r : Int32) (M' : mM) (T' : mM), fX11_wouldBe M a0 a1 a2 = some (r, M') ∧ fX12_wouldBe T a0 a1 a2 = some (r, T') ∧ Rel M' T' := sorry
theorem pm_act {M T : mM} (hR : Rel M T) (a0 : Int32) (a1 : Int32) (a2 : Int32) : ∃ (r : Int32) (M' : mM) (T' : mM), fX11_act M a0 a1 a2 = some (r, M') ∧ fX12_act T a0 a1 a2 = some (r, T') ∧ Rel M' T' := sorry

theorem kS_X11_init : yX11_init.cls ≠ "java/lang/invoke/MethodHandle" ∧ yX11_init.cls ≠ "java/lang/invoke/VarHandle" ∧ (parseMethodDescriptor yX11_init.desc).map (fun d => d.parameters.length) = some 0 := by decide +kernel
theorem kS_X12_init : yX12_init.cls ≠ "java/lang/invoke/MethodHandle" ∧ yX12_init.cls ≠ "java/lang/invoke/VarHandle" ∧ (parseMethodDescriptor yX12_init.desc).map (fun d => d.parameters.length) = some 0 := by decide +kernel
theorem map_l {w1 w2 : va_W} {n : Nat} (h : w1.length = n) : (List.range n).map (fun i => (w1 ++ w2)[i]?) = w1.map some := by
  subst h
  apply List.ext_getElem?
  intro k
  by_cases hk : k < w1.length
  · simp [hk, List.getElem?_append_left hk]
  · simp [hk]
theorem nw_split {D : va_G} {cl : List vw_C} {w1 w2 : va_W} {A : Nat → Prop} {H0 H : Heap} {locs : List Loc} (h : nw_P D cl (w1 ++ w2) A H0 H locs) : (va_P D cl w1 H ∧ va_D A w1) ∧ (va_P D cl w2 H ∧ va_D A w2) ∧ ∀ (i j : Nat) (p q : Nat × va_E), w1[i]? = some p → w2[j]? = some q → p.1 ≠ q.1 := by
  have hl : ∀ (k : Nat) (q : Nat × va_E), w1[k]? = some q → (w1 ++ w2)[k]? = some q := fun k q hk => by rw [List.getElem?_append_left (List.getElem?_eq_some_iff.mp hk).1]; exact hk
  have hr : ∀ (k : Nat) (q : Nat × va_E), w2[k]? = some q → (w1 ++ w2)[w1.length + k]? = some q := fun k q hk => by rw [List.getElem?_append_right (by omega), Nat.add_sub_cancel_left]; exact hk
  refine ⟨⟨fun k q hk => h.1 k q (hl k q hk), fun i j x y hi hj e => h.2.1.1 i j x y (hl i x hi) (hl j y hj) e, fun k q hk => h.2.1.2 k q (hl k q hk)⟩, ⟨fun k q hk => h.1 _ q (hr k q hk), fun i j x y hi hj e => by have := h.2.1.1 _ _ x y (hr i x hi) (hr j y hj) e; omega, fun k q hk => h.2.1.2 _ q (hr k q hk)⟩, fun i j x y hi hj e => ?_⟩
  have h1 := h.2.1.1 _ _ x y (hl i x hi) (hr j y hj) e
  have h2 := (List.getElem?_eq_some_iff.mp hi).1
  omega
theorem l2_of {V : mV} {a' : Nat → Nat} {M T : mM} {A : Nat → Prop} {s : State} {H : Heap} {locs : List Loc} (h : nw_P (mvD V) vwCl (mw_ws 68 (enC V) (mvA V) M ++ mw_ws 17 (enR (V2 V a')) a' T) A s.heap H locs) : L2 V a' M T A s H locs := by
  obtain ⟨⟨h1, h2⟩, ⟨h3, h4⟩, h5⟩ := nw_split h
  exact ⟨⟨h1, h2, h.2.2⟩, ⟨h3, h4, h.2.2⟩, fun i j hi hj => h5 i j _ _ (mw_ix i hi) (mw_ix j hj)⟩
set_option maxHeartbeats 4000000 in
set_option maxRecDepth 100000 in
theorem whole_start {p : Program} {e : Env} {s : State} {m : MethodId} {below : List Frame} {meth : Method} {c : Code} (l : Launch) (hflags : l.flags = flags0) {b L : Nat} {xs : Nat → Int32} (hL : L ≤ 2560) (C0 : lw_At p s m meth c b L xs) : W p l e room_1 s m #[Value.ref b] below meth c s.heap [] 0 0 (lw_Z below #[Value.ref b] s) (entryFrame m ([Value.ref b] : List Value).toArray 4) := by
  obtain ⟨hx, hb, hr, hml, hown, hts, hX, hbl, hlocks, hgv⟩ := C0
  have hs := flat_of_before _ hgv
  obtain ⟨A, hAe⟩ : ∃ A : Nat → Prop, A = fun q => s.heap.size ≤ q := ⟨_, rfl⟩
  have hA0 : ∀ a : Nat, a < s.heap.size → ¬ A a := fun a h z => by rw [hAe] at z; exact absurd h (Nat.not_lt.mpr z)
  have hA1 : ∀ q, s.heap.size ≤ q → A q := fun q h => by rw [hAe]; exact h
  have hbA : ¬ A b := hA0 b hbl
  obtain ⟨D, cI, cT, hK⟩ := sp_K hts
  obtain ⟨ak, av, hZ⟩ := sp_Z hs hts hA0
  have hC : mw_C p s m #[Value.ref b] c code 4 RL (.arrayClass .int) D vwCl [(cI, .int), (cT, .object "HourByVote$Thing")] ssL ak av A := ⟨hx, hb, hml, hown, fun w hw => (List.mem_cons.mp hw).elim (fun h => h ▸ hts _ (ws_tbl _ q_ai)) (fun h => hts w (ws_tbl w h)), hK, hZ, hA1⟩
  have hl := lv_entry ([.ref b]) (n := 4) (Nat.le_of_ble_eq_true rfl)
  rw [lg_entry_eq]
  generalize (lg_sl ([.ref b]) ++ List.replicate (4 - (lg_sl ([.ref b])).length) Slot.unset).toArray = ls at hl ⊢
  have hl : lv_has ls 4 [(0, .ref b)] := hl
  have hP : nw_P D vwCl [] A s.heap s.heap [] := ⟨fun k q h => by simp at h, ⟨fun i j x y h => by simp at h, fun k q h => by simp at h⟩, va_S.rf⟩
  refine nw_new (ci := 11) (fs := [.null, .null, .int 0, .null, .null, .null, .null, .null, .null, .null, .null, .null, .int 0]) hC hP inW11 tyX11 tyX11_ok q_128 q_129 q_107 rfl (by decide) (Nat.le_of_ble_eq_true rfl) (Nat.le_of_ble_eq_true rfl) dL_law_0 (fun h1 H hP => ?_)
  have hP : nw_P D vwCl [(h1, .inr (11, [.null, .null, .int 0, .null, .null, .null, .null, .null, .null, .null, .null, .null, .int 0]))] A s.heap H [] := hP
  refine lv_dup hC.1 hC.2.1 dL_law_3 rfl ?_
  refine nw_cI (As := []) (rest := [.ref h1]) (wc := [(h1, .inr (11, [.null, .null, .int 0, .null, .null, .null, .null, .null, .null, .null, .null, .null, .int 0]))]) (wr := []) hC hP (kX11_init (D, cI, cT, (fun _ => 0), ak, av) l h1) [0] [] rfl rfl (by decide) (by decide) (by decide) q_130 q_131 q_107 q_132 ⟨rfl, rfl⟩ kS_X11_init ⟨Nat.le_of_ble_eq_true rfl, Nat.le_of_ble_eq_true rfl⟩ rfl rfl rfl (Nat.le_of_ble_eq_true rfl) hl.1 ⟨Nat.le_of_ble_eq_true rfl, Nat.le_of_ble_eq_true rfl⟩ dL_law_4 (fun w H locs hw hP2 => ?_)
  obtain ⟨a, ha0, rfl⟩ := hw
  have hP2 : nw_P D vwCl (mw_ws 68 (enC (D, cI, cT, a, ak, av)) a (cl63 M0C)) A s.heap H locs := hP2
  subst ha0
  refine lv_astore_n (lv' := [(1, .ref (a 0)), (0, .ref b)]) hC.1 hC.2.1 dL_law_7 rfl hl (Nat.le_of_ble_eq_true rfl) rfl (fun ls hl => ?_)
  refine nw_new (ci := 12) (fs := [.null, .null, .int 0, .null, .null, .int 0, .null, .int 0, .int 0, .int 0, .int 0, .int 0, .int 0, .null, .null, .null, .int 0, .int 0, .int 0, .null, .int 0, .int 0, .null, .null, .null, .null, .null, .null, .null, .int 0, .int 0, .int 0, .int 0, .int 0]) hC hP2 inW12 tyX12 tyX12_ok q_1140 q_1141 q_120 rfl (by decide) (Nat.le_of_ble_eq_true rfl) (Nat.le_of_ble_eq_true rfl) dL_law_8 (fun h2 H hP3 => ?_)
  refine lv_dup hC.1 hC.2.1 dL_law_11 rfl ?_
  refine nw_cI (As := []) (rest := [.ref h2]) (wc := [(h2, .inr (12, [.null, .null, .int 0, .null, .null, .int 0, .null, .int 0, .int 0, .int 0, .int 0, .int 0, .int 0, .null, .null, .null, .int 0, .int 0, .int 0, .null, .int 0, .int 0, .null, .null, .null, .null, .null, .null, .null, .int 0, .int 0, .int 0, .int 0, .int 0]))]) (wr := mw_ws 68 (enC (D, cI, cT, a, ak, av)) a (cl63 M0C)) hC hP3 (kX12_init (D, cI, cT, (fun _ => 0), ak, av) l h2) [68] (List.range 68) (by simp [mw_ws]) (map_l mw_len) (by decide) (by decide +kernel) (by decide +kernel) q_1142 q_1143 q_120 q_1144 ⟨rfl, rfl⟩ kS_X12_init ⟨Nat.le_of_ble_eq_true rfl, Nat.le_of_ble_eq_true rfl⟩ rfl rfl rfl (Nat.le_of_ble_eq_true rfl) hl.1 ⟨Nat.le_of_ble_eq_true rfl, Nat.le_of_ble_eq_true rfl⟩ dL_law_12 (fun w H locs hw hP4 => ?_)
  obtain ⟨a', ha0, rfl⟩ := hw
  subst ha0
  have hM : L2 (D, cI, cT, a, ak, av) a' (cl63 M0C) M0R A s H locs := l2_of (V := (D, cI, cT, a, ak, av)) hP4
  refine lv_astore_n (lv' := [(2, .ref (a' 0)), (1, .ref (a 0)), (0, .ref b)]) hC.1 hC.2.1 dL_law_15 rfl hl (Nat.le_of_ble_eq_true rfl) rfl (fun ls hl => ?_)
  refine lv_iconst (v := 0) hC.1 hC.2.1 dL_law_16 (by decide) ?_
  refine lv_istore_n (lv' := [(3, .int 0), (2, .ref (a' 0)), (1, .ref (a 0)), (0, .ref b)]) hC.1 hC.2.1 dL_law_17 rfl hl (Nat.le_of_ble_eq_true rfl) rfl (fun ls hl => ?_)
  refine law_loop (V := (D, cI, cT, a, ak, av)) hC hX hbl hbA ⟨Nat.le_of_ble_eq_true rfl, Nat.le_of_ble_eq_true rfl⟩ (fun {H locs ls pc} hS hd => ?_) 5000 (cl63 M0C) M0R 0 H locs ls (law_pure L xs hL) hM (lv_sub hl [3, 2, 1, 0] rfl)
  refine va_forget (fun q hq => by have := hS.2.2 q hq; rw [hAe] at this; exact this) ?_
  exact W.widen (Nat.le_of_ble_eq_true rfl) (Nat.le_of_ble_eq_true rfl) (lw_ret hx hb hr hlocks hd)

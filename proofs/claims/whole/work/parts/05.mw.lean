/-! THE LAYER OF THIS CLAIM: a world of fixed cells q < N at addresses a q, whose ints are one memory M : cell -> slot -> int; what a cell is says en q -/
abbrev mM : Type := Nat → Nat → Int32
abbrev mE : Type := Nat → (Nat → Int32) → va_E
abbrev mS : Type := Nat × List Nat × List (List Int32) × List (String × Nat × String × Nat)
def mw_ws (N : Nat) (en : mE) (a : Nat → Nat) (M : mM) : va_W := (List.range N).map fun q => (a q, en q (M q))
theorem mw_len {N : Nat} {en : mE} {a : Nat → Nat} {M : mM} : (mw_ws N en a M).length = N := by simp [mw_ws]
theorem mw_ix {N : Nat} {en : mE} {a : Nat → Nat} {M : mM} (q : Nat) (h : q < N) : (mw_ws N en a M)[q]? = some (a q, en q (M q)) := by simp [mw_ws, h]
theorem mw_set {N : Nat} {en : mE} {a : Nat → Nat} {M : mM} (q : Nat) (x : Nat → Int32) : (mw_ws N en a M).set q (a q, en q x) = mw_ws N en a (va_up M q x) := by
  apply List.ext_getElem?
  intro k
  by_cases hk : k < N
  · rw [mw_ix k hk]
    by_cases e : k = q
    · subst e
      rw [List.getElem?_set_self (by rw [mw_len]; exact hk), va_up_self]
    · rw [List.getElem?_set_ne (Ne.symm e), mw_ix k hk, va_up_ne _ _ e]
  · rw [List.getElem?_eq_none (by rw [List.length_set, mw_len]; omega), List.getElem?_eq_none (by rw [mw_len]; omega)]
/-- an index lies in a row -/
def ix (i : Int32) (n : Nat) : Bool := decide (0 ≤ i) && decide (i.toNatClampNeg < n)
theorem ix_in {i : Int32} {n : Nat} (h : ix i n = true) : vp_in i n := by
  simp only [ix, Bool.and_eq_true, decide_eq_true_eq] at h
  intro z
  rcases z with z | z
  · have h1 := Int32.le_iff_toInt_le.mp h.1
    have h2 := Int32.lt_iff_toInt_lt.mp z
    omega
  · omega
/-- 0 or 1 -/
def isB (v : Int32) : Bool := decide (v = 0) || decide (v = 1)
theorem isB_or {v : Int32} (h : isB v = true) : v = 0 ∨ v = 1 := by simpa [isB] using h
theorem nar_b {v : Int32} (h : v = 0 ∨ v = 1) : narrow .boolean (.int v) = .int v := by rcases h with rfl | rfl <;> rfl
theorem fit_b {v : Int32} (h : v = 0 ∨ v = 1) : fits .boolean (.int v) = true := by rcases h with rfl | rfl <;> rfl
def any (_ : Int32) : Prop := True
def isb (v : Int32) : Prop := v = 0 ∨ v = 1
-- what a pure text says, taken apart
theorem o_t {α : Type} {c : Prop} {d : Decidable c} {x y z : α} (hc : c) (h : @ite _ c d x y = z) : x = z := by rwa [if_pos hc] at h
theorem o_f {α : Type} {c : Prop} {d : Decidable c} {x y z : α} (hc : ¬ c) (h : @ite _ c d x y = z) : y = z := by rwa [if_neg hc] at h
def gd {α : Type} (b : Bool) (x : Option α) : Option α := match b with
  | true => x
  | false => none
theorem o_g {α : Type} {b : Bool} {x : Option α} {z : α} (h : gd b x = some z) : b = true ∧ x = some z := by
  cases b with
  | true => exact ⟨rfl, h⟩
  | false => cases h
def b1 {α β : Type} (o : Option α) (k : α → Option β) : Option β := match o with
  | some r => k r
  | none => none
theorem o_b {α β : Type} {o : Option α} {k : α → Option β} {z : β} (h : b1 o k = some z) : ∃ r, o = some r ∧ k r = some z := by
  cases o with
  | some r => exact ⟨r, rfl, h⟩
  | none => cases h
def b2 {α β γ : Type} (o : Option (α × β)) (k : α → β → Option γ) : Option γ := match o with
  | some r => k r.1 r.2
  | none => none
theorem o_b2 {α β γ : Type} {o : Option (α × β)} {k : α → β → Option γ} {z : γ} (h : b2 o k = some z) : ∃ r M, o = some (r, M) ∧ k r M = some z := by
  cases o with
  | some r => exact ⟨r.1, r.2, rfl, h⟩
  | none => cases h
def iushr (x y : Int32) : Int32 := (x.toUInt32 >>> (y.toUInt32 &&& Int32.toUInt32 31)).toInt32
def lushr (x : Int64) (y : Int32) : Int64 := (x.toUInt64 >>> (y.toInt64.toUInt64 &&& Int64.toUInt64 63)).toInt64
def wr (M : mM) (q k : Nat) (v : Int32) : mM := va_up M q (upd (M q) k v)
/-- links to private methods of nest mates -/
def NWl : List (String × Nat × MethodName × String) := [(RX6, 52, yX11_isUnder, "HourByVote"), (RX5, 59, yX11_isIn, "HourByVote"), (RX4, 44, yX11_moved, "HourByVote"), (RX11, 11, yX10_init, "HourByVote"), (RX11, 14, yX4_init, "HourByVote"), (RX4, 36, yX6_init, "HourByVote"), (RX11, 24, yX5_init, "HourByVote"), (RX5, 11, yX6_init, "HourByVote"), (RX11, 59, yX2_init, "HourByVote")]
def CAl : List String := [RX3, RX1, RX7, RX0, RX8]
/-- the String constants, and those links -/
def mw_Z (ss : mS) (ak av : Nat → Nat) (A : Nat → Prop) (U : State) (H : Heap) : Prop := vk_S ss.1 ss.2.1 ss.2.2.1 ak av A U H ∧ (∀ (k : Nat) (q : String × Nat × String × Nat), ss.2.2.2[k]? = some q → vk_R q.1 q.2.1 q.2.2.1 (ak q.2.2.2) U) ∧ (∀ (k : Nat) (q : String × Nat × MethodName × String), NWl[k]? = some q → va_Nw (.methodLinkNest q.1 q.2.1 q.2.2.1 q.2.2.2) U) ∧ va_Z "java/lang/String" "COMPACT_STRINGS" "Z" (.int 1) A U H ∧ va_Zq "jdk/internal/util/Preconditions" "SIOOBE_FORMATTER" "Ljava/util/function/BiFunction;" A U H ∧ (∀ (k : Nat) (q : String), CAl[k]? = some q → va_Nw (.castable q RX9) U) ∧ va_AO RX9 U
def mw_P (D : va_G) (cl : List vw_C) (N : Nat) (en : mE) (a : Nat → Nat) (M : mM) (A : Nat → Prop) (H0 H : Heap) (locs : List Loc) : Prop := va_P D cl (mw_ws N en a M) H ∧ va_D A (mw_ws N en a M) ∧ va_S A H0 H locs
def mw_Pre (D : va_G) (cl : List vw_C) (tys : List (ClassId × FieldType)) (N : Nat) (en : mE) (a : Nat → Nat) (ss : mS) (ak av : Nat → Nat) (M : mM) (sz : Nat) (U : State) : Prop :=
  U.heap.size = sz ∧ va_P D cl (mw_ws N en a M) U.heap ∧ va_K D cl tys U ∧ va_D (fun _ => True) (mw_ws N en a M) ∧ mw_Z ss ak av (va_A (mw_ws N en a M) sz) U U.heap
def mw_Post (D : va_G) (cl : List vw_C) (tys : List (ClassId × FieldType)) (N : Nat) (en : mE) (a : Nat → Nat) (M : mM) (A : Nat → Prop) (t : State) : Prop := va_P D cl (mw_ws N en a M) t.heap ∧ va_K D cl tys t ∧ va_D A (mw_ws N en a M)
/-- a method's contract: from memory M it returns r and memory M' is left -/
def mw_Mi (D : va_G) (cl : List vw_C) (tys : List (ClassId × FieldType)) (N : Nat) (en : mE) (a : Nat → Nat) (ss : mS) (ak av : Nat → Nat) (l : Launch) (y : MethodName) (cc : ByteArray) (nL : Nat) (ret : Option FieldType) (rm : Room) (pb : Int32 → Prop) (As : List Value) (M : mM) (r : Int32) (M' : mM) : Prop :=
  ∀ sz : Nat, Met l y (.code y cc nL ret :: WS) rm (va_Pc As (mw_Pre D cl tys N en a ss ak av M sz)) (va_Qi (fun (r2 : Int32) (_ : Unit) => r2 = r ∧ pb r2) (fun _ t => mw_Post D cl tys N en a M' (va_A (mw_ws N en a M) sz) t) (va_A (mw_ws N en a M) sz)) 0 0 (va_A (mw_ws N en a M) sz)
def mw_Mv (D : va_G) (cl : List vw_C) (tys : List (ClassId × FieldType)) (N : Nat) (en : mE) (a : Nat → Nat) (ss : mS) (ak av : Nat → Nat) (l : Launch) (y : MethodName) (cc : ByteArray) (nL : Nat) (ret : Option FieldType) (rm : Room) (As : List Value) (M M' : mM) : Prop :=
  ∀ sz : Nat, Met l y (.code y cc nL ret :: WS) rm (va_Pc As (mw_Pre D cl tys N en a ss ak av M sz)) (va_Qv (fun (_ : Unit) => True) (fun _ t => mw_Post D cl tys N en a M' (va_A (mw_ws N en a M) sz) t) (va_A (mw_ws N en a M) sz)) 0 0 (va_A (mw_ws N en a M) sz)
theorem mw_Z.at {ss : mS} {ak av : Nat → Nat} {A A1 : Nat → Prop} {s U : State} {H locs} (h : mw_Z ss ak av A s s.heap) (hS : va_S A s.heap H locs) (hU : U.heap = H) (hW : s.WarmedH U.vm) (hA : ∀ q, A1 q → A q) : mw_Z ss ak av A1 U U.heap := by
  refine ⟨?_, fun k q hk => (h.2.1 k q hk).warm hW, fun k q hk => (h.2.2.1 k q hk).warmM hW, by rw [hU]; exact ((h.2.2.2.1.kept (fun q h1 h2 => hS.2.1 q h1 h2)).moved hW.alike).narrow hA, by rw [hU]; exact ((h.2.2.2.2.1.kept (fun q h1 h2 => hS.2.1 q h1 h2)).moved hW.alike).narrow hA, fun k q hk => (h.2.2.2.2.2.1 k q hk).warmC hW, h.2.2.2.2.2.2.moved hW.alike⟩
  rw [hU]
  exact ((h.1.kept (fun q h1 h2 => hS.2.1 q h1 h2)).moved hW.alike).narrow hA
theorem mw_Z.call {ss : mS} {ak av : Nat → Nat} {A : Nat → Prop} {U : State} {g : JFrame} {mk : MethodId} {b : Array Value} (qZ : mw_Z ss ak av A U U.heap) : mw_Z ss ak av A (U.calling g mk b) U.heap :=
  ⟨vk_S.moved (u := U) (U := U.calling g mk b) (Vm.Alike.refl U.vm) qZ.1, fun k z hz => vk_R.same (u := U) (U := U.calling g mk b) rfl (qZ.2.1 k z hz), fun k z hz => va_Nw.same (u := U) (U := U.calling g mk b) rfl rfl (qZ.2.2.1 k z hz), va_Z.moved (u := U) (U := U.calling g mk b) (Vm.Alike.refl U.vm) qZ.2.2.2.1, va_Zq.moved (u := U) (U := U.calling g mk b) (Vm.Alike.refl U.vm) qZ.2.2.2.2.1, fun k z hz => va_Nw.same (u := U) (U := U.calling g mk b) rfl rfl (qZ.2.2.2.2.2.1 k z hz), va_AO.moved (u := U) (U := U.calling g mk b) (Vm.Alike.refl U.vm) qZ.2.2.2.2.2.2⟩
theorem mw_blind {D : va_G} {cl : List vw_C} {tys : List (ClassId × FieldType)} {N : Nat} {en : mE} {a : Nat → Nat} {ss : mS} {ak av : Nat → Nat} {M : mM} {sz : Nat} {As : List Value} : FrameBlind (va_Pc As (mw_Pre D cl tys N en a ss ak av M sz)) := fun b U g mk q => by
  obtain ⟨q0, q1, qP, qK, qD, qZ⟩ := q
  exact ⟨q0, q1, qP, va_K.moved (u := U) (U := U.calling g mk b) (Vm.Alike.refl U.vm) qK, qD, qZ.call⟩
theorem mw_A {N : Nat} {en : mE} {a : Nat → Nat} {M : mM} {A : Nat → Prop} {H0 H : Heap} {locs : List Loc} (hD : va_D A (mw_ws N en a M)) (hS : va_S A H0 H locs) (hA : ∀ q, H0.size ≤ q → A q) : ∀ q, va_A (mw_ws N en a M) H.size q → A q := by
  intro q h
  rcases h with ⟨k, e, h⟩ | h
  · exact hD.2 k (q, e) h
  · exact hA q (Nat.le_trans hS.1 h)
/-- what stays through a method's body -/
def mw_C (p : Program) (s : State) (m : MethodId) (args : Array Value) (c : Code) (cc : ByteArray) (nL : Nat) (own : String) (x : Cond) (D : va_G) (cl : List vw_C) (tys : List (ClassId × FieldType)) (ss : mS) (ak av : Nat → Nat) (A : Nat → Prop) : Prop :=
  p.tables.exec = Jvm.exec ∧ c.code = cc ∧ c.maxLocals = nL ∧ s.vm.findClass own = some m.cls ∧ (∀ w ∈ (x :: WS), w.before args s = true) ∧ va_K D cl tys s ∧ mw_Z ss ak av A s s.heap ∧ ∀ q, s.heap.size ≤ q → A q
section MW
variable {p : Program} {l : Launch} {e : Env} {R : Room} {s : State} {m : MethodId} {args : Array Value} {below : List Frame} {meth : Method} {c : Code} {H : Heap} {locs : List Loc} {cells slots : Nat} {Q : State → Prop}
variable {cc : ByteArray} {nL pc : Nat} {own : String} {x : Cond} {ls : Array Slot} {rest : List Value} {D : va_G} {cl : List vw_C} {tys : List (ClassId × FieldType)} {N : Nat} {en : mE} {a : Nat → Nat} {ss : mS} {ak av : Nat → Nat} {A : Nat → Prop} {M : mM}
theorem mw_w (hC : mw_C p s m args c cc nL own x D cl tys ss ak av A) {w : Cond} (h : w ∈ WS) : w.before args s = true := hC.2.2.2.2.1 w (List.mem_cons_of_mem _ h)
theorem mw_ri {pb : Int32 → Prop} {r v : Int32} {M' : mM} (hC : mw_C p s m args c cc nL own x D cl tys ss ak av A) (hr : meth.sig.returnType = some .int) (hlocks : meth.locks = false) (hM : mw_P D cl N en a M' A s.heap H locs) (hv : v = r ∧ pb v) (hdg : decode cc pc = .ok (.ireturn, 1)) :
    W p l e R s m args below meth c H locs 0 0 (MQ below (va_Qi (fun (r2 : Int32) (_ : Unit) => r2 = r ∧ pb r2) (fun _ t => mw_Post D cl tys N en a M' A t) A) args s 0 0 A) (F0 m pc ls [.int v]) :=
  W.iret (v := v) hC.1 hC.2.1 hr (fun t ht hW => ⟨⟨v, (), rfl, hv, by rw [ht]; exact hM.1, va_K.moved hW.alike hC.2.2.2.2.2.1, hM.2.1⟩, hM.2.2.F ht⟩) hM.2.2.2.2 hdg hlocks
theorem mw_rz {r v : Int32} {M' : mM} (hC : mw_C p s m args c cc nL own x D cl tys ss ak av A) (hr : meth.sig.returnType = some .boolean) (hlocks : meth.locks = false) (hM : mw_P D cl N en a M' A s.heap H locs) (hv : v = r ∧ isb v) (hdg : decode cc pc = .ok (.ireturn, 1)) :
    W p l e R s m args below meth c H locs 0 0 (MQ below (va_Qi (fun (r2 : Int32) (_ : Unit) => r2 = r ∧ isb r2) (fun _ t => mw_Post D cl tys N en a M' A t) A) args s 0 0 A) (F0 m pc ls [.int v]) :=
  W.zret (v := v) hC.1 hC.2.1 hr (nar_b hv.2) (fun t ht hW => ⟨⟨v, (), rfl, hv, by rw [ht]; exact hM.1, va_K.moved hW.alike hC.2.2.2.2.2.1, hM.2.1⟩, hM.2.2.F ht⟩) hM.2.2.2.2 hdg hlocks
theorem mw_rv {M' : mM} (hC : mw_C p s m args c cc nL own x D cl tys ss ak av A) (hr : meth.sig.returnType = none) (hlocks : meth.locks = false) (hM : mw_P D cl N en a M' A s.heap H locs) (hdg : decode cc pc = .ok (.return_, 1)) :
    W p l e R s m args below meth c H locs 0 0 (MQ below (va_Qv (fun (_ : Unit) => True) (fun _ t => mw_Post D cl tys N en a M' A t) A) args s 0 0 A) (F0 m pc ls []) :=
  W.vret hC.1 hC.2.1 hr (fun t ht hW => ⟨⟨(), rfl, trivial, by rw [ht]; exact hM.1, va_K.moved hW.alike hC.2.2.2.2.2.1, hM.2.1⟩, hM.2.2.F ht⟩) hM.2.2.2.2 hdg hlocks
theorem mw_enterI {y : MethodName} {cc : ByteArray} {nL : Nat} {rm : Room} {As : List Value} {r : Int32} {M' : mM} (own : String) (ho : y.cls = own) (hy : plainFor y = true) (hn : (lg_sl As).length ≤ nL)
    (body : ∀ {p : Program} {e : Env} {s : State} {m : MethodId} {args : Array Value} {below : List Frame} {meth : Method} {c : Code} (ls : Array Slot) (A : Nat → Prop) (Q : State → Prop), mw_C p s m args c cc nL own (.code y cc nL (some .int)) D cl tys ss ak av A →
      (∀ {H : Heap} {locs : List Loc} {pc : Nat} {ls : Array Slot} {v : Int32}, v = r → mw_P D cl N en a M' A s.heap H locs → decode cc pc = .ok (.ireturn, 1) → W p l e rm s m args below meth c H locs 0 0 Q (F0 m pc ls [.int v])) →
      mw_P D cl N en a M A s.heap s.heap [] → lv_has ls nL (lv_args 0 As) → W p l e rm s m args below meth c s.heap [] 0 0 Q (F0 m 0 ls [])) :
    mw_Mi D cl tys N en a ss ak av l y cc nL (some .int) rm any As M r M' := by
  intro sz
  refine va_MetF (cc := cc) (maxL := nL) (ret := (some .int)) hy rfl ?_
  intro p e s m args below meth c s₁ B hml hv
  obtain ⟨rfl, hsz, hP, hK, hD0, hZ⟩ := hv
  subst hsz
  have hts := atoms_spec (ws := .code y cc nL (some .int) :: WS) B.pre
  rw [lg_entry_eq]
  have hC : mw_C p s m As.toArray c cc nL own (.code y cc nL (some .int)) D cl tys ss ak av (va_A (mw_ws N en a M) s.heap.size) := ⟨B.exec, B.bytes, hml, ho ▸ findClass_of_methodNamed B.named, hts, hK, hZ, fun q h => Or.inr h⟩
  exact body _ _ _ hC (fun hv hM hd => by exact mw_ri hC B.returns B.notSynchronized hM ⟨hv, trivial⟩ hd) ⟨hP, hD0.self, va_S.rf⟩ (lv_entry As hn)
theorem mw_enterZ {y : MethodName} {cc : ByteArray} {nL : Nat} {rm : Room} {As : List Value} {r : Int32} {M' : mM} (own : String) (ho : y.cls = own) (hy : plainFor y = true) (hn : (lg_sl As).length ≤ nL)
    (body : ∀ {p : Program} {e : Env} {s : State} {m : MethodId} {args : Array Value} {below : List Frame} {meth : Method} {c : Code} (ls : Array Slot) (A : Nat → Prop) (Q : State → Prop), mw_C p s m args c cc nL own (.code y cc nL (some .boolean)) D cl tys ss ak av A →
      (∀ {H : Heap} {locs : List Loc} {pc : Nat} {ls : Array Slot} {v : Int32}, v = r → isb v → mw_P D cl N en a M' A s.heap H locs → decode cc pc = .ok (.ireturn, 1) → W p l e rm s m args below meth c H locs 0 0 Q (F0 m pc ls [.int v])) →
      mw_P D cl N en a M A s.heap s.heap [] → lv_has ls nL (lv_args 0 As) → W p l e rm s m args below meth c s.heap [] 0 0 Q (F0 m 0 ls [])) :
    mw_Mi D cl tys N en a ss ak av l y cc nL (some .boolean) rm isb As M r M' := by
  intro sz
  refine va_MetF (cc := cc) (maxL := nL) (ret := (some .boolean)) hy rfl ?_
  intro p e s m args below meth c s₁ B hml hv
  obtain ⟨rfl, hsz, hP, hK, hD0, hZ⟩ := hv
  subst hsz
  have hts := atoms_spec (ws := .code y cc nL (some .boolean) :: WS) B.pre
  rw [lg_entry_eq]
  have hC : mw_C p s m As.toArray c cc nL own (.code y cc nL (some .boolean)) D cl tys ss ak av (va_A (mw_ws N en a M) s.heap.size) := ⟨B.exec, B.bytes, hml, ho ▸ findClass_of_methodNamed B.named, hts, hK, hZ, fun q h => Or.inr h⟩
  exact body _ _ _ hC (fun hv hb hM hd => by exact mw_rz hC B.returns B.notSynchronized hM ⟨hv, hb⟩ hd) ⟨hP, hD0.self, va_S.rf⟩ (lv_entry As hn)
theorem mw_enterV {y : MethodName} {cc : ByteArray} {nL : Nat} {rm : Room} {As : List Value} {M' : mM} (own : String) (ho : y.cls = own) (hy : plainFor y = true) (hn : (lg_sl As).length ≤ nL)
    (body : ∀ {p : Program} {e : Env} {s : State} {m : MethodId} {args : Array Value} {below : List Frame} {meth : Method} {c : Code} (ls : Array Slot) (A : Nat → Prop) (Q : State → Prop), mw_C p s m args c cc nL own (.code y cc nL none) D cl tys ss ak av A →
      (∀ {H : Heap} {locs : List Loc} {pc : Nat} {ls : Array Slot}, mw_P D cl N en a M' A s.heap H locs → decode cc pc = .ok (.return_, 1) → W p l e rm s m args below meth c H locs 0 0 Q (F0 m pc ls [])) →
      mw_P D cl N en a M A s.heap s.heap [] → lv_has ls nL (lv_args 0 As) → W p l e rm s m args below meth c s.heap [] 0 0 Q (F0 m 0 ls [])) :
    mw_Mv D cl tys N en a ss ak av l y cc nL none rm As M M' := by
  intro sz
  refine va_MetF (cc := cc) (maxL := nL) (ret := none) hy rfl ?_
  intro p e s m args below meth c s₁ B hml hv
  obtain ⟨rfl, hsz, hP, hK, hD0, hZ⟩ := hv
  subst hsz
  have hts := atoms_spec (ws := .code y cc nL none :: WS) B.pre
  rw [lg_entry_eq]
  have hC : mw_C p s m As.toArray c cc nL own (.code y cc nL none) D cl tys ss ak av (va_A (mw_ws N en a M) s.heap.size) := ⟨B.exec, B.bytes, hml, ho ▸ findClass_of_methodNamed B.named, hts, hK, hZ, fun q h => Or.inr h⟩
  exact body _ _ _ hC (fun hM hd => by exact mw_rv hC B.returns B.notSynchronized hM hd) ⟨hP, hD0.self, va_S.rf⟩ (lv_entry As hn)
-- arrays of ints
theorem mw_iald (hC : mw_C p s m args c cc nL own x D cl tys ss ak av A) (hM : mw_P D cl N en a M A s.heap H locs) (q t0 : Nat) {cA : ClassId} {n : Nat} (hq : q < N) (hen : ∀ z, en q z = .inl (cA, n, .inl z)) (ht : tys[t0]? = some (cA, .int)) {i : Int32} (hin : ix i n = true) (hdg : decode cc pc = .ok (.iaload, 1))
    (kk : W p l e R s m args below meth c H locs cells slots Q (F0 m (pc + 1) ls (.int (M q i.toNatClampNeg) :: rest))) : W p l e R s m args below meth c H locs cells slots Q (F0 m pc ls (.int i :: .ref (a q) :: rest)) :=
  va_iald hC.1 hC.2.1 hC.2.2.2.2.2.1 hM.1 q t0 (by rw [mw_ix q hq, hen]) ht (ix_in hin) hdg kk
theorem mw_iast (hC : mw_C p s m args c cc nL own x D cl tys ss ak av A) (hM : mw_P D cl N en a M A s.heap H locs) (q t0 : Nat) {cA : ClassId} {n : Nat} (hq : q < N) (hen : ∀ z, en q z = .inl (cA, n, .inl z)) (ht : tys[t0]? = some (cA, .int)) {i v : Int32} (hin : ix i n = true) (hdg : decode cc pc = .ok (.iastore, 1))
    (kk : ∀ (H1 : Heap) (locs1 : List Loc), mw_P D cl N en a (wr M q i.toNatClampNeg v) A s.heap H1 locs1 → W p l e R s m args below meth c H1 locs1 cells slots Q (F0 m (pc + 1) ls rest)) : W p l e R s m args below meth c H locs cells slots Q (F0 m pc ls (.int v :: .int i :: .ref (a q) :: rest)) :=
  va_iast hC.1 hC.2.1 hC.2.2.2.2.2.1 hM.1 hM.2.1 hM.2.2 q t0 (by rw [mw_ix q hq, hen]) ht (ix_in hin) hdg fun H1 locs1 hP hD hS => kk H1 locs1 (by rw [← hen, mw_set] at hP hD; exact ⟨hP, hD, hS⟩)
-- fields
theorem mw_get (hC : mw_C p s m args c cc nL own x D cl tys ss ak av A) (hM : mw_P D cl N en a M A s.heap H locs) (q : Nat) {ref C : String} {T : u_T} {Nf ci index : Nat} {fs : (Nat → Int32) → List Value} (hq : q < N) (hen : ∀ z, en q z = .inr (ci, fs z)) (hin : ∀ w ∈ u_ws C T Nf, w ∈ WS) (hc : cl[ci]? = some (C, T, Nf)) (k : Nat) (hk : k < Nf)
    (hlink : (Cond.fieldLink own index ref (T k).2.1 (T k).2.2.1) ∈ WS) (hsame : ∀ z, s.fieldFound? (T k).1 (T k).2.1 (T k).2.2.1 = some z → s.fieldFound? ref (T k).2.1 (T k).2.2.1 = some z) {v : Value} (hv : (fs (M q))[k]? = some v) (hdg : decode cc pc = .ok (.getfield index, 3))
    (kk : W p l e R s m args below meth c H locs cells slots Q (F0 m (pc + 3) ls (v :: rest))) : W p l e R s m args below meth c H locs cells slots Q (F0 m pc ls (.ref (a q) :: rest)) :=
  va_get (C := C) (T := T) (N := Nf) hC.1 hC.2.1 hC.2.2.2.2.1 (fun w h => List.mem_cons_of_mem _ (hin w h)) hC.2.2.2.1 hC.2.2.2.2.2.1 hM.1 q (by rw [mw_ix q hq, hen]) hc k hk (mw_w hC hlink) hsame hv hdg kk
theorem mw_put (hC : mw_C p s m args c cc nL own x D cl tys ss ak av A) (hM : mw_P D cl N en a M A s.heap H locs) (q : Nat) {ref C : String} {T : u_T} {Nf ci index : Nat} {fs : (Nat → Int32) → List Value} (hq : q < N) (hen : ∀ z, en q z = .inr (ci, fs z)) (hin : ∀ w ∈ u_ws C T Nf, w ∈ WS) (ty0 : Nat → FieldType) (hty : ∀ k, k < Nf → parseFieldDescriptor (T k).2.2.1 = some (ty0 k)) (hnm : ∀ a, a < Nf → ∀ b, b < Nf → a ≠ b → (T a).2.1 ≠ (T b).2.1)
    (hc : cl[ci]? = some (C, T, Nf)) (k : Nat) (hk : k < Nf) (hlink : (Cond.fieldLink own index ref (T k).2.1 (T k).2.2.1) ∈ WS) (hsame : ∀ z, s.fieldFound? (T k).1 (T k).2.1 (T k).2.2.1 = some z → s.fieldFound? ref (T k).2.1 (T k).2.2.1 = some z) (hfin : (T k).2.2.2 = false) {v : Int32} (hn : narrow (ty0 k) (.int v) = .int v) (hfit : fits (ty0 k) (.int v) = true)
    (hl : k < (fs (M q)).length) (hset : (fs (M q)).set k (.int v) = fs (upd (M q) k v)) (hdg : decode cc pc = .ok (.putfield index, 3))
    (kk : ∀ (H1 : Heap) (locs1 : List Loc), mw_P D cl N en a (wr M q k v) A s.heap H1 locs1 → W p l e R s m args below meth c H1 locs1 cells slots Q (F0 m (pc + 3) ls rest)) : W p l e R s m args below meth c H locs cells slots Q (F0 m pc ls (.int v :: .ref (a q) :: rest)) :=
  va_put (C := C) (T := T) (N := Nf) hC.1 hC.2.1 hC.2.2.2.2.1 (fun w h => List.mem_cons_of_mem _ (hin w h)) ty0 hty hnm hC.2.2.2.1 hC.2.2.2.2.2.1 hM.1 hM.2.1 hM.2.2 q (by rw [mw_ix q hq, hen]) hc k hk (mw_w hC hlink) hsame hfin (hty k hk) hn hfit hl hdg fun H1 locs1 hP hD hS => kk H1 locs1 (by rw [hset, ← hen, mw_set] at hP hD; exact ⟨hP, hD, hS⟩)
-- calls
theorem mw_pre (hC : mw_C p s m args c cc nL own x D cl tys ss ak av A) (hM : mw_P D cl N en a M A s.heap H locs) (As : List Value) : ∀ U : State, U.heap = H → s.WarmedH U.vm → va_Pc As (mw_Pre D cl tys N en a ss ak av M H.size) As.toArray U := fun U hU hW =>
  ⟨rfl, by rw [hU], by rw [hU]; exact hM.1, va_K.moved hW.alike hC.2.2.2.2.2.1, hM.2.1.weaken (fun _ _ _ _ => trivial), hC.2.2.2.2.2.2.1.at hM.2.2 hU hW (mw_A hM.2.1 hM.2.2 hC.2.2.2.2.2.2.2)⟩
theorem mw_recv (hC : mw_C p s m args c cc nL own x D cl tys ss ak av A) (hM : mw_P D cl N en a M A s.heap H locs) {q ci : Nat} {C : String} {T : u_T} {Nf : Nat} {fs : (Nat → Int32) → List Value} (hq : q < N) (hen : ∀ z, en q z = .inr (ci, fs z)) (hc : cl[ci]? = some (C, T, Nf)) : ∃ cellB : Cell, H[a q]? = some cellB ∧ cellB.vm.isStatics = false ∧ s.vm.findClass C = some cellB.cls :=
  va_recv (q := (C, T, Nf)) hC.2.2.2.2.2.1 hM.1 hc (mw_ix q hq |>.trans (by rw [hen]))
theorem mw_back {M' : mM} {H1 : Heap} {locs1 : List Loc} {t : State} (hM : mw_P D cl N en a M A s.heap H locs) (hC : mw_C p s m args c cc nL own x D cl tys ss ak av A) (ht : t.heap = H1) (hB : mw_Post D cl tys N en a M' (va_A (mw_ws N en a M) H.size) t) (hS : va_S A s.heap H1 locs1) : mw_P D cl N en a M' A s.heap H1 locs1 :=
  ⟨by rw [← ht]; exact hB.1, hB.2.2.weaken (fun _ q _ h => mw_A hM.2.1 hM.2.2 hC.2.2.2.2.2.2.2 q.1 h), hS⟩
theorem mw_ci {st0 : List Value} {y : MethodName} {bytes : ByteArray} {maxL : Nat} {ret : Option FieldType} {rm : Room} {pb : Int32 → Prop} {As : List Value} {r : Int32} {M' : mM} (hC : mw_C p s m args c cc nL own x D cl tys ss ak av A) (hM : mw_P D cl N en a M A s.heap H locs)
    (hr : va_Run p l e R s m args below meth c H locs 0 0 0 0 (F0 m pc ls st0) rest (va_Qi (fun (r2 : Int32) (_ : Unit) => r2 = r ∧ pb r2) (fun _ t => mw_Post D cl tys N en a M' (va_A (mw_ws N en a M) H.size) t) (va_A (mw_ws N en a M) H.size) As.toArray) (va_A (mw_ws N en a M) H.size))
    (kk : ∀ (H1 : Heap) (locs1 : List Loc), mw_P D cl N en a M' A s.heap H1 locs1 → pb r → W p l e R s m args below meth c H1 locs1 0 0 Q (F0 m (pc + 3) ls (.int r :: rest))) : W p l e R s m args below meth c H locs 0 0 Q (F0 m pc ls st0) := by
  refine va_calli hr hM.2.2 (fun q _ h => mw_A hM.2.1 hM.2.2 hC.2.2.2.2.2.2.2 q h) (mw_A hM.2.1 hM.2.2 hC.2.2.2.2.2.2.2) (fun r2 u t H1 locs1 ht hvm hw hB hz1 hk1 hS => ?_)
  obtain ⟨rfl, hpb⟩ := hw
  exact kk H1 locs1 (mw_back hM hC ht hB hS) hpb
theorem mw_cv {st0 : List Value} {As : List Value} {M' : mM} (hC : mw_C p s m args c cc nL own x D cl tys ss ak av A) (hM : mw_P D cl N en a M A s.heap H locs)
    (hr : va_Run p l e R s m args below meth c H locs 0 0 0 0 (F0 m pc ls st0) rest (va_Qv (fun (_ : Unit) => True) (fun _ t => mw_Post D cl tys N en a M' (va_A (mw_ws N en a M) H.size) t) (va_A (mw_ws N en a M) H.size) As.toArray) (va_A (mw_ws N en a M) H.size))
    (kk : ∀ (H1 : Heap) (locs1 : List Loc), mw_P D cl N en a M' A s.heap H1 locs1 → W p l e R s m args below meth c H1 locs1 0 0 Q (F0 m (pc + 3) ls rest)) : W p l e R s m args below meth c H locs 0 0 Q (F0 m pc ls st0) := by
  refine va_callv hr hM.2.2 (fun q _ h => mw_A hM.2.1 hM.2.2 hC.2.2.2.2.2.2.2 q h) (mw_A hM.2.1 hM.2.2 hC.2.2.2.2.2.2.2) (fun u t H1 locs1 ht hvm hw hB hz1 hk1 hS => ?_)
  exact kk H1 locs1 (mw_back hM hC ht hB hS)
theorem ws_gc {x w : Cond} (h : w ∈ WS) : w ∈ (x :: WS) ∧ ((w.onTables && w.keeps) = true ∨ ∃ ty, w = .arrayClass ty) := ⟨List.mem_cons_of_mem _ h, ws_good w h⟩
theorem ws_gd {x y : Cond} (h : y ∈ WS) : GoodIn (x :: WS) (y :: WS) := fun w hw => (List.mem_cons.mp hw).elim (fun e => e ▸ ws_gc h) ws_gc
theorem mw_kV (hC : mw_C p s m args c cc nL own x D cl tys ss ak av A) {C : String} {index n maxL : Nat} {y : MethodName} {bytes : ByteArray} {ret : Option FieldType} {rm : Room} (h1 : .methodLink own index y ∈ WS) (h2 : .instanceMethod y ∈ WS) (h3 : .selects C y y ∈ WS) (h4 : .initialized C ∈ WS) (h5 : .code y bytes maxL ret ∈ WS)
    (hrc : rm.cells = 0 ∧ rm.slots = 0) (hd : y.cls = C ∧ y.cls ≠ "java/lang/invoke/MethodHandle" ∧ y.cls ≠ "java/lang/invoke/VarHandle" ∧ (parseMethodDescriptor y.desc).map (fun d => d.parameters.length) = some n) (hR : rm.frames + 1 ≤ R.frames ∧ 8 + (maxL + 11) + rm.locals ≤ R.locals) :
    CallW R s args own C index y bytes maxL ret (.code y bytes maxL ret :: WS) rm 0 0 n :=
  cwV n hC.2.2.2.2.1 (fun w hw => by
    rcases List.mem_append.mp hw with h | h
    · simp only [List.mem_cons, List.not_mem_nil, or_false] at h
      rcases h with rfl | rfl | rfl | rfl
      · exact ws_gc h1
      · exact ws_gc h2
      · exact ws_gc h3
      · exact ws_gc h4
    · exact ws_gd h5 w h) rfl hrc.1 hrc.2 hd hR
theorem mw_kS (hC : mw_C p s m args c cc nL own x D cl tys ss ak av A) {index n maxL : Nat} {y : MethodName} {bytes : ByteArray} {ret : Option FieldType} {rm : Room} (h1 : .methodLink own index y ∈ WS) (h2 : .static y ∈ WS) (h4 : .initialized y.cls ∈ WS) (h5 : .code y bytes maxL ret ∈ WS)
    (hrc : rm.cells = 0 ∧ rm.slots = 0) (hd : y.cls ≠ "java/lang/invoke/MethodHandle" ∧ y.cls ≠ "java/lang/invoke/VarHandle" ∧ (parseMethodDescriptor y.desc).map (fun d => d.parameters.length) = some n) (hR : rm.frames + 1 ≤ R.frames ∧ 8 + (maxL + 11) + rm.locals ≤ R.locals) :
    CallB R s args own index y bytes maxL ret (.code y bytes maxL ret :: WS) rm 0 0 n ∧ (Cond.static y).before args s = true :=
  va_cwS n hC.2.2.2.2.1 (fun w hw => by
    rcases List.mem_append.mp hw with h | h
    · simp only [List.mem_cons, List.not_mem_nil, or_false] at h
      rcases h with rfl | rfl | rfl
      · exact ws_gc h1
      · exact ws_gc h2
      · exact ws_gc h4
    · exact ws_gd h5 w h) rfl hrc.1 hrc.2 hd hR
theorem mw_kN (hC : mw_C p s m args c cc nL own x D cl tys ss ak av A) {index n maxL : Nat} {y : MethodName} {host : String} {bytes : ByteArray} {ret : Option FieldType} {rm : Room} (h1 : va_Nw (.methodLinkNest own index y host) s) (h2 : .static y ∈ WS) (h4 : .initialized y.cls ∈ WS) (h5 : .code y bytes maxL ret ∈ WS)
    (hrc : rm.cells = 0 ∧ rm.slots = 0) (hd : y.cls ≠ "java/lang/invoke/MethodHandle" ∧ y.cls ≠ "java/lang/invoke/VarHandle" ∧ (parseMethodDescriptor y.desc).map (fun d => d.parameters.length) = some n) (hR : rm.frames + 1 ≤ R.frames ∧ 8 + (maxL + 11) + rm.locals ≤ R.locals) :
    va_CN R s args own index y host bytes maxL ret (.code y bytes maxL ret :: WS) rm 0 0 n ∧ (Cond.static y).before args s = true ∧ True :=
  ⟨va_cnB n hC.2.2.2.2.1 (ws_gd h5) rfl hrc.1 hrc.2 h1 (mw_w hC h4) hd hR, mw_w hC h2, trivial⟩
theorem mw_fix (hC : mw_C p s m args c cc nL own x D cl tys ss ak av A) : CallFix p m c cc nL s args (x :: WS) own := ⟨hC.1, hC.2.1, hC.2.2.1, hC.2.2.2.1, hC.2.2.2.2.1⟩
/-- a call of a method of the receiver's own class, int or boolean -/
theorem mw_cVi {st0 : List Value} {C : String} {index n maxL : Nat} {y : MethodName} {bytes : ByteArray} {ret : Option FieldType} {rm : Room} {pb : Int32 → Prop} {As : List Value} {r : Int32} {M' : mM} {q ci : Nat} {T : u_T} {Nf : Nat} {fs : (Nat → Int32) → List Value} (hC : mw_C p s m args c cc nL own x D cl tys ss ak av A) (hM : mw_P D cl N en a M A s.heap H locs)
    (hc : mw_Mi D cl tys N en a ss ak av l y bytes maxL ret rm pb (.ref (a q) :: As) M r M') (cw : CallW R s args own C index y bytes maxL ret (.code y bytes maxL ret :: WS) rm 0 0 n) (hq : q < N) (hen : ∀ z, en q z = .inr (ci, fs z)) (hcl : cl[ci]? = some (C, T, Nf))
    (hst : st0 = As.reverse ++ .ref (a q) :: rest) (hn : As.length = n) (h8 : (rest.map fun v => v.category).sum ≤ 8) (hl : ls.size = nL) (hdg : decode cc pc = .ok (.invokevirtual index, 3))
    (kk : ∀ (H1 : Heap) (locs1 : List Loc), mw_P D cl N en a M' A s.heap H1 locs1 → pb r → W p l e R s m args below meth c H1 locs1 0 0 Q (F0 m (pc + 3) ls (.int r :: rest))) : W p l e R s m args below meth c H locs 0 0 Q (F0 m pc ls st0) :=
  mw_ci (bytes := bytes) (y := y) (maxL := maxL) (ret := ret) (rm := rm) (As := .ref (a q) :: As) hC hM (va_runV (As := As) (rest := rest) (b := a q) (mw_fix hC) (hc H.size) cw ⟨mw_blind, mw_recv hC hM hq hen hcl, mw_pre hC hM _⟩ rfl hn hl hst (lv_room h8) hdg ⟨Nat.zero_le _, Nat.zero_le _⟩) kk
theorem mw_cVv {st0 : List Value} {C : String} {index n maxL : Nat} {y : MethodName} {bytes : ByteArray} {ret : Option FieldType} {rm : Room} {As : List Value} {M' : mM} {q ci : Nat} {T : u_T} {Nf : Nat} {fs : (Nat → Int32) → List Value} (hC : mw_C p s m args c cc nL own x D cl tys ss ak av A) (hM : mw_P D cl N en a M A s.heap H locs)
    (hc : mw_Mv D cl tys N en a ss ak av l y bytes maxL ret rm (.ref (a q) :: As) M M') (cw : CallW R s args own C index y bytes maxL ret (.code y bytes maxL ret :: WS) rm 0 0 n) (hq : q < N) (hen : ∀ z, en q z = .inr (ci, fs z)) (hcl : cl[ci]? = some (C, T, Nf))
    (hst : st0 = As.reverse ++ .ref (a q) :: rest) (hn : As.length = n) (h8 : (rest.map fun v => v.category).sum ≤ 8) (hl : ls.size = nL) (hdg : decode cc pc = .ok (.invokevirtual index, 3))
    (kk : ∀ (H1 : Heap) (locs1 : List Loc), mw_P D cl N en a M' A s.heap H1 locs1 → W p l e R s m args below meth c H1 locs1 0 0 Q (F0 m (pc + 3) ls rest)) : W p l e R s m args below meth c H locs 0 0 Q (F0 m pc ls st0) :=
  mw_cv (As := .ref (a q) :: As) hC hM (va_runV (As := As) (rest := rest) (b := a q) (mw_fix hC) (hc H.size) cw ⟨mw_blind, mw_recv hC hM hq hen hcl, mw_pre hC hM _⟩ rfl hn hl hst (lv_room h8) hdg ⟨Nat.zero_le _, Nat.zero_le _⟩) kk
/-- a static method -/
theorem mw_cSi {st0 : List Value} {index n maxL : Nat} {y : MethodName} {bytes : ByteArray} {ret : Option FieldType} {rm : Room} {pb : Int32 → Prop} {As : List Value} {r : Int32} {M' : mM} (hC : mw_C p s m args c cc nL own x D cl tys ss ak av A) (hM : mw_P D cl N en a M A s.heap H locs)
    (hc : mw_Mi D cl tys N en a ss ak av l y bytes maxL ret rm pb As M r M') (cw : CallB R s args own index y bytes maxL ret (.code y bytes maxL ret :: WS) rm 0 0 n ∧ (Cond.static y).before args s = true)
    (hst : st0 = As.reverse ++ rest) (hn : As.length = n) (h8 : (rest.map fun v => v.category).sum ≤ 8) (hl : ls.size = nL) (hdg : decode cc pc = .ok (.invokestatic index, 3))
    (kk : ∀ (H1 : Heap) (locs1 : List Loc), mw_P D cl N en a M' A s.heap H1 locs1 → pb r → W p l e R s m args below meth c H1 locs1 0 0 Q (F0 m (pc + 3) ls (.int r :: rest))) : W p l e R s m args below meth c H locs 0 0 Q (F0 m pc ls st0) :=
  mw_ci (bytes := bytes) (y := y) (maxL := maxL) (ret := ret) (rm := rm) (As := As) hC hM (va_runS (As := As) (rest := rest) (mw_fix hC) (hc H.size) cw ⟨mw_blind, mw_pre hC hM _⟩ rfl hn hl hst (lv_room h8) hdg ⟨Nat.zero_le _, Nat.zero_le _⟩) kk
theorem mw_cSv {st0 : List Value} {index n maxL : Nat} {y : MethodName} {bytes : ByteArray} {ret : Option FieldType} {rm : Room} {As : List Value} {M' : mM} (hC : mw_C p s m args c cc nL own x D cl tys ss ak av A) (hM : mw_P D cl N en a M A s.heap H locs)
    (hc : mw_Mv D cl tys N en a ss ak av l y bytes maxL ret rm As M M') (cw : CallB R s args own index y bytes maxL ret (.code y bytes maxL ret :: WS) rm 0 0 n ∧ (Cond.static y).before args s = true)
    (hst : st0 = As.reverse ++ rest) (hn : As.length = n) (h8 : (rest.map fun v => v.category).sum ≤ 8) (hl : ls.size = nL) (hdg : decode cc pc = .ok (.invokestatic index, 3))
    (kk : ∀ (H1 : Heap) (locs1 : List Loc), mw_P D cl N en a M' A s.heap H1 locs1 → W p l e R s m args below meth c H1 locs1 0 0 Q (F0 m (pc + 3) ls rest)) : W p l e R s m args below meth c H locs 0 0 Q (F0 m pc ls st0) :=
  mw_cv (As := As) hC hM (va_runS (As := As) (rest := rest) (mw_fix hC) (hc H.size) cw ⟨mw_blind, mw_pre hC hM _⟩ rfl hn hl hst (lv_room h8) hdg ⟨Nat.zero_le _, Nat.zero_le _⟩) kk
/-- a static method of a nest mate -/
theorem mw_cNi {st0 : List Value} {index n maxL : Nat} {y : MethodName} {host : String} {bytes : ByteArray} {ret : Option FieldType} {rm : Room} {pb : Int32 → Prop} {As : List Value} {r : Int32} {M' : mM} (hC : mw_C p s m args c cc nL own x D cl tys ss ak av A) (hM : mw_P D cl N en a M A s.heap H locs)
    (hc : mw_Mi D cl tys N en a ss ak av l y bytes maxL ret rm pb As M r M') (cw : va_CN R s args own index y host bytes maxL ret (.code y bytes maxL ret :: WS) rm 0 0 n ∧ (Cond.static y).before args s = true ∧ True)
    (hst : st0 = As.reverse ++ rest) (hn : As.length = n) (h8 : (rest.map fun v => v.category).sum ≤ 8) (hl : ls.size = nL) (hdg : decode cc pc = .ok (.invokestatic index, 3))
    (kk : ∀ (H1 : Heap) (locs1 : List Loc), mw_P D cl N en a M' A s.heap H1 locs1 → pb r → W p l e R s m args below meth c H1 locs1 0 0 Q (F0 m (pc + 3) ls (.int r :: rest))) : W p l e R s m args below meth c H locs 0 0 Q (F0 m pc ls st0) :=
  mw_ci (bytes := bytes) (y := y) (maxL := maxL) (ret := ret) (rm := rm) (As := As) hC hM (va_runSN (As := As) (rest := rest) (mw_fix hC) (hc H.size) cw ⟨mw_blind, mw_pre hC hM _⟩ rfl hn hl hst (lv_room h8) hdg ⟨Nat.zero_le _, Nat.zero_le _⟩) kk
end MW

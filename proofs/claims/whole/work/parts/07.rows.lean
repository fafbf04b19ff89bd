theorem o_r1 {r v : Int32} {M M' : mM} (h : some (v, M) = some (r, M')) : v = r := (Prod.mk.inj (Option.some.inj h)).1
theorem o_r2 {r v : Int32} {M M' : mM} (h : some (v, M) = some (r, M')) {D : va_G} {cl : List vw_C} {N : Nat} {en : mE} {a : Nat → Nat} {A : Nat → Prop} {H0 H : Heap} {locs : List Loc} (hM : mw_P D cl N en a M A H0 H locs) : mw_P D cl N en a M' A H0 H locs := (Prod.mk.inj (Option.some.inj h)).2 ▸ hM
def nz (y : Int32) : Bool := decide (y ≠ 0)
theorem nz_ne {y : Int32} (h : nz y = true) : ¬ y = 0 := by simpa [nz] using h
def irem (x y : Int32) : Int32 := x - x / y * y
def i2b (x : Int32) : Int32 := x.toInt8.toInt32
def i2s (x : Int32) : Int32 := x.toInt16.toInt32
def lcmp (x y : Int64) : Int32 := lg_cmp x y
def jmax (x y : Int32) : Int32 := if x < y then y else x
def jmin (x y : Int32) : Int32 := if y < x then y else x
theorem sw_ne {x v : Int32} {k : Int} (hk : v.toInt = k) (h : ¬ x = v) : ¬ x.toInt = k := fun e => h (Int32.toInt_inj.mp (e.trans hk.symm))
theorem th_last {i : Int32} (h : ix i 6 = true) (h0 : ¬ i = 0) (h1 : ¬ i = 1) (h2 : ¬ i = 2) (h3 : ¬ i = 3) (h4 : ¬ i = 4) : i = 5 := by
  obtain ⟨j, hj, rfl⟩ := vp_in_of (ix_in h) (by decide)
  have e : j = 0 ∨ j = 1 ∨ j = 2 ∨ j = 3 ∨ j = 4 ∨ j = 5 := by omega
  rcases e with rfl | rfl | rfl | rfl | rfl | rfl <;> first | rfl | exact absurd rfl h0 | exact absurd rfl h1 | exact absurd rfl h2 | exact absurd rfl h3 | exact absurd rfl h4
def cpok (sp dp n : Int32) (n0 n1 : Nat) : Bool := decide (0 ≤ sp) && decide (0 ≤ dp) && decide (0 ≤ n) && decide (sp.toNatClampNeg + n.toNatClampNeg ≤ n0) && decide (dp.toNatClampNeg + n.toNatClampNeg ≤ n1)
def cpy (M : mM) (q0 q1 : Nat) (sp dp n : Int32) : mM := va_up M q1 (va_cpy (M q0) (M q1) sp.toNatClampNeg dp.toNatClampNeg n.toNatClampNeg)
def sok (i : Nat) : Bool := decide (i < 24)
theorem ge_nlt {x : Int32} (h : 0 ≤ x) : ¬ x < 0 := fun z => by
  have h1 := Int32.le_iff_toInt_le.mp h
  have h2 := Int32.lt_iff_toInt_lt.mp z
  omega
section MX
variable {p : Program} {l : Launch} {e : Env} {R : Room} {s : State} {m : MethodId} {args : Array Value} {below : List Frame} {meth : Method} {c : Code} {H : Heap} {locs : List Loc} {cells slots : Nat} {Q : State → Prop}
variable {cc : ByteArray} {nL pc : Nat} {own : String} {x : Cond} {ls : Array Slot} {rest : List Value} {D : va_G} {cl : List vw_C} {tys : List (ClassId × FieldType)} {N : Nat} {en : mE} {a : Nat → Nat} {ss : mS} {ak av : Nat → Nat} {A : Nat → Prop} {M : mM}
theorem mw_irem (hexec : p.tables.exec = Jvm.exec) (hb : c.code = cc) {u v : Int32} (hdg : decode cc pc = .ok (.irem, 1)) (hne : ¬ v = 0) (k : W p l e R s m args below meth c H locs cells slots Q (F0 m (pc + 1) ls (.int (irem u v) :: rest))) : W p l e R s m args below meth c H locs cells slots Q (F0 m pc ls (.int v :: .int u :: rest)) := lv_irem hexec hb hdg hne k
theorem mw_lcmp (hexec : p.tables.exec = Jvm.exec) (hb : c.code = cc) {u v : Int64} (hdg : decode cc pc = .ok (.lcmp, 1)) (k : W p l e R s m args below meth c H locs cells slots Q (F0 m (pc + 1) ls (.int (lcmp u v) :: rest))) : W p l e R s m args below meth c H locs cells slots Q (F0 m pc ls (.long v :: .long u :: rest)) := W.lcmp hexec hb hdg k
theorem mw_max (hC : mw_C p s m args c cc nL own x D cl tys ss ak av A) (hl : ls.size = nL) {index : Nat} (h1 : .methodLink own index Lib.Math.max.name ∈ WS) (h2 : .static Lib.Math.max.name ∈ WS) (h3 : .initialized "java/lang/Math" ∈ WS) (h4 : .code Lib.Math.max.name Lib.Math.max.code 2 (some .int) ∈ WS) (hframes : 1 ≤ R.frames) (hlocals : (rest.map fun v => v.category).sum + 13 ≤ R.locals) {u v : Int32} (hdg : decode cc pc = .ok (.invokestatic index, 3))
    (kk : W p l e R s m args below meth c H locs 0 0 Q (F0 m (pc + 3) ls (.int (jmax u v) :: rest))) : W p l e R s m args below meth c H locs 0 0 Q (F0 m pc ls (.int v :: .int u :: rest)) :=
  va_mmax hC.1 hC.2.1 (hC.2.2.1.trans hl.symm) hC.2.2.2.1 (mw_w hC h1) (mw_w hC h2) (mw_w hC h3) (mw_w hC h4) hframes hlocals (Nat.zero_le _) (Nat.zero_le _) hdg kk
theorem mw_min (hC : mw_C p s m args c cc nL own x D cl tys ss ak av A) (hl : ls.size = nL) {index : Nat} (h1 : .methodLink own index Lib.Math.min.name ∈ WS) (h2 : .static Lib.Math.min.name ∈ WS) (h3 : .initialized "java/lang/Math" ∈ WS) (h4 : .code Lib.Math.min.name Lib.Math.min.code 2 (some .int) ∈ WS) (hframes : 1 ≤ R.frames) (hlocals : (rest.map fun v => v.category).sum + 13 ≤ R.locals) {u v : Int32} (hdg : decode cc pc = .ok (.invokestatic index, 3))
    (kk : W p l e R s m args below meth c H locs 0 0 Q (F0 m (pc + 3) ls (.int (jmin u v) :: rest))) : W p l e R s m args below meth c H locs 0 0 Q (F0 m pc ls (.int v :: .int u :: rest)) :=
  va_mmin hC.1 hC.2.1 (hC.2.2.1.trans hl.symm) hC.2.2.2.1 (mw_w hC h1) (mw_w hC h2) (mw_w hC h3) (mw_w hC h4) hframes hlocals (Nat.zero_le _) (Nat.zero_le _) hdg kk
theorem mw_alen (hC : mw_C p s m args c cc nL own x D cl tys ss ak av A) (hM : mw_P D cl N en a M A s.heap H locs) (q t0 : Nat) {cA : ClassId} {n : Nat} (hq : q < N) (hen : ∀ z, en q z = .inl (cA, n, .inl z)) (ht : tys[t0]? = some (cA, .int)) (hdg : decode cc pc = .ok (.arraylength, 1))
    (kk : W p l e R s m args below meth c H locs cells slots Q (F0 m (pc + 1) ls (.int (Int32.ofNat n) :: rest))) : W p l e R s m args below meth c H locs cells slots Q (F0 m pc ls (.ref (a q) :: rest)) :=
  va_alen (x := (n, .inl (M q))) hC.1 hC.2.1 hC.2.2.2.2.2.1 hM.1 q t0 (by rw [mw_ix q hq, hen]) ht rfl hdg kk
theorem mw_aald (hC : mw_C p s m args c cc nL own x D cl tys ss ak av A) (hM : mw_P D cl N en a M A s.heap H locs) (q t0 : Nat) {cA : ClassId} {K : String} {n : Nat} {f : Nat → Option Nat} (hq : q < N) (hen : ∀ z, en q z = .inl (cA, n, .inr (.inr (.inr (.inr f))))) (ht : tys[t0]? = some (cA, .object K)) {i : Int32} (hin : ix i n = true) (hdg : decode cc pc = .ok (.aaload, 1))
    (kk : W p l e R s m args below meth c H locs cells slots Q (F0 m (pc + 1) ls (va_rf (f i.toNatClampNeg) :: rest))) : W p l e R s m args below meth c H locs cells slots Q (F0 m pc ls (.int i :: .ref (a q) :: rest)) :=
  va_aldq hC.1 hC.2.1 hC.2.2.2.2.2.1 hM.1 q t0 (by rw [mw_ix q hq, hen]) ht (ix_in hin) hdg kk
theorem mw_str (hC : mw_C p s m args c cc nL own x D cl tys ss ak av A) (k : Nat) {q : String × Nat × String × Nat} (h : ss.2.2.2[k]? = some q) : vk_R q.1 q.2.1 q.2.2.1 (ak q.2.2.2) s := hC.2.2.2.2.2.2.1.2.1 k q h
theorem mw_nw (hC : mw_C p s m args c cc nL own x D cl tys ss ak av A) (k : Nat) {q : String × Nat × MethodName × String} (h : NWl[k]? = some q) : va_Nw (.methodLinkNest q.1 q.2.1 q.2.2.1 q.2.2.2) s := hC.2.2.2.2.2.2.1.2.2.1 k q h
theorem mw_copy (hC : mw_C p s m args c cc nL own x D cl tys ss ak av A) (hM : mw_P D cl N en a M A s.heap H locs) (q0 q1 t0 : Nat) {cA : ClassId} {n0 n1 : Nat} (hq0 : q0 < N) (hq1 : q1 < N) (hen0 : ∀ z, en q0 z = .inl (cA, n0, .inl z)) (hen1 : ∀ z, en q1 z = .inl (cA, n1, .inl z)) (ht : tys[t0]? = some (cA, .int)) {sp dp n : Int32} (hg : cpok sp dp n n0 n1 = true) (hl : ls.size = nL)
    {index : Nat} (h1 : .methodLink own index arraycopyName ∈ WS) (h2 : .native arraycopyName ∈ WS) (h3 : .static arraycopyName ∈ WS) (h4 : .initialized "java/lang/System" ∈ WS) (hframes : 1 ≤ R.frames) (hlocals : (rest.map fun v => v.category).sum + 18 ≤ R.locals) (hdg : decode cc pc = .ok (.invokestatic index, 3))
    (kk : ∀ (H1 : Heap) (locs1 : List Loc), mw_P D cl N en a (cpy M q0 q1 sp dp n) A s.heap H1 locs1 → W p l e R s m args below meth c H1 locs1 cells slots Q (F0 m (pc + 3) ls rest)) : W p l e R s m args below meth c H locs cells slots Q (F0 m pc ls (.int n :: .int dp :: .ref (a q1) :: .int sp :: .ref (a q0) :: rest)) := by
  simp only [cpok, Bool.and_eq_true, decide_eq_true_eq] at hg
  obtain ⟨⟨⟨⟨g1, g2⟩, g3⟩, g4⟩, g5⟩ := hg
  refine va_copyi hC.1 hC.2.1 (hC.2.2.1.trans hl.symm) hC.2.2.2.1 (mw_w hC h1) (mw_w hC h2) (mw_w hC h3) (mw_w hC h4) hC.2.2.2.2.2.1 hM.1 hM.2.1 hM.2.2 q0 q1 t0 t0 (by rw [mw_ix q0 hq0, hen0]) (by rw [mw_ix q1 hq1, hen1]) ht ht rfl (ge_nlt g1) (ge_nlt g2) (ge_nlt g3) g4 g5 (fun _ _ => rfl) hframes (by simpa [nativeFrameWords] using hlocals) hdg fun H1 locs1 hP hD hS => kk H1 locs1 ?_
  rw [← hen1, mw_set] at hP hD
  exact ⟨hP, hD, hS⟩
-- virtual calls of what a subclass may override
theorem mw_kO (hC : mw_C p s m args c cc nL own x D cl tys ss ak av A) {C owner : String} {index n maxL : Nat} {x0 y : MethodName} {bytes : ByteArray} {ret : Option FieldType} {rm : Room} {b0 : ByteArray} {m0 : Nat} {r0 : Option FieldType} (h1 : .methodLink own index x0 ∈ WS) (h2 : .sameMethod x0.cls owner x0.name x0.desc ∈ WS) (h3 : .instanceMethod ⟨owner, x0.name, x0.desc⟩ ∈ WS) (h4 : .selects C x0 y ∈ WS) (h5 : .instanceMethod y ∈ WS) (h6 : .initialized y.cls ∈ WS) (h7 : .code y bytes maxL ret ∈ WS) (h8 : .code ⟨owner, x0.name, x0.desc⟩ b0 m0 r0 ∈ WS)
    (hrc : rm.cells = 0 ∧ rm.slots = 0) (hd : owner ≠ "java/lang/invoke/MethodHandle" ∧ owner ≠ "java/lang/invoke/VarHandle" ∧ (parseMethodDescriptor x0.desc).map (fun d => d.parameters.length) = some n) (hR : rm.frames + 1 ≤ R.frames ∧ 8 + (maxL + 11) + rm.locals ≤ R.locals) :
    va_CU R s args own C owner index x0 y bytes maxL ret (.code y bytes maxL ret :: WS) rm 0 0 n :=
  va_cwO n hC.2.2.2.2.1 (fun w hw => by
    rcases List.mem_append.mp hw with h | h
    · simp only [List.mem_cons, List.not_mem_nil, or_false] at h
      rcases h with rfl | rfl | rfl | rfl | rfl | rfl
      · exact ws_gc h1
      · exact ws_gc h2
      · exact ws_gc h3
      · exact ws_gc h4
      · exact ws_gc h5
      · exact ws_gc h6
    · exact ws_gd h7 w h) rfl hrc.1 hrc.2 (List.mem_cons_of_mem _ h8) hd hR
theorem mw_cOi {st0 : List Value} {C owner : String} {index n maxL : Nat} {x0 y : MethodName} {bytes : ByteArray} {ret : Option FieldType} {rm : Room} {pb : Int32 → Prop} {As : List Value} {r : Int32} {M' : mM} {q ci : Nat} {T : u_T} {Nf : Nat} {fs : (Nat → Int32) → List Value} (hC : mw_C p s m args c cc nL own x D cl tys ss ak av A) (hM : mw_P D cl N en a M A s.heap H locs)
    (hc : mw_Mi D cl tys N en a ss ak av l y bytes maxL ret rm pb (.ref (a q) :: As) M r M') (cw : va_CU R s args own C owner index x0 y bytes maxL ret (.code y bytes maxL ret :: WS) rm 0 0 n) (hq : q < N) (hen : ∀ z, en q z = .inr (ci, fs z)) (hcl : cl[ci]? = some (C, T, Nf))
    (hst : st0 = As.reverse ++ .ref (a q) :: rest) (hn : As.length = n) (h8 : (rest.map fun v => v.category).sum ≤ 8) (hl : ls.size = nL) (hdg : decode cc pc = .ok (.invokevirtual index, 3))
    (kk : ∀ (H1 : Heap) (locs1 : List Loc), mw_P D cl N en a M' A s.heap H1 locs1 → pb r → W p l e R s m args below meth c H1 locs1 0 0 Q (F0 m (pc + 3) ls (.int r :: rest))) : W p l e R s m args below meth c H locs 0 0 Q (F0 m pc ls st0) :=
  mw_ci (bytes := bytes) (y := y) (maxL := maxL) (ret := ret) (rm := rm) (As := .ref (a q) :: As) hC hM (va_runU (As := As) (rest := rest) (b := a q) (mw_fix hC) (hc H.size) cw ⟨mw_blind, mw_recv hC hM hq hen hcl, mw_pre hC hM _⟩ rfl hn hl hst (lv_room h8) hdg ⟨Nat.zero_le _, Nat.zero_le _⟩) kk
-- super calls
theorem mw_kU (hC : mw_C p s m args c cc nL own x D cl tys ss ak av A) {index n maxL : Nat} {y : MethodName} {bytes : ByteArray} {ret : Option FieldType} {rm : Room} (h1 : .methodLink own index y ∈ WS) (h2 : .sameMethod y.cls y.cls y.name y.desc ∈ WS) (h3 : .superclass own y.cls ∈ WS) (h4 : .instanceMethod y ∈ WS) (h5 : .initialized y.cls ∈ WS) (h6 : .code y bytes maxL ret ∈ WS)
    (hrc : rm.cells = 0 ∧ rm.slots = 0) (hd : y.name ≠ "<init>" ∧ (parseMethodDescriptor y.desc).map (fun d => d.parameters.length) = some n) (hR : rm.frames + 1 ≤ R.frames ∧ 8 + (maxL + 11) + rm.locals ≤ R.locals) :
    va_CS R s args own index y bytes maxL ret (.code y bytes maxL ret :: WS) rm 0 0 n :=
  va_cwSU n hC.2.2.2.2.1 (fun w hw => by
    rcases List.mem_append.mp hw with h | h
    · simp only [List.mem_cons, List.not_mem_nil, or_false] at h
      rcases h with rfl | rfl | rfl | rfl | rfl
      · exact ws_gc h1
      · exact ws_gc h2
      · exact ws_gc h3
      · exact ws_gc h4
      · exact ws_gc h5
    · exact ws_gd h6 w h) rfl hrc.1 hrc.2 hd hR
theorem mw_cUi {st0 : List Value} {C : String} {index n maxL : Nat} {y : MethodName} {bytes : ByteArray} {ret : Option FieldType} {rm : Room} {pb : Int32 → Prop} {As : List Value} {r : Int32} {M' : mM} {q ci : Nat} {T : u_T} {Nf : Nat} {fs : (Nat → Int32) → List Value} (hC : mw_C p s m args c cc nL own x D cl tys ss ak av A) (hM : mw_P D cl N en a M A s.heap H locs)
    (hc : mw_Mi D cl tys N en a ss ak av l y bytes maxL ret rm pb (.ref (a q) :: As) M r M') (cw : va_CS R s args own index y bytes maxL ret (.code y bytes maxL ret :: WS) rm 0 0 n) (hq : q < N) (hen : ∀ z, en q z = .inr (ci, fs z)) (hcl : cl[ci]? = some (C, T, Nf))
    (hst : st0 = As.reverse ++ .ref (a q) :: rest) (hn : As.length = n) (h8 : (rest.map fun v => v.category).sum ≤ 8) (hl : ls.size = nL) (hdg : decode cc pc = .ok (.invokespecial index, 3))
    (kk : ∀ (H1 : Heap) (locs1 : List Loc), mw_P D cl N en a M' A s.heap H1 locs1 → pb r → W p l e R s m args below meth c H1 locs1 0 0 Q (F0 m (pc + 3) ls (.int r :: rest))) : W p l e R s m args below meth c H locs 0 0 Q (F0 m pc ls st0) :=
  mw_ci (bytes := bytes) (y := y) (maxL := maxL) (ret := ret) (rm := rm) (As := .ref (a q) :: As) hC hM (va_runSU (As := As) (rest := rest) (b := a q) (hC.2.2.2.2.2.1.1 ci _ hcl).2 (mw_fix hC) (hc H.size) cw ⟨mw_blind, mw_recv hC hM hq hen hcl, mw_pre hC hM _⟩ rfl hn hl hst (lv_room h8) hdg ⟨Nat.zero_le _, Nat.zero_le _⟩) kk
/-- a super call of what the superclass inherits from its own -/
theorem mw_cXi {st0 : List Value} {C owner : String} {index n maxL : Nat} {x0 y : MethodName} {bytes : ByteArray} {ret : Option FieldType} {rm : Room} {pb : Int32 → Prop} {As : List Value} {r : Int32} {M' : mM} {q ci : Nat} {T : u_T} {Nf : Nat} {fs : (Nat → Int32) → List Value} (hC : mw_C p s m args c cc nL own x D cl tys ss ak av A) (hM : mw_P D cl N en a M A s.heap H locs)
    (hc : mw_Mi D cl tys N en a ss ak av l y bytes maxL ret rm pb (.ref (a q) :: As) M r M') (l1 : .methodLink own index x0 ∈ WS) (l2 : .sameMethod x0.cls owner x0.name x0.desc ∈ WS) (l3 : .superclass own x0.cls ∈ WS) (l4 : .superclass x0.cls owner ∈ WS) (l5 : .instanceMethod y ∈ WS) (l6 : .initialized y.cls ∈ WS) (l7 : .code y bytes maxL ret ∈ WS)
    (hd : y.name ≠ "<init>" ∧ (parseMethodDescriptor y.desc).map (fun d => d.parameters.length) = some n) (hR : rm.frames + 1 ≤ R.frames ∧ 8 + (maxL + 11) + rm.locals ≤ R.locals) (hrm : rm.cells = 0 ∧ rm.slots = 0) (hyx : y = ⟨owner, x0.name, x0.desc⟩) (hq : q < N) (hen : ∀ z, en q z = .inr (ci, fs z)) (hcl : cl[ci]? = some (C, T, Nf))
    (hst : st0 = As.reverse ++ .ref (a q) :: rest) (hn : As.length = n) (h8 : (rest.map fun v => v.category).sum ≤ 8) (hl : ls.size = nL) (hdg : decode cc pc = .ok (.invokespecial index, 3))
    (kk : ∀ (H1 : Heap) (locs1 : List Loc), mw_P D cl N en a M' A s.heap H1 locs1 → pb r → W p l e R s m args below meth c H1 locs1 0 0 Q (F0 m (pc + 3) ls (.int r :: rest))) : W p l e R s m args below meth c H locs 0 0 Q (F0 m pc ls st0) := by
  refine mw_ci (bytes := bytes) (y := y) (maxL := maxL) (ret := ret) (rm := rm) (As := .ref (a q) :: As) (pb := pb) (r := r) (M' := M') (rest := rest) hC hM ?_ kk
  subst hyx
  have hMm := hc H.size
  obtain ⟨hx, hb, hml, ho, hts⟩ := mw_fix hC
  have hK : Back l R p e below s args ⟨owner, x0.name, x0.desc⟩ 3 8 (PreOf R 0 0 (va_Pc (.ref (a q) :: As) (mw_Pre D cl tys N en a ss ak av M H.size))) (PostOf (va_Qi (fun (r2 : Int32) (_ : Unit) => r2 = r ∧ pb r2) (fun _ t => mw_Post D cl tys N en a M' (va_A (mw_ws N en a M) H.size) t) (va_A (mw_ws N en a M) H.size)) 0 0 (va_A (mw_ws N en a M) H.size)) :=
    back_of (bytes := bytes) (maxL := maxL) (ret := ret) hMm mw_blind hrm.1 hrm.2 hR.1 hR.2 (pay_in hts (ws_gd l7)) List.mem_cons_self (fun a' U hW => word_at hW (Or.inl (by first | rfl | simp [Cond.onTables, Cond.keeps, Cond.steady])) (mw_w hC l6))
  obtain ⟨cellB, hcB, hoB, hclB⟩ := mw_recv hC hM hq hen hcl
  obtain ⟨hfc, kB, hkB, -⟩ := (hC.2.2.2.2.2.1.1 ci _ hcl).2
  have ecl := Option.some.inj (hclB.symm.trans hfc)
  have hPc := mw_pre hC hM (.ref (a q) :: As)
  have hcode := mw_w hC l7
  obtain ⟨mk, methM, hnamed, hmethM, hstM, habM⟩ := Cond.instanceMethod_spec (mw_w hC l5)
  obtain ⟨methM', cM, hmethM', -, -, -, -, -, -, hsigM⟩ := Cond.code_spec hnamed hcode
  cases hmethM.symm.trans hmethM'
  obtain ⟨ps, dk, kp, hps, hdk, hkp, hsuper, -, -, hnid⟩ := Cond.superclass_spec ho (mw_w hC l3)
  obtain ⟨ps2, dk2, kp2, hps2, hdk2, hkp2, hsuper2, -, -, -⟩ := Cond.superclass_spec hps (mw_w hC l4)
  have hpm : ps2 = mk.cls := Option.some.inj (hps2.symm.trans (findClass_of_methodNamed hnamed))
  have hsz : 0 < s.vm.classes.size := Nat.lt_of_le_of_lt (Nat.zero_le _) (Array.getElem?_eq_some_iff.mp hdk2).1
  have hsub : s.vm.isSubclass ps mk.cls = true := by
    rw [← hpm]
    obtain ⟨z, hz⟩ : ∃ z, s.vm.classes.size = z + 1 := ⟨s.vm.classes.size - 1, by omega⟩
    simp [Vm.isSubclass, hz, Vm.isSubclassAux, hdk2, hsuper2]
  intro T hT X
  obtain ⟨vm₁, X₁, hstep₁⟩ := X.invokespecialUp hx (owner := owner) (x := x0) ho (mw_w hC l1) (mw_w hC l2) hnamed hmethM hstM habM hd.1 hdk hnid hps hsuper hsub (a := a q) (cell := cellB) (by rw [hT]; exact hcB)
    (fun z h => by rw [h] at hoB; cases hoB) (by rw [ecl]; exact hkB) (g := F0 m pc ls st0) rfl (argsL := As) (rest := rest) (by
      have h2 := hd.2
      rw [hsigM] at h2
      exact hn.trans (Option.some.inj h2).symm) hst (by rw [hb]; exact hdg)
  obtain ⟨v, ⟨U', l2', c2, s2⟩, X', ⟨g', mk', t, L, e1, e2, hq2, h1, hL, h2, h3⟩, hsteps⟩ := hK m meth c ⟨T.setVm vm₁, locs, 0, 0⟩ { F0 m pc ls st0 with stack := rest } (.invokespecial index) mk (Value.ref (a q) :: As).toArray X₁ rfl (hl.trans hml.symm) (by rw [hb]; exact hdg) (lv_room h8) (X₁.named hnamed) ⟨Nat.zero_le _, Nat.zero_le _, hPc (T.setVm vm₁) hT X₁.warmed⟩
  dsimp only [Pt.U, Pt.locs, Pt.cells, Pt.slots] at X' e1 e2 h1 h2 h3 hsteps
  subst h1; subst h2; subst h3
  exact ⟨v, (T.setVm vm₁).calling g' mk' (Value.ref (a q) :: As).toArray, t, U', L, hT, X', hL, e1, e2, hq2, fun target h => hstep₁ _ (by rw [doInvoke_state]; exact hsteps.trans h)⟩
end MX
def slen (i : Nat) : Int32 := Int32.ofNat (lenL.getD i 0)
def sch (i : Nat) (k : Int32) : Int32 := (bytL.getD i []).getD k.toNatClampNeg 0
theorem rf_0 : refL[0]? = some (RX5, 81, "voter", 0) := rfl
theorem rf_1 : refL[1]? = some (RX5, 87, "lover", 1) := rfl
theorem rf_2 : refL[2]? = some (RX5, 89, "debtor", 2) := rfl
theorem rf_3 : refL[3]? = some (RX5, 91, "shift", 3) := rfl
theorem rf_4 : refL[4]? = some (RX5, 93, "baker", 4) := rfl
theorem rf_5 : refL[5]? = some (RX5, 95, "sleeper", 5) := rfl
theorem rf_6 : refL[6]? = some (RX5, 97, "hour", 6) := rfl
theorem rf_7 : refL[7]? = some (RX5, 99, "want", 7) := rfl
theorem rf_8 : refL[8]? = some (RX5, 101, "weight", 8) := rfl
theorem rf_9 : refL[9]? = some (RX5, 103, "awake", 9) := rfl
theorem rf_10 : refL[10]? = some (RX5, 105, "number", 10) := rfl
theorem rf_11 : refL[11]? = some (RX5, 107, "if", 11) := rfl
theorem rf_12 : refL[12]? = some (RX5, 109, "and", 12) := rfl
theorem rf_13 : refL[13]? = some (RX5, 111, "or", 13) := rfl
theorem rf_14 : refL[14]? = some (RX5, 113, "not", 14) := rfl
theorem rf_15 : refL[15]? = some (RX5, 115, "more", 15) := rfl
theorem rf_16 : refL[16]? = some (RX5, 117, "less", 16) := rfl
theorem rf_17 : refL[17]? = some (RX5, 119, "nil", 17) := rfl
theorem rf_18 : refL[18]? = some (RX12, 240, "voter", 0) := rfl
theorem rf_19 : refL[19]? = some (RX12, 242, "lover", 1) := rfl
theorem rf_20 : refL[20]? = some (RX12, 244, "debtor", 2) := rfl
theorem rf_21 : refL[21]? = some (RX12, 246, "shift", 3) := rfl
theorem rf_22 : refL[22]? = some (RX12, 248, "baker", 4) := rfl
theorem rf_23 : refL[23]? = some (RX12, 250, "sleeper", 5) := rfl
theorem rf_24 : refL[24]? = some (RX12, 255, "if", 11) := rfl
theorem rf_25 : refL[25]? = some (RX12, 217, "not", 14) := rfl
theorem rf_26 : refL[26]? = some (RX12, 222, "(", 18) := rfl
theorem rf_27 : refL[27]? = some (RX12, 211, ")", 19) := rfl
theorem rf_28 : refL[28]? = some (RX12, 178, "hour", 6) := rfl
theorem rf_29 : refL[29]? = some (RX12, 180, "want", 7) := rfl
theorem rf_30 : refL[30]? = some (RX12, 182, "weight", 8) := rfl
theorem rf_31 : refL[31]? = some (RX12, 184, "awake", 9) := rfl
theorem rf_32 : refL[32]? = some (RX12, 185, "number", 10) := rfl
theorem rf_33 : refL[33]? = some (RX12, 199, "<", 20) := rfl
theorem rf_34 : refL[34]? = some (RX12, 201, "=", 21) := rfl
theorem rf_35 : refL[35]? = some (RX12, 203, ">", 22) := rfl
theorem rf_36 : refL[36]? = some (RX12, 233, "and", 12) := rfl
theorem rf_37 : refL[37]? = some (RX12, 238, "or", 13) := rfl
theorem rf_38 : refL[38]? = some (RX12, 257, "more", 15) := rfl
theorem rf_39 : refL[39]? = some (RX12, 259, "less", 16) := rfl
theorem rf_40 : refL[40]? = some (RX12, 261, "nil", 17) := rfl
theorem rf_41 : refL[41]? = some (RX12, 263, ";", 23) := rfl
theorem sokE {i : Nat} (h : sok i = true) : i < 24 := by simpa [sok] using h
theorem lenE : ∀ i, i < 24 → lenL.getD i 0 = (bytL.getD i []).length ∧ lenL.getD i 0 < 2 ^ 31 ∧ ∀ k, k < lenL.getD i 0 → (((((bytL.getD i []).getD k 0) &&& 255).toUInt32 % 65536).toInt32 = (bytL.getD i []).getD k 0) := by decide +kernel
theorem ix_lt {k : Int32} {n : Nat} (h : ix k n = true) (hn : n < 2 ^ 31) : k < Int32.ofNat n := by
  obtain ⟨j, hj, rfl⟩ := vp_in_of (ix_in h) hn
  exact nI_lt hj hn
theorem ix_ge {k : Int32} {n : Nat} (h : ix k n = true) : ¬ k < 0 := by
  simp only [ix, Bool.and_eq_true, decide_eq_true_eq] at h
  exact ge_nlt h.1
section MSTR
variable {p : Program} {l : Launch} {e : Env} {R : Room} {s : State} {m : MethodId} {args : Array Value} {below : List Frame} {meth : Method} {c : Code} {H : Heap} {locs : List Loc} {Q : State → Prop}
variable {cc : ByteArray} {nL pc : Nat} {own : String} {x : Cond} {ls : Array Slot} {rest : List Value} {D : va_G} {cl : List vw_C} {tys : List (ClassId × FieldType)} {N : Nat} {en : mE} {a : Nat → Nat} {ss : mS} {ak av : Nat → Nat} {A : Nat → Prop} {M : mM}
theorem mw_enterY {ty : FieldType} {y : MethodName} {cc : ByteArray} {nL : Nat} {rm : Room} {As : List Value} {r : Int32} {M' : mM} (own : String) (ho : y.cls = own) (hy : plainFor y = true) (hn : (lg_sl As).length ≤ nL)
    (body : ∀ {p : Program} {e : Env} {s : State} {m : MethodId} {args : Array Value} {below : List Frame} {meth : Method} {c : Code} (ls : Array Slot) (A : Nat → Prop) (Q : State → Prop), mw_C p s m args c cc nL own (.code y cc nL (some ty)) D cl tys ss ak av A →
      (∀ {H : Heap} {locs : List Loc} {pc : Nat} {ls : Array Slot} {v : Int32}, v = r → narrow ty (.int v) = .int v → mw_P D cl N en a M' A s.heap H locs → decode cc pc = .ok (.ireturn, 1) → W p l e rm s m args below meth c H locs 0 0 Q (F0 m pc ls [.int v])) →
      mw_P D cl N en a M A s.heap s.heap [] → lv_has ls nL (lv_args 0 As) → W p l e rm s m args below meth c s.heap [] 0 0 Q (F0 m 0 ls [])) :
    mw_Mi D cl tys N en a ss ak av l y cc nL (some ty) rm any As M r M' := by
  intro sz
  refine va_MetF (cc := cc) (maxL := nL) (ret := some ty) hy rfl ?_
  intro p e s m args below meth c s₁ B hml hv
  obtain ⟨rfl, hsz, hP, hK, hD0, hZ⟩ := hv
  subst hsz
  have hts := atoms_spec (ws := .code y cc nL (some ty) :: WS) B.pre
  rw [lg_entry_eq]
  have hC : mw_C p s m As.toArray c cc nL own (.code y cc nL (some ty)) D cl tys ss ak av (va_A (mw_ws N en a M) s.heap.size) := ⟨B.exec, B.bytes, hml, ho ▸ findClass_of_methodNamed B.named, hts, hK, hZ, fun q h => Or.inr h⟩
  exact body _ _ _ hC (fun {H locs pc ls v} hv hn hM hd => W.zret (v := v) hC.1 hC.2.1 B.returns hn (fun t ht hW => ⟨⟨v, (), rfl, ⟨hv, trivial⟩, by rw [ht]; exact hM.1, va_K.moved hW.alike hC.2.2.2.2.2.1, hM.2.1⟩, hM.2.2.F ht⟩) hM.2.2.2.2 hd B.notSynchronized) ⟨hP, hD0.self, va_S.rf⟩ (lv_entry As hn)
theorem mw_strAt (hC : mw_C p s m args c cc nL own x D cl tys ssL ak av A) {i : Nat} (hi : i < 24) : va_O "java/lang/String" (ak i) A s s.heap ∧ va_OF "java/lang/String" "coder" "B" (.int 0) (ak i) A s s.heap ∧ va_OF "java/lang/String" "value" "[B" (.ref (av i)) (ak i) A s s.heap ∧ va_T .byte (av i) (lenL.getD i 0) (fun j => .int ((bytL.getD i []).getD j 0)) A s s.heap := hC.2.2.2.2.2.2.1.1.1 i hi
/-- a call on a String constant -/
theorem mw_cT {st0 : List Value} {index n maxL i : Nat} {y : MethodName} {bytes : ByteArray} {ret : Option FieldType} {rm : Room} {pb : Int32 → Prop} {As : List Value} {r : Int32} {M' : mM} (hC : mw_C p s m args c cc nL own x D cl tys ssL ak av A) (hM : mw_P D cl N en a M A s.heap H locs) (hi : i < 24)
    (hc : mw_Mi D cl tys N en a ssL ak av l y bytes maxL ret rm pb (.ref (ak i) :: As) M r M') (cw : CallW R s args own "java/lang/String" index y bytes maxL ret (.code y bytes maxL ret :: WS) rm 0 0 n)
    (hst : st0 = As.reverse ++ .ref (ak i) :: rest) (hn : As.length = n) (h8 : (rest.map fun v => v.category).sum ≤ 8) (hl : ls.size = nL) (hdg : decode cc pc = .ok (.invokevirtual index, 3))
    (kk : ∀ (H1 : Heap) (locs1 : List Loc), mw_P D cl N en a M' A s.heap H1 locs1 → pb r → W p l e R s m args below meth c H1 locs1 0 0 Q (F0 m (pc + 3) ls (.int r :: rest))) : W p l e R s m args below meth c H locs 0 0 Q (F0 m pc ls st0) :=
  mw_ci (bytes := bytes) (y := y) (maxL := maxL) (ret := ret) (rm := rm) (As := .ref (ak i) :: As) hC hM (va_runV (As := As) (rest := rest) (b := ak i) (mw_fix hC) (hc H.size) cw ⟨mw_blind, vk_recv hC.2.2.2.2.2.2.1.1 hi hM.2.2, mw_pre hC hM _⟩ rfl hn hl hst (lv_room h8) hdg ⟨Nat.zero_le _, Nat.zero_le _⟩) kk
theorem kT_coder : yJ0_coder_7d493.cls = "java/lang/String" ∧ yJ0_coder_7d493.cls ≠ "java/lang/invoke/MethodHandle" ∧ yJ0_coder_7d493.cls ≠ "java/lang/invoke/VarHandle" ∧ (parseMethodDescriptor yJ0_coder_7d493.desc).map (fun d => d.parameters.length) = some 0 := by decide +kernel
theorem kT_isLatin1 : yJ0_isLatin1_aae02.cls = "java/lang/String" ∧ yJ0_isLatin1_aae02.cls ≠ "java/lang/invoke/MethodHandle" ∧ yJ0_isLatin1_aae02.cls ≠ "java/lang/invoke/VarHandle" ∧ (parseMethodDescriptor yJ0_isLatin1_aae02.desc).map (fun d => d.parameters.length) = some 0 := by decide +kernel
theorem kT_length : yJ0_length_8abf5.cls = "java/lang/String" ∧ yJ0_length_8abf5.cls ≠ "java/lang/invoke/MethodHandle" ∧ yJ0_length_8abf5.cls ≠ "java/lang/invoke/VarHandle" ∧ (parseMethodDescriptor yJ0_length_8abf5.desc).map (fun d => d.parameters.length) = some 0 := by decide +kernel
theorem kT_charAt : yJ0_charAt_5068e.cls = "java/lang/String" ∧ yJ0_charAt_5068e.cls ≠ "java/lang/invoke/MethodHandle" ∧ yJ0_charAt_5068e.cls ≠ "java/lang/invoke/VarHandle" ∧ (parseMethodDescriptor yJ0_charAt_5068e.desc).map (fun d => d.parameters.length) = some 1 := by decide +kernel
theorem kT_ck : yJ0_checkIndex_df160.cls ≠ "java/lang/invoke/MethodHandle" ∧ yJ0_checkIndex_df160.cls ≠ "java/lang/invoke/VarHandle" ∧ (parseMethodDescriptor yJ0_checkIndex_df160.desc).map (fun d => d.parameters.length) = some 2 := by decide +kernel
theorem kT_pk : yJ3_checkIndex_8e157.cls ≠ "java/lang/invoke/MethodHandle" ∧ yJ3_checkIndex_8e157.cls ≠ "java/lang/invoke/VarHandle" ∧ (parseMethodDescriptor yJ3_checkIndex_8e157.desc).map (fun d => d.parameters.length) = some 3 := by decide +kernel
theorem kT_l1 : yJ1_charAt_3b067.cls ≠ "java/lang/invoke/MethodHandle" ∧ yJ1_charAt_3b067.cls ≠ "java/lang/invoke/VarHandle" ∧ (parseMethodDescriptor yJ1_charAt_3b067.desc).map (fun d => d.parameters.length) = some 2 := by decide +kernel
set_option maxRecDepth 100000 in
theorem mc_coder {i : Nat} (hi : i < 24) : mw_Mi D cl tys N en a ssL ak av l yJ0_coder_7d493 cJ0_coder_7d493 1 (some .byte) ({ frames := 0, cells := 0, slots := 0, locals := 0 } : Room) any [.ref (ak i)] M 0 M := by
  refine mw_enterY RJ0 rfl (by decide +kernel) (Nat.le_of_ble_eq_true rfl) (fun {p e s m args below meth c} ls A Q hC hret hM hl => ?_)
  have hl : lv_has ls 1 [(0, .ref (ak i))] := hl
  obtain ⟨h1, h2, h3, h4⟩ := mw_strAt hC hi
  refine va_gets hC.1 hC.2.1 hC.2.2.2.2.2.2.1.2.2.2.1 hM.2.2 hC.2.2.2.1 (mw_w hC q_608) (fun _ h => h) dJ0_coder_7d493_0 ?_
  refine lv_if_eq (tgt := 13) hC.1 hC.2.1 dJ0_coder_7d493_3 (by decide) (fun h => absurd h (by decide)) (fun h => ?_)
  refine lv_aload_n hC.1 hC.2.1 dJ0_coder_7d493_6 rfl (lv_at hl 0 rfl) ?_
  refine vk_getf (v := .int 0) hC.1 hC.2.1 h2 hM.2.2 hC.2.2.2.1 (mw_w hC q_1784) (fun _ h => h) dJ0_coder_7d493_7 ?_
  refine lv_goto (tgt := 14) hC.1 hC.2.1 dJ0_coder_7d493_10 (by decide) ?_
  exact hret rfl rfl hM dJ0_coder_7d493_14
set_option maxRecDepth 100000 in
theorem mc_isLatin1 {i : Nat} (hi : i < 24) : mw_Mi D cl tys N en a ssL ak av l yJ0_isLatin1_aae02 cJ0_isLatin1_aae02 1 (some .boolean) ({ frames := 0, cells := 0, slots := 0, locals := 0 } : Room) any [.ref (ak i)] M 1 M := by
  refine mw_enterY RJ0 rfl (by decide +kernel) (Nat.le_of_ble_eq_true rfl) (fun {p e s m args below meth c} ls A Q hC hret hM hl => ?_)
  have hl : lv_has ls 1 [(0, .ref (ak i))] := hl
  obtain ⟨h1, h2, h3, h4⟩ := mw_strAt hC hi
  refine va_gets hC.1 hC.2.1 hC.2.2.2.2.2.2.1.2.2.2.1 hM.2.2 hC.2.2.2.1 (mw_w hC q_608) (fun _ h => h) dJ0_isLatin1_aae02_0 ?_
  refine lv_if_eq (tgt := 17) hC.1 hC.2.1 dJ0_isLatin1_aae02_3 (by decide) (fun h => absurd h (by decide)) (fun h => ?_)
  refine lv_aload_n hC.1 hC.2.1 dJ0_isLatin1_aae02_6 rfl (lv_at hl 0 rfl) ?_
  refine vk_getf (v := .int 0) hC.1 hC.2.1 h2 hM.2.2 hC.2.2.2.1 (mw_w hC q_1784) (fun _ h => h) dJ0_isLatin1_aae02_7 ?_
  refine lv_if_ne (tgt := 17) hC.1 hC.2.1 dJ0_isLatin1_aae02_10 (by decide) (fun h => absurd rfl h) (fun h => ?_)
  refine lv_iconst (v := 1) hC.1 hC.2.1 dJ0_isLatin1_aae02_13 (by decide) ?_
  refine lv_goto (tgt := 18) hC.1 hC.2.1 dJ0_isLatin1_aae02_14 (by decide) ?_
  exact hret rfl rfl hM dJ0_isLatin1_aae02_18
set_option maxRecDepth 100000 in
theorem mc_length {i : Nat} (hi : i < 24) : mw_Mi D cl tys N en a ssL ak av l yJ0_length_8abf5 cJ0_length_8abf5 1 (some .int) ({ frames := 1, cells := 0, slots := 0, locals := 20 } : Room) any [.ref (ak i)] M (slen i) M := by
  refine mw_enterI RJ0 rfl (by decide +kernel) (Nat.le_of_ble_eq_true rfl) (fun {p e s m args below meth c} ls A Q hC hret hM hl => ?_)
  have hl : lv_has ls 1 [(0, .ref (ak i))] := hl
  obtain ⟨h1, h2, h3, h4⟩ := mw_strAt hC hi
  refine lv_aload_n hC.1 hC.2.1 dJ0_length_8abf5_0 rfl (lv_at hl 0 rfl) ?_
  refine vk_getf (v := .ref (av i)) hC.1 hC.2.1 h3 hM.2.2 hC.2.2.2.1 (mw_w hC q_1783) (fun _ h => h) dJ0_length_8abf5_1 ?_
  refine va_tlen (v := slen i) hC.1 hC.2.1 h4 hM.2.2 rfl dJ0_length_8abf5_4 ?_
  refine lv_aload_n hC.1 hC.2.1 dJ0_length_8abf5_5 rfl (lv_at hl 0 rfl) ?_
  refine mw_cT (As := []) (rest := [.int (slen i)]) hC hM hi (mc_coder hi) (mw_kV hC q_604 q_605 q_606 q_123 q_607 ⟨rfl, rfl⟩ kT_coder ⟨Nat.le_of_ble_eq_true rfl, Nat.le_of_ble_eq_true rfl⟩) rfl rfl (Nat.le_of_ble_eq_true rfl) hl.1 dJ0_length_8abf5_6 (fun H locs hM _ => ?_)
  refine lv_ishr hC.1 hC.2.1 dJ0_length_8abf5_9 ?_
  exact hret (sb_shr0 _) hM dJ0_length_8abf5_10
set_option maxRecDepth 100000 in
theorem mc_pk {k : Int32} {n : Nat} (w : Option Nat) (hk : ix k n = true) (hn : n < 2 ^ 31) : mw_Mi D cl tys N en a ssL ak av l yJ3_checkIndex_8e157 cJ3_checkIndex_8e157 3 (some .int) ({ frames := 0, cells := 0, slots := 0, locals := 0 } : Room) any [.int k, .int (Int32.ofNat n), va_rf w] M k M := by
  refine mw_enterI RJ3 rfl (by decide +kernel) (by cases w <;> exact Nat.le_of_ble_eq_true rfl) (fun {p e s m args below meth c} ls A Q hC hret hM hl => ?_)
  have hl : lv_has ls 3 [(0, .int k), (1, .int (Int32.ofNat n)), (2, va_rf w)] := hl
  refine lv_iload_n hC.1 hC.2.1 dJ3_checkIndex_8e157_0 rfl (lv_at hl 0 rfl) ?_
  refine lv_if_lt (tgt := 9) hC.1 hC.2.1 dJ3_checkIndex_8e157_1 (by decide) (fun h => absurd h (ix_ge hk)) (fun h => ?_)
  refine lv_iload_n hC.1 hC.2.1 dJ3_checkIndex_8e157_4 rfl (lv_at hl 0 rfl) ?_
  refine lv_iload_n hC.1 hC.2.1 dJ3_checkIndex_8e157_5 rfl (lv_at hl 1 rfl) ?_
  refine lv_icmp_lt (tgt := 16) hC.1 hC.2.1 dJ3_checkIndex_8e157_6 (by decide) (fun h => ?_) (fun h => absurd (ix_lt hk hn) h)
  refine lv_iload_n hC.1 hC.2.1 dJ3_checkIndex_8e157_16 rfl (lv_at hl 0 rfl) ?_
  exact hret rfl hM dJ3_checkIndex_8e157_17
theorem va_Zq.opt {C n d : String} {A : Nat → Prop} {U : State} {H : Heap} (h : va_Zq C n d A U H) : ∃ w : Option Nat, va_Z C n d (va_rf w) A U H := by
  rcases h with h | ⟨t, h⟩
  · exact ⟨none, h⟩
  · exact ⟨some t, h⟩
set_option maxRecDepth 100000 in
theorem mc_ck {k : Int32} {n : Nat} (hk : ix k n = true) (hn : n < 2 ^ 31) : mw_Mv D cl tys N en a ssL ak av l yJ0_checkIndex_df160 cJ0_checkIndex_df160 2 none ({ frames := 1, cells := 0, slots := 0, locals := 22 } : Room) [.int k, .int (Int32.ofNat n)] M M := by
  refine mw_enterV RJ0 rfl (by decide +kernel) (Nat.le_of_ble_eq_true rfl) (fun {p e s m args below meth c} ls A Q hC hret hM hl => ?_)
  have hl : lv_has ls 2 [(0, .int k), (1, .int (Int32.ofNat n))] := hl
  obtain ⟨w, hw⟩ := hC.2.2.2.2.2.2.1.2.2.2.2.1.opt
  refine lv_iload_n hC.1 hC.2.1 dJ0_checkIndex_df160_0 rfl (lv_at hl 0 rfl) ?_
  refine lv_iload_n hC.1 hC.2.1 dJ0_checkIndex_df160_1 rfl (lv_at hl 1 rfl) ?_
  refine va_gets (v := va_rf w) hC.1 hC.2.1 hw hM.2.2 hC.2.2.2.1 (mw_w hC q_624) (fun _ h => h) dJ0_checkIndex_df160_2 ?_
  refine mw_cSi (As := [.int k, .int (Int32.ofNat n), va_rf w]) (rest := []) hC hM (mc_pk w hk hn) (mw_kS hC q_626 q_627 q_125 q_628 ⟨rfl, rfl⟩ kT_pk ⟨Nat.le_of_ble_eq_true rfl, Nat.le_of_ble_eq_true rfl⟩) rfl rfl (Nat.le_of_ble_eq_true rfl) hl.1 dJ0_checkIndex_df160_5 (fun H locs hM _ => ?_)
  refine lv_pop hC.1 hC.2.1 dJ0_checkIndex_df160_8 rfl ?_
  exact hret hM dJ0_checkIndex_df160_9
set_option maxRecDepth 100000 in
theorem mc_l1 {i : Nat} {k : Int32} (hi : i < 24) (hk : ix k (lenL.getD i 0) = true) : mw_Mi D cl tys N en a ssL ak av l yJ1_charAt_3b067 cJ1_charAt_3b067 2 (some .char) ({ frames := 2, cells := 0, slots := 0, locals := 60 } : Room) any [.ref (av i), .int k] M (sch i k) M := by
  refine mw_enterY RJ1 rfl (by decide +kernel) (Nat.le_of_ble_eq_true rfl) (fun {p e s m args below meth c} ls A Q hC hret hM hl => ?_)
  have hl : lv_has ls 2 [(0, .ref (av i)), (1, .int k)] := hl
  obtain ⟨h1, h2, h3, h4⟩ := mw_strAt hC hi
  obtain ⟨z1, z2, z3⟩ := lenE i hi
  have hkn : k.toNatClampNeg < lenL.getD i 0 := by
    simp only [ix, Bool.and_eq_true, decide_eq_true_eq] at hk
    exact hk.2
  refine lv_iload_n hC.1 hC.2.1 dJ1_charAt_3b067_0 rfl (lv_at hl 1 rfl) ?_
  refine lv_aload_n hC.1 hC.2.1 dJ1_charAt_3b067_1 rfl (lv_at hl 0 rfl) ?_
  refine va_tlen (v := Int32.ofNat (lenL.getD i 0)) hC.1 hC.2.1 h4 hM.2.2 rfl dJ1_charAt_3b067_2 ?_
  refine mw_cSv (As := [.int k, .int (Int32.ofNat (lenL.getD i 0))]) (rest := []) hC hM (mc_ck hk z2) (mw_kS hC q_621 q_622 q_123 q_623 ⟨rfl, rfl⟩ kT_ck ⟨Nat.le_of_ble_eq_true rfl, Nat.le_of_ble_eq_true rfl⟩) rfl rfl (Nat.le_of_ble_eq_true rfl) hl.1 dJ1_charAt_3b067_3 (fun H locs hM => ?_)
  refine lv_aload_n hC.1 hC.2.1 dJ1_charAt_3b067_6 rfl (lv_at hl 0 rfl) ?_
  refine lv_iload_n hC.1 hC.2.1 dJ1_charAt_3b067_7 rfl (lv_at hl 1 rfl) ?_
  refine va_tb (v := .int (sch i k)) hC.1 hC.2.1 h4 hM.2.2 (ix_in hk) rfl dJ1_charAt_3b067_8 ?_
  refine lv_sipush (v := 255) hC.1 hC.2.1 dJ1_charAt_3b067_9 (by decide) ?_
  refine lv_iand hC.1 hC.2.1 dJ1_charAt_3b067_12 ?_
  refine lv_i2c (v := sch i k) hC.1 hC.2.1 dJ1_charAt_3b067_13 (z3 _ hkn) ?_
  exact hret rfl (by show narrow .char (.int ((bytL.getD i []).getD k.toNatClampNeg 0)) = .int ((bytL.getD i []).getD k.toNatClampNeg 0); rw [← z3 _ hkn]; exact pk_nc _) hM dJ1_charAt_3b067_14
set_option maxRecDepth 100000 in
theorem mc_charAt {i : Nat} {k : Int32} (hi : i < 24) (hk : ix k (lenL.getD i 0) = true) : mw_Mi D cl tys N en a ssL ak av l yJ0_charAt_5068e cJ0_charAt_5068e 2 (some .char) ({ frames := 3, cells := 0, slots := 0, locals := 90 } : Room) any [.ref (ak i), .int k] M (sch i k) M := by
  refine mw_enterY RJ0 rfl (by decide +kernel) (Nat.le_of_ble_eq_true rfl) (fun {p e s m args below meth c} ls A Q hC hret hM hl => ?_)
  have hl : lv_has ls 2 [(0, .ref (ak i)), (1, .int k)] := hl
  obtain ⟨h1, h2, h3, h4⟩ := mw_strAt hC hi
  obtain ⟨z1, z2, z3⟩ := lenE i hi
  have hkn : k.toNatClampNeg < lenL.getD i 0 := by
    simp only [ix, Bool.and_eq_true, decide_eq_true_eq] at hk
    exact hk.2
  refine lv_aload_n hC.1 hC.2.1 dJ0_charAt_5068e_0 rfl (lv_at hl 0 rfl) ?_
  refine mw_cT (As := []) (rest := []) hC hM hi (mc_isLatin1 hi) (mw_kV hC q_614 q_615 q_616 q_123 q_617 ⟨rfl, rfl⟩ kT_isLatin1 ⟨Nat.le_of_ble_eq_true rfl, Nat.le_of_ble_eq_true rfl⟩) rfl rfl (Nat.le_of_ble_eq_true rfl) hl.1 dJ0_charAt_5068e_1 (fun H locs hM _ => ?_)
  refine lv_if_eq (tgt := 16) hC.1 hC.2.1 dJ0_charAt_5068e_4 (by decide) (fun h => absurd h (by decide)) (fun h => ?_)
  refine lv_aload_n hC.1 hC.2.1 dJ0_charAt_5068e_7 rfl (lv_at hl 0 rfl) ?_
  refine vk_getf (v := .ref (av i)) hC.1 hC.2.1 h3 hM.2.2 hC.2.2.2.1 (mw_w hC q_1783) (fun _ h => h) dJ0_charAt_5068e_8 ?_
  refine lv_iload_n hC.1 hC.2.1 dJ0_charAt_5068e_11 rfl (lv_at hl 1 rfl) ?_
  refine mw_cSi (As := [.ref (av i), .int k]) (rest := []) hC hM (mc_l1 hi hk) (mw_kS hC q_618 q_619 q_124 q_620 ⟨rfl, rfl⟩ kT_l1 ⟨Nat.le_of_ble_eq_true rfl, Nat.le_of_ble_eq_true rfl⟩) rfl rfl (Nat.le_of_ble_eq_true rfl) hl.1 dJ0_charAt_5068e_12 (fun H locs hM _ => ?_)
  exact hret rfl (by show narrow .char (.int ((bytL.getD i []).getD k.toNatClampNeg 0)) = .int ((bytL.getD i []).getD k.toNatClampNeg 0); rw [← z3 _ hkn]; exact pk_nc _) hM dJ0_charAt_5068e_15
theorem mw_slen {i index : Nat} (hC : mw_C p s m args c cc nL own x D cl tys ssL ak av A) (hM : mw_P D cl N en a M A s.heap H locs) (hi : sok i = true) (h1 : .methodLink own index yJ0_length_8abf5 ∈ WS) (h2 : .instanceMethod yJ0_length_8abf5 ∈ WS) (h3 : .selects RJ0 yJ0_length_8abf5 yJ0_length_8abf5 ∈ WS) (h4 : .initialized RJ0 ∈ WS) (h5 : .code yJ0_length_8abf5 cJ0_length_8abf5 1 (some .int) ∈ WS)
    (hframes : 9 ≤ R.frames) (hlocals : 300 ≤ R.locals) (h8 : (rest.map fun v => v.category).sum ≤ 8) (hl : ls.size = nL) (hdg : decode cc pc = .ok (.invokevirtual index, 3))
    (kk : ∀ (H1 : Heap) (locs1 : List Loc), mw_P D cl N en a M A s.heap H1 locs1 → W p l e R s m args below meth c H1 locs1 0 0 Q (F0 m (pc + 3) ls (.int (slen i) :: rest))) : W p l e R s m args below meth c H locs 0 0 Q (F0 m pc ls (.ref (ak i) :: rest)) :=
  mw_cT (As := []) (rest := rest) hC hM (sokE hi) (mc_length (sokE hi)) (mw_kV hC h1 h2 h3 h4 h5 ⟨rfl, rfl⟩ kT_length ⟨by dsimp only; omega, by dsimp only; omega⟩) rfl rfl h8 hl hdg (fun H1 l1 hM _ => kk H1 l1 hM)
theorem mw_sch {i index : Nat} {k : Int32} (hC : mw_C p s m args c cc nL own x D cl tys ssL ak av A) (hM : mw_P D cl N en a M A s.heap H locs) (hi : sok i = true) (hk : ix k (lenL.getD i 0) = true) (h1 : .methodLink own index yJ0_charAt_5068e ∈ WS) (h2 : .instanceMethod yJ0_charAt_5068e ∈ WS) (h3 : .selects RJ0 yJ0_charAt_5068e yJ0_charAt_5068e ∈ WS) (h4 : .initialized RJ0 ∈ WS) (h5 : .code yJ0_charAt_5068e cJ0_charAt_5068e 2 (some .char) ∈ WS)
    (hframes : 9 ≤ R.frames) (hlocals : 300 ≤ R.locals) (h8 : (rest.map fun v => v.category).sum ≤ 8) (hl : ls.size = nL) (hdg : decode cc pc = .ok (.invokevirtual index, 3))
    (kk : ∀ (H1 : Heap) (locs1 : List Loc), mw_P D cl N en a M A s.heap H1 locs1 → W p l e R s m args below meth c H1 locs1 0 0 Q (F0 m (pc + 3) ls (.int (sch i k) :: rest))) : W p l e R s m args below meth c H locs 0 0 Q (F0 m pc ls (.int k :: .ref (ak i) :: rest)) :=
  mw_cT (As := [.int k]) (rest := rest) hC hM (sokE hi) (mc_charAt (sokE hi) hk) (mw_kV hC h1 h2 h3 h4 h5 ⟨rfl, rfl⟩ kT_charAt ⟨by dsimp only; omega, by dsimp only; omega⟩) rfl rfl h8 hl hdg (fun H1 l1 hM _ => kk H1 l1 hM)
end MSTR
theorem st_0 {p : Program} {s : State} {m : MethodId} {args : Array Value} {c : Code} {cc : ByteArray} {nL : Nat} {own : String} {x : Cond} {D : va_G} {cl : List vw_C} {tys : List (ClassId × FieldType)} {ak av : Nat → Nat} {A : Nat → Prop} (hC : mw_C p s m args c cc nL own x D cl tys ssL ak av A) : vk_R RX5 81 "voter" (ak 0) s := mw_str (q := (RX5, 81, "voter", 0)) hC 0 rf_0
theorem st_1 {p : Program} {s : State} {m : MethodId} {args : Array Value} {c : Code} {cc : ByteArray} {nL : Nat} {own : String} {x : Cond} {D : va_G} {cl : List vw_C} {tys : List (ClassId × FieldType)} {ak av : Nat → Nat} {A : Nat → Prop} (hC : mw_C p s m args c cc nL own x D cl tys ssL ak av A) : vk_R RX5 87 "lover" (ak 1) s := mw_str (q := (RX5, 87, "lover", 1)) hC 1 rf_1
theorem st_2 {p : Program} {s : State} {m : MethodId} {args : Array Value} {c : Code} {cc : ByteArray} {nL : Nat} {own : String} {x : Cond} {D : va_G} {cl : List vw_C} {tys : List (ClassId × FieldType)} {ak av : Nat → Nat} {A : Nat → Prop} (hC : mw_C p s m args c cc nL own x D cl tys ssL ak av A) : vk_R RX5 89 "debtor" (ak 2) s := mw_str (q := (RX5, 89, "debtor", 2)) hC 2 rf_2
theorem st_3 {p : Program} {s : State} {m : MethodId} {args : Array Value} {c : Code} {cc : ByteArray} {nL : Nat} {own : String} {x : Cond} {D : va_G} {cl : List vw_C} {tys : List (ClassId × FieldType)} {ak av : Nat → Nat} {A : Nat → Prop} (hC : mw_C p s m args c cc nL own x D cl tys ssL ak av A) : vk_R RX5 91 "shift" (ak 3) s := mw_str (q := (RX5, 91, "shift", 3)) hC 3 rf_3
theorem st_4 {p : Program} {s : State} {m : MethodId} {args : Array Value} {c : Code} {cc : ByteArray} {nL : Nat} {own : String} {x : Cond} {D : va_G} {cl : List vw_C} {tys : List (ClassId × FieldType)} {ak av : Nat → Nat} {A : Nat → Prop} (hC : mw_C p s m args c cc nL own x D cl tys ssL ak av A) : vk_R RX5 93 "baker" (ak 4) s := mw_str (q := (RX5, 93, "baker", 4)) hC 4 rf_4
theorem st_5 {p : Program} {s : State} {m : MethodId} {args : Array Value} {c : Code} {cc : ByteArray} {nL : Nat} {own : String} {x : Cond} {D : va_G} {cl : List vw_C} {tys : List (ClassId × FieldType)} {ak av : Nat → Nat} {A : Nat → Prop} (hC : mw_C p s m args c cc nL own x D cl tys ssL ak av A) : vk_R RX5 95 "sleeper" (ak 5) s := mw_str (q := (RX5, 95, "sleeper", 5)) hC 5 rf_5
theorem st_6 {p : Program} {s : State} {m : MethodId} {args : Array Value} {c : Code} {cc : ByteArray} {nL : Nat} {own : String} {x : Cond} {D : va_G} {cl : List vw_C} {tys : List (ClassId × FieldType)} {ak av : Nat → Nat} {A : Nat → Prop} (hC : mw_C p s m args c cc nL own x D cl tys ssL ak av A) : vk_R RX5 97 "hour" (ak 6) s := mw_str (q := (RX5, 97, "hour", 6)) hC 6 rf_6
theorem st_7 {p : Program} {s : State} {m : MethodId} {args : Array Value} {c : Code} {cc : ByteArray} {nL : Nat} {own : String} {x : Cond} {D : va_G} {cl : List vw_C} {tys : List (ClassId × FieldType)} {ak av : Nat → Nat} {A : Nat → Prop} (hC : mw_C p s m args c cc nL own x D cl tys ssL ak av A) : vk_R RX5 99 "want" (ak 7) s := mw_str (q := (RX5, 99, "want", 7)) hC 7 rf_7
theorem st_8 {p : Program} {s : State} {m : MethodId} {args : Array Value} {c : Code} {cc : ByteArray} {nL : Nat} {own : String} {x : Cond} {D : va_G} {cl : List vw_C} {tys : List (ClassId × FieldType)} {ak av : Nat → Nat} {A : Nat → Prop} (hC : mw_C p s m args c cc nL own x D cl tys ssL ak av A) : vk_R RX5 101 "weight" (ak 8) s := mw_str (q := (RX5, 101, "weight", 8)) hC 8 rf_8
theorem st_9 {p : Program} {s : State} {m : MethodId} {args : Array Value} {c : Code} {cc : ByteArray} {nL : Nat} {own : String} {x : Cond} {D : va_G} {cl : List vw_C} {tys : List (ClassId × FieldType)} {ak av : Nat → Nat} {A : Nat → Prop} (hC : mw_C p s m args c cc nL own x D cl tys ssL ak av A) : vk_R RX5 103 "awake" (ak 9) s := mw_str (q := (RX5, 103, "awake", 9)) hC 9 rf_9
theorem st_10 {p : Program} {s : State} {m : MethodId} {args : Array Value} {c : Code} {cc : ByteArray} {nL : Nat} {own : String} {x : Cond} {D : va_G} {cl : List vw_C} {tys : List (ClassId × FieldType)} {ak av : Nat → Nat} {A : Nat → Prop} (hC : mw_C p s m args c cc nL own x D cl tys ssL ak av A) : vk_R RX5 105 "number" (ak 10) s := mw_str (q := (RX5, 105, "number", 10)) hC 10 rf_10
theorem st_11 {p : Program} {s : State} {m : MethodId} {args : Array Value} {c : Code} {cc : ByteArray} {nL : Nat} {own : String} {x : Cond} {D : va_G} {cl : List vw_C} {tys : List (ClassId × FieldType)} {ak av : Nat → Nat} {A : Nat → Prop} (hC : mw_C p s m args c cc nL own x D cl tys ssL ak av A) : vk_R RX5 107 "if" (ak 11) s := mw_str (q := (RX5, 107, "if", 11)) hC 11 rf_11
theorem st_12 {p : Program} {s : State} {m : MethodId} {args : Array Value} {c : Code} {cc : ByteArray} {nL : Nat} {own : String} {x : Cond} {D : va_G} {cl : List vw_C} {tys : List (ClassId × FieldType)} {ak av : Nat → Nat} {A : Nat → Prop} (hC : mw_C p s m args c cc nL own x D cl tys ssL ak av A) : vk_R RX5 109 "and" (ak 12) s := mw_str (q := (RX5, 109, "and", 12)) hC 12 rf_12
theorem st_13 {p : Program} {s : State} {m : MethodId} {args : Array Value} {c : Code} {cc : ByteArray} {nL : Nat} {own : String} {x : Cond} {D : va_G} {cl : List vw_C} {tys : List (ClassId × FieldType)} {ak av : Nat → Nat} {A : Nat → Prop} (hC : mw_C p s m args c cc nL own x D cl tys ssL ak av A) : vk_R RX5 111 "or" (ak 13) s := mw_str (q := (RX5, 111, "or", 13)) hC 13 rf_13
theorem st_14 {p : Program} {s : State} {m : MethodId} {args : Array Value} {c : Code} {cc : ByteArray} {nL : Nat} {own : String} {x : Cond} {D : va_G} {cl : List vw_C} {tys : List (ClassId × FieldType)} {ak av : Nat → Nat} {A : Nat → Prop} (hC : mw_C p s m args c cc nL own x D cl tys ssL ak av A) : vk_R RX5 113 "not" (ak 14) s := mw_str (q := (RX5, 113, "not", 14)) hC 14 rf_14
theorem st_15 {p : Program} {s : State} {m : MethodId} {args : Array Value} {c : Code} {cc : ByteArray} {nL : Nat} {own : String} {x : Cond} {D : va_G} {cl : List vw_C} {tys : List (ClassId × FieldType)} {ak av : Nat → Nat} {A : Nat → Prop} (hC : mw_C p s m args c cc nL own x D cl tys ssL ak av A) : vk_R RX5 115 "more" (ak 15) s := mw_str (q := (RX5, 115, "more", 15)) hC 15 rf_15
theorem st_16 {p : Program} {s : State} {m : MethodId} {args : Array Value} {c : Code} {cc : ByteArray} {nL : Nat} {own : String} {x : Cond} {D : va_G} {cl : List vw_C} {tys : List (ClassId × FieldType)} {ak av : Nat → Nat} {A : Nat → Prop} (hC : mw_C p s m args c cc nL own x D cl tys ssL ak av A) : vk_R RX5 117 "less" (ak 16) s := mw_str (q := (RX5, 117, "less", 16)) hC 16 rf_16
theorem st_17 {p : Program} {s : State} {m : MethodId} {args : Array Value} {c : Code} {cc : ByteArray} {nL : Nat} {own : String} {x : Cond} {D : va_G} {cl : List vw_C} {tys : List (ClassId × FieldType)} {ak av : Nat → Nat} {A : Nat → Prop} (hC : mw_C p s m args c cc nL own x D cl tys ssL ak av A) : vk_R RX5 119 "nil" (ak 17) s := mw_str (q := (RX5, 119, "nil", 17)) hC 17 rf_17
theorem st_18 {p : Program} {s : State} {m : MethodId} {args : Array Value} {c : Code} {cc : ByteArray} {nL : Nat} {own : String} {x : Cond} {D : va_G} {cl : List vw_C} {tys : List (ClassId × FieldType)} {ak av : Nat → Nat} {A : Nat → Prop} (hC : mw_C p s m args c cc nL own x D cl tys ssL ak av A) : vk_R RX12 240 "voter" (ak 0) s := mw_str (q := (RX12, 240, "voter", 0)) hC 18 rf_18
theorem st_19 {p : Program} {s : State} {m : MethodId} {args : Array Value} {c : Code} {cc : ByteArray} {nL : Nat} {own : String} {x : Cond} {D : va_G} {cl : List vw_C} {tys : List (ClassId × FieldType)} {ak av : Nat → Nat} {A : Nat → Prop} (hC : mw_C p s m args c cc nL own x D cl tys ssL ak av A) : vk_R RX12 242 "lover" (ak 1) s := mw_str (q := (RX12, 242, "lover", 1)) hC 19 rf_19
theorem st_20 {p : Program} {s : State} {m : MethodId} {args : Array Value} {c : Code} {cc : ByteArray} {nL : Nat} {own : String} {x : Cond} {D : va_G} {cl : List vw_C} {tys : List (ClassId × FieldType)} {ak av : Nat → Nat} {A : Nat → Prop} (hC : mw_C p s m args c cc nL own x D cl tys ssL ak av A) : vk_R RX12 244 "debtor" (ak 2) s := mw_str (q := (RX12, 244, "debtor", 2)) hC 20 rf_20
theorem st_21 {p : Program} {s : State} {m : MethodId} {args : Array Value} {c : Code} {cc : ByteArray} {nL : Nat} {own : String} {x : Cond} {D : va_G} {cl : List vw_C} {tys : List (ClassId × FieldType)} {ak av : Nat → Nat} {A : Nat → Prop} (hC : mw_C p s m args c cc nL own x D cl tys ssL ak av A) : vk_R RX12 246 "shift" (ak 3) s := mw_str (q := (RX12, 246, "shift", 3)) hC 21 rf_21
theorem st_22 {p : Program} {s : State} {m : MethodId} {args : Array Value} {c : Code} {cc : ByteArray} {nL : Nat} {own : String} {x : Cond} {D : va_G} {cl : List vw_C} {tys : List (ClassId × FieldType)} {ak av : Nat → Nat} {A : Nat → Prop} (hC : mw_C p s m args c cc nL own x D cl tys ssL ak av A) : vk_R RX12 248 "baker" (ak 4) s := mw_str (q := (RX12, 248, "baker", 4)) hC 22 rf_22
theorem st_23 {p : Program} {s : State} {m : MethodId} {args : Array Value} {c : Code} {cc : ByteArray} {nL : Nat} {own : String} {x : Cond} {D : va_G} {cl : List vw_C} {tys : List (ClassId × FieldType)} {ak av : Nat → Nat} {A : Nat → Prop} (hC : mw_C p s m args c cc nL own x D cl tys ssL ak av A) : vk_R RX12 250 "sleeper" (ak 5) s := mw_str (q := (RX12, 250, "sleeper", 5)) hC 23 rf_23
theorem st_24 {p : Program} {s : State} {m : MethodId} {args : Array Value} {c : Code} {cc : ByteArray} {nL : Nat} {own : String} {x : Cond} {D : va_G} {cl : List vw_C} {tys : List (ClassId × FieldType)} {ak av : Nat → Nat} {A : Nat → Prop} (hC : mw_C p s m args c cc nL own x D cl tys ssL ak av A) : vk_R RX12 255 "if" (ak 11) s := mw_str (q := (RX12, 255, "if", 11)) hC 24 rf_24
theorem st_25 {p : Program} {s : State} {m : MethodId} {args : Array Value} {c : Code} {cc : ByteArray} {nL : Nat} {own : String} {x : Cond} {D : va_G} {cl : List vw_C} {tys : List (ClassId × FieldType)} {ak av : Nat → Nat} {A : Nat → Prop} (hC : mw_C p s m args c cc nL own x D cl tys ssL ak av A) : vk_R RX12 217 "not" (ak 14) s := mw_str (q := (RX12, 217, "not", 14)) hC 25 rf_25
theorem st_26 {p : Program} {s : State} {m : MethodId} {args : Array Value} {c : Code} {cc : ByteArray} {nL : Nat} {own : String} {x : Cond} {D : va_G} {cl : List vw_C} {tys : List (ClassId × FieldType)} {ak av : Nat → Nat} {A : Nat → Prop} (hC : mw_C p s m args c cc nL own x D cl tys ssL ak av A) : vk_R RX12 222 "(" (ak 18) s := mw_str (q := (RX12, 222, "(", 18)) hC 26 rf_26
theorem st_27 {p : Program} {s : State} {m : MethodId} {args : Array Value} {c : Code} {cc : ByteArray} {nL : Nat} {own : String} {x : Cond} {D : va_G} {cl : List vw_C} {tys : List (ClassId × FieldType)} {ak av : Nat → Nat} {A : Nat → Prop} (hC : mw_C p s m args c cc nL own x D cl tys ssL ak av A) : vk_R RX12 211 ")" (ak 19) s := mw_str (q := (RX12, 211, ")", 19)) hC 27 rf_27
theorem st_28 {p : Program} {s : State} {m : MethodId} {args : Array Value} {c : Code} {cc : ByteArray} {nL : Nat} {own : String} {x : Cond} {D : va_G} {cl : List vw_C} {tys : List (ClassId × FieldType)} {ak av : Nat → Nat} {A : Nat → Prop} (hC : mw_C p s m args c cc nL own x D cl tys ssL ak av A) : vk_R RX12 178 "hour" (ak 6) s := mw_str (q := (RX12, 178, "hour", 6)) hC 28 rf_28
theorem st_29 {p : Program} {s : State} {m : MethodId} {args : Array Value} {c : Code} {cc : ByteArray} {nL : Nat} {own : String} {x : Cond} {D : va_G} {cl : List vw_C} {tys : List (ClassId × FieldType)} {ak av : Nat → Nat} {A : Nat → Prop} (hC : mw_C p s m args c cc nL own x D cl tys ssL ak av A) : vk_R RX12 180 "want" (ak 7) s := mw_str (q := (RX12, 180, "want", 7)) hC 29 rf_29
theorem st_30 {p : Program} {s : State} {m : MethodId} {args : Array Value} {c : Code} {cc : ByteArray} {nL : Nat} {own : String} {x : Cond} {D : va_G} {cl : List vw_C} {tys : List (ClassId × FieldType)} {ak av : Nat → Nat} {A : Nat → Prop} (hC : mw_C p s m args c cc nL own x D cl tys ssL ak av A) : vk_R RX12 182 "weight" (ak 8) s := mw_str (q := (RX12, 182, "weight", 8)) hC 30 rf_30
theorem st_31 {p : Program} {s : State} {m : MethodId} {args : Array Value} {c : Code} {cc : ByteArray} {nL : Nat} {own : String} {x : Cond} {D : va_G} {cl : List vw_C} {tys : List (ClassId × FieldType)} {ak av : Nat → Nat} {A : Nat → Prop} (hC : mw_C p s m args c cc nL own x D cl tys ssL ak av A) : vk_R RX12 184 "awake" (ak 9) s := mw_str (q := (RX12, 184, "awake", 9)) hC 31 rf_31
theorem st_32 {p : Program} {s : State} {m : MethodId} {args : Array Value} {c : Code} {cc : ByteArray} {nL : Nat} {own : String} {x : Cond} {D : va_G} {cl : List vw_C} {tys : List (ClassId × FieldType)} {ak av : Nat → Nat} {A : Nat → Prop} (hC : mw_C p s m args c cc nL own x D cl tys ssL ak av A) : vk_R RX12 185 "number" (ak 10) s := mw_str (q := (RX12, 185, "number", 10)) hC 32 rf_32
theorem st_33 {p : Program} {s : State} {m : MethodId} {args : Array Value} {c : Code} {cc : ByteArray} {nL : Nat} {own : String} {x : Cond} {D : va_G} {cl : List vw_C} {tys : List (ClassId × FieldType)} {ak av : Nat → Nat} {A : Nat → Prop} (hC : mw_C p s m args c cc nL own x D cl tys ssL ak av A) : vk_R RX12 199 "<" (ak 20) s := mw_str (q := (RX12, 199, "<", 20)) hC 33 rf_33
theorem st_34 {p : Program} {s : State} {m : MethodId} {args : Array Value} {c : Code} {cc : ByteArray} {nL : Nat} {own : String} {x : Cond} {D : va_G} {cl : List vw_C} {tys : List (ClassId × FieldType)} {ak av : Nat → Nat} {A : Nat → Prop} (hC : mw_C p s m args c cc nL own x D cl tys ssL ak av A) : vk_R RX12 201 "=" (ak 21) s := mw_str (q := (RX12, 201, "=", 21)) hC 34 rf_34
theorem st_35 {p : Program} {s : State} {m : MethodId} {args : Array Value} {c : Code} {cc : ByteArray} {nL : Nat} {own : String} {x : Cond} {D : va_G} {cl : List vw_C} {tys : List (ClassId × FieldType)} {ak av : Nat → Nat} {A : Nat → Prop} (hC : mw_C p s m args c cc nL own x D cl tys ssL ak av A) : vk_R RX12 203 ">" (ak 22) s := mw_str (q := (RX12, 203, ">", 22)) hC 35 rf_35
theorem st_36 {p : Program} {s : State} {m : MethodId} {args : Array Value} {c : Code} {cc : ByteArray} {nL : Nat} {own : String} {x : Cond} {D : va_G} {cl : List vw_C} {tys : List (ClassId × FieldType)} {ak av : Nat → Nat} {A : Nat → Prop} (hC : mw_C p s m args c cc nL own x D cl tys ssL ak av A) : vk_R RX12 233 "and" (ak 12) s := mw_str (q := (RX12, 233, "and", 12)) hC 36 rf_36
theorem st_37 {p : Program} {s : State} {m : MethodId} {args : Array Value} {c : Code} {cc : ByteArray} {nL : Nat} {own : String} {x : Cond} {D : va_G} {cl : List vw_C} {tys : List (ClassId × FieldType)} {ak av : Nat → Nat} {A : Nat → Prop} (hC : mw_C p s m args c cc nL own x D cl tys ssL ak av A) : vk_R RX12 238 "or" (ak 13) s := mw_str (q := (RX12, 238, "or", 13)) hC 37 rf_37
theorem st_38 {p : Program} {s : State} {m : MethodId} {args : Array Value} {c : Code} {cc : ByteArray} {nL : Nat} {own : String} {x : Cond} {D : va_G} {cl : List vw_C} {tys : List (ClassId × FieldType)} {ak av : Nat → Nat} {A : Nat → Prop} (hC : mw_C p s m args c cc nL own x D cl tys ssL ak av A) : vk_R RX12 257 "more" (ak 15) s := mw_str (q := (RX12, 257, "more", 15)) hC 38 rf_38
theorem st_39 {p : Program} {s : State} {m : MethodId} {args : Array Value} {c : Code} {cc : ByteArray} {nL : Nat} {own : String} {x : Cond} {D : va_G} {cl : List vw_C} {tys : List (ClassId × FieldType)} {ak av : Nat → Nat} {A : Nat → Prop} (hC : mw_C p s m args c cc nL own x D cl tys ssL ak av A) : vk_R RX12 259 "less" (ak 16) s := mw_str (q := (RX12, 259, "less", 16)) hC 39 rf_39
theorem st_40 {p : Program} {s : State} {m : MethodId} {args : Array Value} {c : Code} {cc : ByteArray} {nL : Nat} {own : String} {x : Cond} {D : va_G} {cl : List vw_C} {tys : List (ClassId × FieldType)} {ak av : Nat → Nat} {A : Nat → Prop} (hC : mw_C p s m args c cc nL own x D cl tys ssL ak av A) : vk_R RX12 261 "nil" (ak 17) s := mw_str (q := (RX12, 261, "nil", 17)) hC 40 rf_40
theorem st_41 {p : Program} {s : State} {m : MethodId} {args : Array Value} {c : Code} {cc : ByteArray} {nL : Nat} {own : String} {x : Cond} {D : va_G} {cl : List vw_C} {tys : List (ClassId × FieldType)} {ak av : Nat → Nat} {A : Nat → Prop} (hC : mw_C p s m args c cc nL own x D cl tys ssL ak av A) : vk_R RX12 263 ";" (ak 23) s := mw_str (q := (RX12, 263, ";", 23)) hC 41 rf_41
theorem cb_10 : (Int8.ofInt 10).toInt32 = 10 := by decide
theorem cb_100 : (Int8.ofInt 100).toInt32 = 100 := by decide
theorem cb_11 : (Int8.ofInt 11).toInt32 = 11 := by decide
theorem cb_12 : (Int8.ofInt 12).toInt32 = 12 := by decide
theorem cb_122 : (Int8.ofInt 122).toInt32 = 122 := by decide
theorem cb_13 : (Int8.ofInt 13).toInt32 = 13 := by decide
theorem cb_14 : (Int8.ofInt 14).toInt32 = 14 := by decide
theorem cb_16 : (Int8.ofInt 16).toInt32 = 16 := by decide
theorem cb_20 : (Int8.ofInt 20).toInt32 = 20 := by decide
theorem cb_21 : (Int8.ofInt 21).toInt32 = 21 := by decide
theorem cb_22 : (Int8.ofInt 22).toInt32 = 22 := by decide
theorem cb_23 : (Int8.ofInt 23).toInt32 = 23 := by decide
theorem cb_24 : (Int8.ofInt 24).toInt32 = 24 := by decide
theorem cb_25 : (Int8.ofInt 25).toInt32 = 25 := by decide
theorem cb_26 : (Int8.ofInt 26).toInt32 = 26 := by decide
theorem cb_30 : (Int8.ofInt 30).toInt32 = 30 := by decide
theorem cb_31 : (Int8.ofInt 31).toInt32 = 31 := by decide
theorem cb_32 : (Int8.ofInt 32).toInt32 = 32 := by decide
theorem cb_33 : (Int8.ofInt 33).toInt32 = 33 := by decide
theorem cb_34 : (Int8.ofInt 34).toInt32 = 34 := by decide
theorem cb_35 : (Int8.ofInt 35).toInt32 = 35 := by decide
theorem cb_36 : (Int8.ofInt 36).toInt32 = 36 := by decide
theorem cb_40 : (Int8.ofInt 40).toInt32 = 40 := by decide
theorem cb_41 : (Int8.ofInt 41).toInt32 = 41 := by decide
theorem cb_43 : (Int8.ofInt 43).toInt32 = 43 := by decide
theorem cb_48 : (Int8.ofInt 48).toInt32 = 48 := by decide
theorem cb_50 : (Int8.ofInt 50).toInt32 = 50 := by decide
theorem cb_51 : (Int8.ofInt 51).toInt32 = 51 := by decide
theorem cb_55 : (Int8.ofInt 55).toInt32 = 55 := by decide
theorem cb_57 : (Int8.ofInt 57).toInt32 = 57 := by decide
theorem cb_6 : (Int8.ofInt 6).toInt32 = 6 := by decide
theorem cb_60 : (Int8.ofInt 60).toInt32 = 60 := by decide
theorem cb_61 : (Int8.ofInt 61).toInt32 = 61 := by decide
theorem cb_63 : (Int8.ofInt 63).toInt32 = 63 := by decide
theorem cb_7 : (Int8.ofInt 7).toInt32 = 7 := by decide
theorem cb_71 : (Int8.ofInt 71).toInt32 = 71 := by decide
theorem cb_72 : (Int8.ofInt 72).toInt32 = 72 := by decide
theorem cb_8 : (Int8.ofInt 8).toInt32 = 8 := by decide
theorem cb_9 : (Int8.ofInt 9).toInt32 = 9 := by decide
theorem cb_95 : (Int8.ofInt 95).toInt32 = 95 := by decide
theorem cb_97 : (Int8.ofInt 97).toInt32 = 97 := by decide
theorem cb_99 : (Int8.ofInt 99).toInt32 = 99 := by decide
theorem cb_m100 : (Int8.ofInt (-100)).toInt32 = (-100) := by decide
theorem cb_m11 : (Int8.ofInt (-11)).toInt32 = (-11) := by decide
theorem cb_m12 : (Int8.ofInt (-12)).toInt32 = (-12) := by decide
theorem cb_m13 : (Int8.ofInt (-13)).toInt32 = (-13) := by decide
theorem cb_m14 : (Int8.ofInt (-14)).toInt32 = (-14) := by decide
theorem cb_m15 : (Int8.ofInt (-15)).toInt32 = (-15) := by decide
theorem cb_m16 : (Int8.ofInt (-16)).toInt32 = (-16) := by decide
theorem cb_m2 : (Int8.ofInt (-2)).toInt32 = (-2) := by decide
theorem cb_m3 : (Int8.ofInt (-3)).toInt32 = (-3) := by decide
theorem cb_m4 : (Int8.ofInt (-4)).toInt32 = (-4) := by decide
theorem cb_m9 : (Int8.ofInt (-9)).toInt32 = (-9) := by decide
theorem ci_0 : Int32.ofInt 0 = 0 := by decide
theorem ci_1 : Int32.ofInt 1 = 1 := by decide
theorem ci_2 : Int32.ofInt 2 = 2 := by decide
theorem ci_3 : Int32.ofInt 3 = 3 := by decide
theorem ci_4 : Int32.ofInt 4 = 4 := by decide
theorem ci_5 : Int32.ofInt 5 = 5 := by decide
theorem ci_m1 : Int32.ofInt (-1) = (-1) := by decide
theorem cs_1000 : (Int16.ofInt 1000).toInt32 = 1000 := by decide
theorem cs_12345 : (Int16.ofInt 12345).toInt32 = 12345 := by decide
theorem cs_128 : (Int16.ofInt 128).toInt32 = 128 := by decide
theorem cs_160 : (Int16.ofInt 160).toInt32 = 160 := by decide
theorem cs_200 : (Int16.ofInt 200).toInt32 = 200 := by decide
theorem cs_201 : (Int16.ofInt 201).toInt32 = 201 := by decide
theorem cs_205 : (Int16.ofInt 205).toInt32 = 205 := by decide
theorem cs_255 : (Int16.ofInt 255).toInt32 = 255 := by decide
theorem cs_295 : (Int16.ofInt 295).toInt32 = 295 := by decide
theorem cs_3072 : (Int16.ofInt 3072).toInt32 = 3072 := by decide
theorem cs_9999 : (Int16.ofInt 9999).toInt32 = 9999 := by decide
theorem inc_1 (x : Int32) : x + Int32.ofInt 1 = x + 1 := congrArg (fun y => x + y) (by decide : Int32.ofInt 1 = 1)
theorem inc_m1 (x : Int32) : x + Int32.ofInt (-1) = x + (-1) := congrArg (fun y => x + y) (by decide : Int32.ofInt (-1) = (-1))
theorem kO_X9_powerOf : yX9_powerOf.cls ≠ "java/lang/invoke/MethodHandle" ∧ yX9_powerOf.cls ≠ "java/lang/invoke/VarHandle" ∧ (parseMethodDescriptor yX9_powerOf.desc).map (fun d => d.parameters.length) = some 2 := by decide +kernel
theorem kO_X9_shares : yX9_shares.cls ≠ "java/lang/invoke/MethodHandle" ∧ yX9_shares.cls ≠ "java/lang/invoke/VarHandle" ∧ (parseMethodDescriptor yX9_shares.desc).map (fun d => d.parameters.length) = some 1 := by decide +kernel
theorem kO_X9_sways : yX9_sways.cls ≠ "java/lang/invoke/MethodHandle" ∧ yX9_sways.cls ≠ "java/lang/invoke/VarHandle" ∧ (parseMethodDescriptor yX9_sways.desc).map (fun d => d.parameters.length) = some 1 := by decide +kernel
theorem kO_X9_tells : yX9_tells.cls ≠ "java/lang/invoke/MethodHandle" ∧ yX9_tells.cls ≠ "java/lang/invoke/VarHandle" ∧ (parseMethodDescriptor yX9_tells.desc).map (fun d => d.parameters.length) = some 1 := by decide +kernel
theorem kO_X9_wishes : yX9_wishes.cls ≠ "java/lang/invoke/MethodHandle" ∧ yX9_wishes.cls ≠ "java/lang/invoke/VarHandle" ∧ (parseMethodDescriptor yX9_wishes.desc).map (fun d => d.parameters.length) = some 1 := by decide +kernel
theorem kS_J6_bitCount_0f7a4 : yJ6_bitCount_0f7a4.cls ≠ "java/lang/invoke/MethodHandle" ∧ yJ6_bitCount_0f7a4.cls ≠ "java/lang/invoke/VarHandle" ∧ (parseMethodDescriptor yJ6_bitCount_0f7a4.desc).map (fun d => d.parameters.length) = some 1 := by decide +kernel
theorem kS_J7_fill_53178 : yJ7_fill_53178.cls ≠ "java/lang/invoke/MethodHandle" ∧ yJ7_fill_53178.cls ≠ "java/lang/invoke/VarHandle" ∧ (parseMethodDescriptor yJ7_fill_53178.desc).map (fun d => d.parameters.length) = some 2 := by decide +kernel
theorem kS_J9_floorMod_7cf53 : yJ9_floorMod_7cf53.cls ≠ "java/lang/invoke/MethodHandle" ∧ yJ9_floorMod_7cf53.cls ≠ "java/lang/invoke/VarHandle" ∧ (parseMethodDescriptor yJ9_floorMod_7cf53.desc).map (fun d => d.parameters.length) = some 2 := by decide +kernel
theorem kS_X0_init : yX0_init.cls ≠ "java/lang/invoke/MethodHandle" ∧ yX0_init.cls ≠ "java/lang/invoke/VarHandle" ∧ (parseMethodDescriptor yX0_init.desc).map (fun d => d.parameters.length) = some 1 := by decide +kernel
theorem kS_X10_init : yX10_init.cls ≠ "java/lang/invoke/MethodHandle" ∧ yX10_init.cls ≠ "java/lang/invoke/VarHandle" ∧ (parseMethodDescriptor yX10_init.desc).map (fun d => d.parameters.length) = some 0 := by decide +kernel
theorem kS_X11_acted : yX11_acted.cls ≠ "java/lang/invoke/MethodHandle" ∧ yX11_acted.cls ≠ "java/lang/invoke/VarHandle" ∧ (parseMethodDescriptor yX11_acted.desc).map (fun d => d.parameters.length) = some 2 := by decide +kernel
theorem kS_X11_apart : yX11_apart.cls ≠ "java/lang/invoke/MethodHandle" ∧ yX11_apart.cls ≠ "java/lang/invoke/VarHandle" ∧ (parseMethodDescriptor yX11_apart.desc).map (fun d => d.parameters.length) = some 2 := by decide +kernel
theorem kS_X11_isHour : yX11_isHour.cls ≠ "java/lang/invoke/MethodHandle" ∧ yX11_isHour.cls ≠ "java/lang/invoke/VarHandle" ∧ (parseMethodDescriptor yX11_isHour.desc).map (fun d => d.parameters.length) = some 1 := by decide +kernel
theorem kS_X11_isIn : yX11_isIn.cls ≠ "java/lang/invoke/MethodHandle" ∧ yX11_isIn.cls ≠ "java/lang/invoke/VarHandle" ∧ (parseMethodDescriptor yX11_isIn.desc).map (fun d => d.parameters.length) = some 3 := by decide +kernel
theorem kS_X11_isUnder : yX11_isUnder.cls ≠ "java/lang/invoke/MethodHandle" ∧ yX11_isUnder.cls ≠ "java/lang/invoke/VarHandle" ∧ (parseMethodDescriptor yX11_isUnder.desc).map (fun d => d.parameters.length) = some 2 := by decide +kernel
theorem kS_X11_isWithin : yX11_isWithin.cls ≠ "java/lang/invoke/MethodHandle" ∧ yX11_isWithin.cls ≠ "java/lang/invoke/VarHandle" ∧ (parseMethodDescriptor yX11_isWithin.desc).map (fun d => d.parameters.length) = some 2 := by decide +kernel
theorem kS_X11_moved : yX11_moved.cls ≠ "java/lang/invoke/MethodHandle" ∧ yX11_moved.cls ≠ "java/lang/invoke/VarHandle" ∧ (parseMethodDescriptor yX11_moved.desc).map (fun d => d.parameters.length) = some 2 := by decide +kernel
theorem kS_X11_suits : yX11_suits.cls ≠ "java/lang/invoke/MethodHandle" ∧ yX11_suits.cls ≠ "java/lang/invoke/VarHandle" ∧ (parseMethodDescriptor yX11_suits.desc).map (fun d => d.parameters.length) = some 2 := by decide +kernel
theorem kS_X11_turnOf : yX11_turnOf.cls ≠ "java/lang/invoke/MethodHandle" ∧ yX11_turnOf.cls ≠ "java/lang/invoke/VarHandle" ∧ (parseMethodDescriptor yX11_turnOf.desc).map (fun d => d.parameters.length) = some 2 := by decide +kernel
theorem kS_X12_apart : yX12_apart.cls ≠ "java/lang/invoke/MethodHandle" ∧ yX12_apart.cls ≠ "java/lang/invoke/VarHandle" ∧ (parseMethodDescriptor yX12_apart.desc).map (fun d => d.parameters.length) = some 2 := by decide +kernel
theorem kS_X12_around : yX12_around.cls ≠ "java/lang/invoke/MethodHandle" ∧ yX12_around.cls ≠ "java/lang/invoke/VarHandle" ∧ (parseMethodDescriptor yX12_around.desc).map (fun d => d.parameters.length) = some 1 := by decide +kernel
theorem kS_X12_become : yX12_become.cls ≠ "java/lang/invoke/MethodHandle" ∧ yX12_become.cls ≠ "java/lang/invoke/VarHandle" ∧ (parseMethodDescriptor yX12_become.desc).map (fun d => d.parameters.length) = some 2 := by decide +kernel
theorem kS_X12_in : yX12_in.cls ≠ "java/lang/invoke/MethodHandle" ∧ yX12_in.cls ≠ "java/lang/invoke/VarHandle" ∧ (parseMethodDescriptor yX12_in.desc).map (fun d => d.parameters.length) = some 3 := by decide +kernel
theorem kS_X12_isFour : yX12_isFour.cls ≠ "java/lang/invoke/MethodHandle" ∧ yX12_isFour.cls ≠ "java/lang/invoke/VarHandle" ∧ (parseMethodDescriptor yX12_isFour.desc).map (fun d => d.parameters.length) = some 1 := by decide +kernel
theorem kS_X12_isHour : yX12_isHour.cls ≠ "java/lang/invoke/MethodHandle" ∧ yX12_isHour.cls ≠ "java/lang/invoke/VarHandle" ∧ (parseMethodDescriptor yX12_isHour.desc).map (fun d => d.parameters.length) = some 1 := by decide +kernel
theorem kS_X12_isKind : yX12_isKind.cls ≠ "java/lang/invoke/MethodHandle" ∧ yX12_isKind.cls ≠ "java/lang/invoke/VarHandle" ∧ (parseMethodDescriptor yX12_isKind.desc).map (fun d => d.parameters.length) = some 1 := by decide +kernel
theorem kS_X12_isSo : yX12_isSo.cls ≠ "java/lang/invoke/MethodHandle" ∧ yX12_isSo.cls ≠ "java/lang/invoke/VarHandle" ∧ (parseMethodDescriptor yX12_isSo.desc).map (fun d => d.parameters.length) = some 3 := by decide +kernel
theorem kS_X12_isUnder : yX12_isUnder.cls ≠ "java/lang/invoke/MethodHandle" ∧ yX12_isUnder.cls ≠ "java/lang/invoke/VarHandle" ∧ (parseMethodDescriptor yX12_isUnder.desc).map (fun d => d.parameters.length) = some 2 := by decide +kernel
theorem kS_X12_mayBe : yX12_mayBe.cls ≠ "java/lang/invoke/MethodHandle" ∧ yX12_mayBe.cls ≠ "java/lang/invoke/VarHandle" ∧ (parseMethodDescriptor yX12_mayBe.desc).map (fun d => d.parameters.length) = some 2 := by decide +kernel
theorem kS_X12_narrowed : yX12_narrowed.cls ≠ "java/lang/invoke/MethodHandle" ∧ yX12_narrowed.cls ≠ "java/lang/invoke/VarHandle" ∧ (parseMethodDescriptor yX12_narrowed.desc).map (fun d => d.parameters.length) = some 2 := by decide +kernel
theorem kS_X12_ones : yX12_ones.cls ≠ "java/lang/invoke/MethodHandle" ∧ yX12_ones.cls ≠ "java/lang/invoke/VarHandle" ∧ (parseMethodDescriptor yX12_ones.desc).map (fun d => d.parameters.length) = some 1 := by decide +kernel
theorem kS_X1_init : yX1_init.cls ≠ "java/lang/invoke/MethodHandle" ∧ yX1_init.cls ≠ "java/lang/invoke/VarHandle" ∧ (parseMethodDescriptor yX1_init.desc).map (fun d => d.parameters.length) = some 1 := by decide +kernel
theorem kS_X2_init : yX2_init.cls ≠ "java/lang/invoke/MethodHandle" ∧ yX2_init.cls ≠ "java/lang/invoke/VarHandle" ∧ (parseMethodDescriptor yX2_init.desc).map (fun d => d.parameters.length) = some 0 := by decide +kernel
theorem kS_X3_init : yX3_init.cls ≠ "java/lang/invoke/MethodHandle" ∧ yX3_init.cls ≠ "java/lang/invoke/VarHandle" ∧ (parseMethodDescriptor yX3_init.desc).map (fun d => d.parameters.length) = some 1 := by decide +kernel
theorem kS_X4_init : yX4_init.cls ≠ "java/lang/invoke/MethodHandle" ∧ yX4_init.cls ≠ "java/lang/invoke/VarHandle" ∧ (parseMethodDescriptor yX4_init.desc).map (fun d => d.parameters.length) = some 0 := by decide +kernel
theorem kS_X5_init : yX5_init.cls ≠ "java/lang/invoke/MethodHandle" ∧ yX5_init.cls ≠ "java/lang/invoke/VarHandle" ∧ (parseMethodDescriptor yX5_init.desc).map (fun d => d.parameters.length) = some 0 := by decide +kernel
theorem kS_X5_isDigit : yX5_isDigit.cls ≠ "java/lang/invoke/MethodHandle" ∧ yX5_isDigit.cls ≠ "java/lang/invoke/VarHandle" ∧ (parseMethodDescriptor yX5_isDigit.desc).map (fun d => d.parameters.length) = some 1 := by decide +kernel
theorem kS_X5_isLetter : yX5_isLetter.cls ≠ "java/lang/invoke/MethodHandle" ∧ yX5_isLetter.cls ≠ "java/lang/invoke/VarHandle" ∧ (parseMethodDescriptor yX5_isLetter.desc).map (fun d => d.parameters.length) = some 1 := by decide +kernel
theorem kS_X5_signOf : yX5_signOf.cls ≠ "java/lang/invoke/MethodHandle" ∧ yX5_signOf.cls ≠ "java/lang/invoke/VarHandle" ∧ (parseMethodDescriptor yX5_signOf.desc).map (fun d => d.parameters.length) = some 1 := by decide +kernel
theorem kS_X6_init : yX6_init.cls ≠ "java/lang/invoke/MethodHandle" ∧ yX6_init.cls ≠ "java/lang/invoke/VarHandle" ∧ (parseMethodDescriptor yX6_init.desc).map (fun d => d.parameters.length) = some 0 := by decide +kernel
theorem kS_X7_init : yX7_init.cls ≠ "java/lang/invoke/MethodHandle" ∧ yX7_init.cls ≠ "java/lang/invoke/VarHandle" ∧ (parseMethodDescriptor yX7_init.desc).map (fun d => d.parameters.length) = some 1 := by decide +kernel
theorem kS_X8_init : yX8_init.cls ≠ "java/lang/invoke/MethodHandle" ∧ yX8_init.cls ≠ "java/lang/invoke/VarHandle" ∧ (parseMethodDescriptor yX8_init.desc).map (fun d => d.parameters.length) = some 1 := by decide +kernel
theorem kS_X9_init : yX9_init.cls ≠ "java/lang/invoke/MethodHandle" ∧ yX9_init.cls ≠ "java/lang/invoke/VarHandle" ∧ (parseMethodDescriptor yX9_init.desc).map (fun d => d.parameters.length) = some 1 := by decide +kernel
theorem kU_X0_powerOf : yX0_powerOf.name ≠ "<init>" ∧ (parseMethodDescriptor yX0_powerOf.desc).map (fun d => d.parameters.length) = some 2 := by decide +kernel
theorem kU_X0_shares : yX0_shares.name ≠ "<init>" ∧ (parseMethodDescriptor yX0_shares.desc).map (fun d => d.parameters.length) = some 1 := by decide +kernel
theorem kU_X1_powerOf : yX1_powerOf.name ≠ "<init>" ∧ (parseMethodDescriptor yX1_powerOf.desc).map (fun d => d.parameters.length) = some 2 := by decide +kernel
theorem kU_X9_shares : yX9_shares.name ≠ "<init>" ∧ (parseMethodDescriptor yX9_shares.desc).map (fun d => d.parameters.length) = some 1 := by decide +kernel
theorem kU_X9_sways : yX9_sways.name ≠ "<init>" ∧ (parseMethodDescriptor yX9_sways.desc).map (fun d => d.parameters.length) = some 1 := by decide +kernel
theorem kU_X9_tells : yX9_tells.name ≠ "<init>" ∧ (parseMethodDescriptor yX9_tells.desc).map (fun d => d.parameters.length) = some 1 := by decide +kernel
theorem kU_X9_wishes : yX9_wishes.name ≠ "<init>" ∧ (parseMethodDescriptor yX9_wishes.desc).map (fun d => d.parameters.length) = some 1 := by decide +kernel
theorem kV_X10_begins : yX10_begins.cls = RX10 ∧ yX10_begins.cls ≠ "java/lang/invoke/MethodHandle" ∧ yX10_begins.cls ≠ "java/lang/invoke/VarHandle" ∧ (parseMethodDescriptor yX10_begins.desc).map (fun d => d.parameters.length) = some 1 := by decide +kernel
theorem kV_X11_bestLulled : yX11_bestLulled.cls = RX11 ∧ yX11_bestLulled.cls ≠ "java/lang/invoke/MethodHandle" ∧ yX11_bestLulled.cls ≠ "java/lang/invoke/VarHandle" ∧ (parseMethodDescriptor yX11_bestLulled.desc).map (fun d => d.parameters.length) = some 1 := by decide +kernel
theorem kV_X11_countEnds : yX11_countEnds.cls = RX11 ∧ yX11_countEnds.cls ≠ "java/lang/invoke/MethodHandle" ∧ yX11_countEnds.cls ≠ "java/lang/invoke/VarHandle" ∧ (parseMethodDescriptor yX11_countEnds.desc).map (fun d => d.parameters.length) = some 3 := by decide +kernel
theorem kV_X11_countEndsBehind : yX11_countEndsBehind.cls = RX11 ∧ yX11_countEndsBehind.cls ≠ "java/lang/invoke/MethodHandle" ∧ yX11_countEndsBehind.cls ≠ "java/lang/invoke/VarHandle" ∧ (parseMethodDescriptor yX11_countEndsBehind.desc).map (fun d => d.parameters.length) = some 3 := by decide +kernel
theorem kV_X11_decides : yX11_decides.cls = RX11 ∧ yX11_decides.cls ≠ "java/lang/invoke/MethodHandle" ∧ yX11_decides.cls ≠ "java/lang/invoke/VarHandle" ∧ (parseMethodDescriptor yX11_decides.desc).map (fun d => d.parameters.length) = some 2 := by decide +kernel
theorem kV_X11_findEnds : yX11_findEnds.cls = RX11 ∧ yX11_findEnds.cls ≠ "java/lang/invoke/MethodHandle" ∧ yX11_findEnds.cls ≠ "java/lang/invoke/VarHandle" ∧ (parseMethodDescriptor yX11_findEnds.desc).map (fun d => d.parameters.length) = some 1 := by decide +kernel
theorem kV_X11_findPulls : yX11_findPulls.cls = RX11 ∧ yX11_findPulls.cls ≠ "java/lang/invoke/MethodHandle" ∧ yX11_findPulls.cls ≠ "java/lang/invoke/VarHandle" ∧ (parseMethodDescriptor yX11_findPulls.desc).map (fun d => d.parameters.length) = some 0 := by decide +kernel
theorem kV_X11_firstPlan : yX11_firstPlan.cls = RX11 ∧ yX11_firstPlan.cls ≠ "java/lang/invoke/MethodHandle" ∧ yX11_firstPlan.cls ≠ "java/lang/invoke/VarHandle" ∧ (parseMethodDescriptor yX11_firstPlan.desc).map (fun d => d.parameters.length) = some 3 := by decide +kernel
theorem kV_X11_fits : yX11_fits.cls = RX11 ∧ yX11_fits.cls ≠ "java/lang/invoke/MethodHandle" ∧ yX11_fits.cls ≠ "java/lang/invoke/VarHandle" ∧ (parseMethodDescriptor yX11_fits.desc).map (fun d => d.parameters.length) = some 2 := by decide +kernel
theorem kV_X11_forgetSums : yX11_forgetSums.cls = RX11 ∧ yX11_forgetSums.cls ≠ "java/lang/invoke/MethodHandle" ∧ yX11_forgetSums.cls ≠ "java/lang/invoke/VarHandle" ∧ (parseMethodDescriptor yX11_forgetSums.desc).map (fun d => d.parameters.length) = some 0 := by decide +kernel
theorem kV_X11_gainsByLying : yX11_gainsByLying.cls = RX11 ∧ yX11_gainsByLying.cls ≠ "java/lang/invoke/MethodHandle" ∧ yX11_gainsByLying.cls ≠ "java/lang/invoke/VarHandle" ∧ (parseMethodDescriptor yX11_gainsByLying.desc).map (fun d => d.parameters.length) = some 1 := by decide +kernel
theorem kV_X11_goesOnTo : yX11_goesOnTo.cls = RX11 ∧ yX11_goesOnTo.cls ≠ "java/lang/invoke/MethodHandle" ∧ yX11_goesOnTo.cls ≠ "java/lang/invoke/VarHandle" ∧ (parseMethodDescriptor yX11_goesOnTo.desc).map (fun d => d.parameters.length) = some 6 := by decide +kernel
theorem kV_X11_hourAfter : yX11_hourAfter.cls = RX11 ∧ yX11_hourAfter.cls ≠ "java/lang/invoke/MethodHandle" ∧ yX11_hourAfter.cls ≠ "java/lang/invoke/VarHandle" ∧ (parseMethodDescriptor yX11_hourAfter.desc).map (fun d => d.parameters.length) = some 2 := by decide +kernel
theorem kV_X11_hourBehind : yX11_hourBehind.cls = RX11 ∧ yX11_hourBehind.cls ≠ "java/lang/invoke/MethodHandle" ∧ yX11_hourBehind.cls ≠ "java/lang/invoke/VarHandle" ∧ (parseMethodDescriptor yX11_hourBehind.desc).map (fun d => d.parameters.length) = some 2 := by decide +kernel
theorem kV_X11_isAct : yX11_isAct.cls = RX11 ∧ yX11_isAct.cls ≠ "java/lang/invoke/MethodHandle" ∧ yX11_isAct.cls ≠ "java/lang/invoke/VarHandle" ∧ (parseMethodDescriptor yX11_isAct.desc).map (fun d => d.parameters.length) = some 1 := by decide +kernel
theorem kV_X11_isAwake : yX11_isAwake.cls = RX11 ∧ yX11_isAwake.cls ≠ "java/lang/invoke/MethodHandle" ∧ yX11_isAwake.cls ≠ "java/lang/invoke/VarHandle" ∧ (parseMethodDescriptor yX11_isAwake.desc).map (fun d => d.parameters.length) = some 1 := by decide +kernel
theorem kV_X11_isBetter : yX11_isBetter.cls = RX11 ∧ yX11_isBetter.cls ≠ "java/lang/invoke/MethodHandle" ∧ yX11_isBetter.cls ≠ "java/lang/invoke/VarHandle" ∧ (parseMethodDescriptor yX11_isBetter.desc).map (fun d => d.parameters.length) = some 2 := by decide +kernel
theorem kV_X11_isInRow : yX11_isInRow.cls = RX11 ∧ yX11_isInRow.cls ≠ "java/lang/invoke/MethodHandle" ∧ yX11_isInRow.cls ≠ "java/lang/invoke/VarHandle" ∧ (parseMethodDescriptor yX11_isInRow.desc).map (fun d => d.parameters.length) = some 2 := by decide +kernel
theorem kV_X11_isVoter : yX11_isVoter.cls = RX11 ∧ yX11_isVoter.cls ≠ "java/lang/invoke/MethodHandle" ∧ yX11_isVoter.cls ≠ "java/lang/invoke/VarHandle" ∧ (parseMethodDescriptor yX11_isVoter.desc).map (fun d => d.parameters.length) = some 1 := by decide +kernel
theorem kV_X11_missBehind : yX11_missBehind.cls = RX11 ∧ yX11_missBehind.cls ≠ "java/lang/invoke/MethodHandle" ∧ yX11_missBehind.cls ≠ "java/lang/invoke/VarHandle" ∧ (parseMethodDescriptor yX11_missBehind.desc).map (fun d => d.parameters.length) = some 2 := by decide +kernel
theorem kV_X11_noonsUntilRound : yX11_noonsUntilRound.cls = RX11 ∧ yX11_noonsUntilRound.cls ≠ "java/lang/invoke/MethodHandle" ∧ yX11_noonsUntilRound.cls ≠ "java/lang/invoke/VarHandle" ∧ (parseMethodDescriptor yX11_noonsUntilRound.desc).map (fun d => d.parameters.length) = some 1 := by decide +kernel
theorem kV_X11_plansTo : yX11_plansTo.cls = RX11 ∧ yX11_plansTo.cls ≠ "java/lang/invoke/MethodHandle" ∧ yX11_plansTo.cls ≠ "java/lang/invoke/VarHandle" ∧ (parseMethodDescriptor yX11_plansTo.desc).map (fun d => d.parameters.length) = some 6 := by decide +kernel
theorem kV_X11_powerAt : yX11_powerAt.cls = RX11 ∧ yX11_powerAt.cls ≠ "java/lang/invoke/MethodHandle" ∧ yX11_powerAt.cls ≠ "java/lang/invoke/VarHandle" ∧ (parseMethodDescriptor yX11_powerAt.desc).map (fun d => d.parameters.length) = some 3 := by decide +kernel
theorem kV_X11_priceOf : yX11_priceOf.cls = RX11 ∧ yX11_priceOf.cls ≠ "java/lang/invoke/MethodHandle" ∧ yX11_priceOf.cls ≠ "java/lang/invoke/VarHandle" ∧ (parseMethodDescriptor yX11_priceOf.desc).map (fun d => d.parameters.length) = some 1 := by decide +kernel
theorem kV_X11_refusalOfActs : yX11_refusalOfActs.cls = RX11 ∧ yX11_refusalOfActs.cls ≠ "java/lang/invoke/MethodHandle" ∧ yX11_refusalOfActs.cls ≠ "java/lang/invoke/VarHandle" ∧ (parseMethodDescriptor yX11_refusalOfActs.desc).map (fun d => d.parameters.length) = some 2 := by decide +kernel
theorem kV_X11_someFits : yX11_someFits.cls = RX11 ∧ yX11_someFits.cls ≠ "java/lang/invoke/MethodHandle" ∧ yX11_someFits.cls ≠ "java/lang/invoke/VarHandle" ∧ (parseMethodDescriptor yX11_someFits.desc).map (fun d => d.parameters.length) = some 1 := by decide +kernel
theorem kV_X11_sumAt : yX11_sumAt.cls = RX11 ∧ yX11_sumAt.cls ≠ "java/lang/invoke/MethodHandle" ∧ yX11_sumAt.cls ≠ "java/lang/invoke/VarHandle" ∧ (parseMethodDescriptor yX11_sumAt.desc).map (fun d => d.parameters.length) = some 2 := by decide +kernel
theorem kV_X11_turnByLot : yX11_turnByLot.cls = RX11 ∧ yX11_turnByLot.cls ≠ "java/lang/invoke/MethodHandle" ∧ yX11_turnByLot.cls ≠ "java/lang/invoke/VarHandle" ∧ (parseMethodDescriptor yX11_turnByLot.desc).map (fun d => d.parameters.length) = some 0 := by decide +kernel
theorem kV_X11_turnNow : yX11_turnNow.cls = RX11 ∧ yX11_turnNow.cls ≠ "java/lang/invoke/MethodHandle" ∧ yX11_turnNow.cls ≠ "java/lang/invoke/VarHandle" ∧ (parseMethodDescriptor yX11_turnNow.desc).map (fun d => d.parameters.length) = some 0 := by decide +kernel
theorem kV_X11_valueBy : yX11_valueBy.cls = RX11 ∧ yX11_valueBy.cls ≠ "java/lang/invoke/MethodHandle" ∧ yX11_valueBy.cls ≠ "java/lang/invoke/VarHandle" ∧ (parseMethodDescriptor yX11_valueBy.desc).map (fun d => d.parameters.length) = some 5 := by decide +kernel
theorem kV_X11_valueOf : yX11_valueOf.cls = RX11 ∧ yX11_valueOf.cls ≠ "java/lang/invoke/MethodHandle" ∧ yX11_valueOf.cls ≠ "java/lang/invoke/VarHandle" ∧ (parseMethodDescriptor yX11_valueOf.desc).map (fun d => d.parameters.length) = some 4 := by decide +kernel
theorem kV_X11_voteAt : yX11_voteAt.cls = RX11 ∧ yX11_voteAt.cls ≠ "java/lang/invoke/MethodHandle" ∧ yX11_voteAt.cls ≠ "java/lang/invoke/VarHandle" ∧ (parseMethodDescriptor yX11_voteAt.desc).map (fun d => d.parameters.length) = some 2 := by decide +kernel
theorem kV_X11_voterOn : yX11_voterOn.cls = RX11 ∧ yX11_voterOn.cls ≠ "java/lang/invoke/MethodHandle" ∧ yX11_voterOn.cls ≠ "java/lang/invoke/VarHandle" ∧ (parseMethodDescriptor yX11_voterOn.desc).map (fun d => d.parameters.length) = some 1 := by decide +kernel
theorem kV_X12_all : yX12_all.cls = RX12 ∧ yX12_all.cls ≠ "java/lang/invoke/MethodHandle" ∧ yX12_all.cls ≠ "java/lang/invoke/VarHandle" ∧ (parseMethodDescriptor yX12_all.desc).map (fun d => d.parameters.length) = some 0 := by decide +kernel
theorem kV_X12_any : yX12_any.cls = RX12 ∧ yX12_any.cls ≠ "java/lang/invoke/MethodHandle" ∧ yX12_any.cls ≠ "java/lang/invoke/VarHandle" ∧ (parseMethodDescriptor yX12_any.desc).map (fun d => d.parameters.length) = some 0 := by decide +kernel
theorem kV_X12_awake : yX12_awake.cls = RX12 ∧ yX12_awake.cls ≠ "java/lang/invoke/MethodHandle" ∧ yX12_awake.cls ≠ "java/lang/invoke/VarHandle" ∧ (parseMethodDescriptor yX12_awake.desc).map (fun d => d.parameters.length) = some 0 := by decide +kernel
theorem kV_X12_awakeSet : yX12_awakeSet.cls = RX12 ∧ yX12_awakeSet.cls ≠ "java/lang/invoke/MethodHandle" ∧ yX12_awakeSet.cls ≠ "java/lang/invoke/VarHandle" ∧ (parseMethodDescriptor yX12_awakeSet.desc).map (fun d => d.parameters.length) = some 0 := by decide +kernel
theorem kV_X12_bakerShares : yX12_bakerShares.cls = RX12 ∧ yX12_bakerShares.cls ≠ "java/lang/invoke/MethodHandle" ∧ yX12_bakerShares.cls ≠ "java/lang/invoke/VarHandle" ∧ (parseMethodDescriptor yX12_bakerShares.desc).map (fun d => d.parameters.length) = some 1 := by decide +kernel
theorem kV_X12_becomes : yX12_becomes.cls = RX12 ∧ yX12_becomes.cls ≠ "java/lang/invoke/MethodHandle" ∧ yX12_becomes.cls ≠ "java/lang/invoke/VarHandle" ∧ (parseMethodDescriptor yX12_becomes.desc).map (fun d => d.parameters.length) = some 2 := by decide +kernel
theorem kV_X12_bestFor : yX12_bestFor.cls = RX12 ∧ yX12_bestFor.cls ≠ "java/lang/invoke/MethodHandle" ∧ yX12_bestFor.cls ≠ "java/lang/invoke/VarHandle" ∧ (parseMethodDescriptor yX12_bestFor.desc).map (fun d => d.parameters.length) = some 1 := by decide +kernel
theorem kV_X12_does : yX12_does.cls = RX12 ∧ yX12_does.cls ≠ "java/lang/invoke/MethodHandle" ∧ yX12_does.cls ≠ "java/lang/invoke/VarHandle" ∧ (parseMethodDescriptor yX12_does.desc).map (fun d => d.parameters.length) = some 1 := by decide +kernel
theorem kV_X12_draw : yX12_draw.cls = RX12 ∧ yX12_draw.cls ≠ "java/lang/invoke/MethodHandle" ∧ yX12_draw.cls ≠ "java/lang/invoke/VarHandle" ∧ (parseMethodDescriptor yX12_draw.desc).map (fun d => d.parameters.length) = some 0 := by decide +kernel
theorem kV_X12_fact : yX12_fact.cls = RX12 ∧ yX12_fact.cls ≠ "java/lang/invoke/MethodHandle" ∧ yX12_fact.cls ≠ "java/lang/invoke/VarHandle" ∧ (parseMethodDescriptor yX12_fact.desc).map (fun d => d.parameters.length) = some 2 := by decide +kernel
theorem kV_X12_factHere : yX12_factHere.cls = RX12 ∧ yX12_factHere.cls ≠ "java/lang/invoke/MethodHandle" ∧ yX12_factHere.cls ≠ "java/lang/invoke/VarHandle" ∧ (parseMethodDescriptor yX12_factHere.desc).map (fun d => d.parameters.length) = some 0 := by decide +kernel
theorem kV_X12_fewestFor : yX12_fewestFor.cls = RX12 ∧ yX12_fewestFor.cls ≠ "java/lang/invoke/MethodHandle" ∧ yX12_fewestFor.cls ≠ "java/lang/invoke/VarHandle" ∧ (parseMethodDescriptor yX12_fewestFor.desc).map (fun d => d.parameters.length) = some 2 := by decide +kernel
theorem kV_X12_finds : yX12_finds.cls = RX12 ∧ yX12_finds.cls ≠ "java/lang/invoke/MethodHandle" ∧ yX12_finds.cls ≠ "java/lang/invoke/VarHandle" ∧ (parseMethodDescriptor yX12_finds.desc).map (fun d => d.parameters.length) = some 3 := by decide +kernel
theorem kV_X12_fitting : yX12_fitting.cls = RX12 ∧ yX12_fitting.cls ≠ "java/lang/invoke/MethodHandle" ∧ yX12_fitting.cls ≠ "java/lang/invoke/VarHandle" ∧ (parseMethodDescriptor yX12_fitting.desc).map (fun d => d.parameters.length) = some 1 := by decide +kernel
theorem kV_X12_forgets : yX12_forgets.cls = RX12 ∧ yX12_forgets.cls ≠ "java/lang/invoke/MethodHandle" ∧ yX12_forgets.cls ≠ "java/lang/invoke/VarHandle" ∧ (parseMethodDescriptor yX12_forgets.desc).map (fun d => d.parameters.length) = some 0 := by decide +kernel
theorem kV_X12_holds : yX12_holds.cls = RX12 ∧ yX12_holds.cls ≠ "java/lang/invoke/MethodHandle" ∧ yX12_holds.cls ≠ "java/lang/invoke/VarHandle" ∧ (parseMethodDescriptor yX12_holds.desc).map (fun d => d.parameters.length) = some 3 := by decide +kernel
theorem kV_X12_isByte : yX12_isByte.cls = RX12 ∧ yX12_isByte.cls ≠ "java/lang/invoke/MethodHandle" ∧ yX12_isByte.cls ≠ "java/lang/invoke/VarHandle" ∧ (parseMethodDescriptor yX12_isByte.desc).map (fun d => d.parameters.length) = some 3 := by decide +kernel
theorem kV_X12_isCell : yX12_isCell.cls = RX12 ∧ yX12_isCell.cls ≠ "java/lang/invoke/MethodHandle" ∧ yX12_isCell.cls ≠ "java/lang/invoke/VarHandle" ∧ (parseMethodDescriptor yX12_isCell.desc).map (fun d => d.parameters.length) = some 2 := by decide +kernel
theorem kV_X12_isHeld : yX12_isHeld.cls = RX12 ∧ yX12_isHeld.cls ≠ "java/lang/invoke/MethodHandle" ∧ yX12_isHeld.cls ≠ "java/lang/invoke/VarHandle" ∧ (parseMethodDescriptor yX12_isHeld.desc).map (fun d => d.parameters.length) = some 1 := by decide +kernel
theorem kV_X12_isRight : yX12_isRight.cls = RX12 ∧ yX12_isRight.cls ≠ "java/lang/invoke/MethodHandle" ∧ yX12_isRight.cls ≠ "java/lang/invoke/VarHandle" ∧ (parseMethodDescriptor yX12_isRight.desc).map (fun d => d.parameters.length) = some 2 := by decide +kernel
theorem kV_X12_isVoter : yX12_isVoter.cls = RX12 ∧ yX12_isVoter.cls ≠ "java/lang/invoke/MethodHandle" ∧ yX12_isVoter.cls ≠ "java/lang/invoke/VarHandle" ∧ (parseMethodDescriptor yX12_isVoter.desc).map (fun d => d.parameters.length) = some 1 := by decide +kernel
theorem kV_X12_isWord : yX12_isWord.cls = RX12 ∧ yX12_isWord.cls ≠ "java/lang/invoke/MethodHandle" ∧ yX12_isWord.cls ≠ "java/lang/invoke/VarHandle" ∧ (parseMethodDescriptor yX12_isWord.desc).map (fun d => d.parameters.length) = some 1 := by decide +kernel
theorem kV_X12_its : yX12_its.cls = RX12 ∧ yX12_its.cls ≠ "java/lang/invoke/MethodHandle" ∧ yX12_its.cls ≠ "java/lang/invoke/VarHandle" ∧ (parseMethodDescriptor yX12_its.desc).map (fun d => d.parameters.length) = some 2 := by decide +kernel
theorem kV_X12_kindHere : yX12_kindHere.cls = RX12 ∧ yX12_kindHere.cls ≠ "java/lang/invoke/MethodHandle" ∧ yX12_kindHere.cls ≠ "java/lang/invoke/VarHandle" ∧ (parseMethodDescriptor yX12_kindHere.desc).map (fun d => d.parameters.length) = some 0 := by decide +kernel
theorem kV_X12_lacks : yX12_lacks.cls = RX12 ∧ yX12_lacks.cls ≠ "java/lang/invoke/MethodHandle" ∧ yX12_lacks.cls ≠ "java/lang/invoke/VarHandle" ∧ (parseMethodDescriptor yX12_lacks.desc).map (fun d => d.parameters.length) = some 3 := by decide +kernel
theorem kV_X12_lacksBytes : yX12_lacksBytes.cls = RX12 ∧ yX12_lacksBytes.cls ≠ "java/lang/invoke/MethodHandle" ∧ yX12_lacksBytes.cls ≠ "java/lang/invoke/VarHandle" ∧ (parseMethodDescriptor yX12_lacksBytes.desc).map (fun d => d.parameters.length) = some 1 := by decide +kernel
theorem kV_X12_laysAllBack : yX12_laysAllBack.cls = RX12 ∧ yX12_laysAllBack.cls ≠ "java/lang/invoke/MethodHandle" ∧ yX12_laysAllBack.cls ≠ "java/lang/invoke/VarHandle" ∧ (parseMethodDescriptor yX12_laysAllBack.desc).map (fun d => d.parameters.length) = some 0 := by decide +kernel
theorem kV_X12_laysBack : yX12_laysBack.cls = RX12 ∧ yX12_laysBack.cls ≠ "java/lang/invoke/MethodHandle" ∧ yX12_laysBack.cls ≠ "java/lang/invoke/VarHandle" ∧ (parseMethodDescriptor yX12_laysBack.desc).map (fun d => d.parameters.length) = some 0 := by decide +kernel
theorem kV_X12_lulls : yX12_lulls.cls = RX12 ∧ yX12_lulls.cls ≠ "java/lang/invoke/MethodHandle" ∧ yX12_lulls.cls ≠ "java/lang/invoke/VarHandle" ∧ (parseMethodDescriptor yX12_lulls.desc).map (fun d => d.parameters.length) = some 2 := by decide +kernel
theorem kV_X12_moveBy : yX12_moveBy.cls = RX12 ∧ yX12_moveBy.cls ≠ "java/lang/invoke/MethodHandle" ∧ yX12_moveBy.cls ≠ "java/lang/invoke/VarHandle" ∧ (parseMethodDescriptor yX12_moveBy.desc).map (fun d => d.parameters.length) = some 1 := by decide +kernel
theorem kV_X12_next : yX12_next.cls = RX12 ∧ yX12_next.cls ≠ "java/lang/invoke/MethodHandle" ∧ yX12_next.cls ≠ "java/lang/invoke/VarHandle" ∧ (parseMethodDescriptor yX12_next.desc).map (fun d => d.parameters.length) = some 0 := by decide +kernel
theorem kV_X12_noonBy : yX12_noonBy.cls = RX12 ∧ yX12_noonBy.cls ≠ "java/lang/invoke/MethodHandle" ∧ yX12_noonBy.cls ≠ "java/lang/invoke/VarHandle" ∧ (parseMethodDescriptor yX12_noonBy.desc).map (fun d => d.parameters.length) = some 1 := by decide +kernel
theorem kV_X12_number : yX12_number.cls = RX12 ∧ yX12_number.cls ≠ "java/lang/invoke/MethodHandle" ∧ yX12_number.cls ≠ "java/lang/invoke/VarHandle" ∧ (parseMethodDescriptor yX12_number.desc).map (fun d => d.parameters.length) = some 1 := by decide +kernel
theorem kV_X12_numberHere : yX12_numberHere.cls = RX12 ∧ yX12_numberHere.cls ≠ "java/lang/invoke/MethodHandle" ∧ yX12_numberHere.cls ≠ "java/lang/invoke/VarHandle" ∧ (parseMethodDescriptor yX12_numberHere.desc).map (fun d => d.parameters.length) = some 0 := by decide +kernel
theorem kV_X12_one : yX12_one.cls = RX12 ∧ yX12_one.cls ≠ "java/lang/invoke/MethodHandle" ∧ yX12_one.cls ≠ "java/lang/invoke/VarHandle" ∧ (parseMethodDescriptor yX12_one.desc).map (fun d => d.parameters.length) = some 0 := by decide +kernel
theorem kV_X12_plainShares : yX12_plainShares.cls = RX12 ∧ yX12_plainShares.cls ≠ "java/lang/invoke/MethodHandle" ∧ yX12_plainShares.cls ≠ "java/lang/invoke/VarHandle" ∧ (parseMethodDescriptor yX12_plainShares.desc).map (fun d => d.parameters.length) = some 1 := by decide +kernel
theorem kV_X12_plainSways : yX12_plainSways.cls = RX12 ∧ yX12_plainSways.cls ≠ "java/lang/invoke/MethodHandle" ∧ yX12_plainSways.cls ≠ "java/lang/invoke/VarHandle" ∧ (parseMethodDescriptor yX12_plainSways.desc).map (fun d => d.parameters.length) = some 1 := by decide +kernel
theorem kV_X12_plainTells : yX12_plainTells.cls = RX12 ∧ yX12_plainTells.cls ≠ "java/lang/invoke/MethodHandle" ∧ yX12_plainTells.cls ≠ "java/lang/invoke/VarHandle" ∧ (parseMethodDescriptor yX12_plainTells.desc).map (fun d => d.parameters.length) = some 1 := by decide +kernel
theorem kV_X12_plans : yX12_plans.cls = RX12 ∧ yX12_plans.cls ≠ "java/lang/invoke/MethodHandle" ∧ yX12_plans.cls ≠ "java/lang/invoke/VarHandle" ∧ (parseMethodDescriptor yX12_plans.desc).map (fun d => d.parameters.length) = some 1 := by decide +kernel
theorem kV_X12_powerOf : yX12_powerOf.cls = RX12 ∧ yX12_powerOf.cls ≠ "java/lang/invoke/MethodHandle" ∧ yX12_powerOf.cls ≠ "java/lang/invoke/VarHandle" ∧ (parseMethodDescriptor yX12_powerOf.desc).map (fun d => d.parameters.length) = some 1 := by decide +kernel
theorem kV_X12_priceOf : yX12_priceOf.cls = RX12 ∧ yX12_priceOf.cls ≠ "java/lang/invoke/MethodHandle" ∧ yX12_priceOf.cls ≠ "java/lang/invoke/VarHandle" ∧ (parseMethodDescriptor yX12_priceOf.desc).map (fun d => d.parameters.length) = some 1 := by decide +kernel
theorem kV_X12_puts : yX12_puts.cls = RX12 ∧ yX12_puts.cls ≠ "java/lang/invoke/MethodHandle" ∧ yX12_puts.cls ≠ "java/lang/invoke/VarHandle" ∧ (parseMethodDescriptor yX12_puts.desc).map (fun d => d.parameters.length) = some 1 := by decide +kernel
theorem kV_X12_rule : yX12_rule.cls = RX12 ∧ yX12_rule.cls ≠ "java/lang/invoke/MethodHandle" ∧ yX12_rule.cls ≠ "java/lang/invoke/VarHandle" ∧ (parseMethodDescriptor yX12_rule.desc).map (fun d => d.parameters.length) = some 0 := by decide +kernel
theorem kV_X12_runs : yX12_runs.cls = RX12 ∧ yX12_runs.cls ≠ "java/lang/invoke/MethodHandle" ∧ yX12_runs.cls ≠ "java/lang/invoke/VarHandle" ∧ (parseMethodDescriptor yX12_runs.desc).map (fun d => d.parameters.length) = some 1 := by decide +kernel
theorem kV_X12_sets : yX12_sets.cls = RX12 ∧ yX12_sets.cls ≠ "java/lang/invoke/MethodHandle" ∧ yX12_sets.cls ≠ "java/lang/invoke/VarHandle" ∧ (parseMethodDescriptor yX12_sets.desc).map (fun d => d.parameters.length) = some 3 := by decide +kernel
theorem kV_X12_shares : yX12_shares.cls = RX12 ∧ yX12_shares.cls ≠ "java/lang/invoke/MethodHandle" ∧ yX12_shares.cls ≠ "java/lang/invoke/VarHandle" ∧ (parseMethodDescriptor yX12_shares.desc).map (fun d => d.parameters.length) = some 1 := by decide +kernel
theorem kV_X12_sumByLot : yX12_sumByLot.cls = RX12 ∧ yX12_sumByLot.cls ≠ "java/lang/invoke/MethodHandle" ∧ yX12_sumByLot.cls ≠ "java/lang/invoke/VarHandle" ∧ (parseMethodDescriptor yX12_sumByLot.desc).map (fun d => d.parameters.length) = some 0 := by decide +kernel
theorem kV_X12_sumNow : yX12_sumNow.cls = RX12 ∧ yX12_sumNow.cls ≠ "java/lang/invoke/MethodHandle" ∧ yX12_sumNow.cls ≠ "java/lang/invoke/VarHandle" ∧ (parseMethodDescriptor yX12_sumNow.desc).map (fun d => d.parameters.length) = some 0 := by decide +kernel
theorem kV_X12_sways : yX12_sways.cls = RX12 ∧ yX12_sways.cls ≠ "java/lang/invoke/MethodHandle" ∧ yX12_sways.cls ≠ "java/lang/invoke/VarHandle" ∧ (parseMethodDescriptor yX12_sways.desc).map (fun d => d.parameters.length) = some 1 := by decide +kernel
theorem kV_X12_takes : yX12_takes.cls = RX12 ∧ yX12_takes.cls ≠ "java/lang/invoke/MethodHandle" ∧ yX12_takes.cls ≠ "java/lang/invoke/VarHandle" ∧ (parseMethodDescriptor yX12_takes.desc).map (fun d => d.parameters.length) = some 1 := by decide +kernel
theorem kV_X12_tells : yX12_tells.cls = RX12 ∧ yX12_tells.cls ≠ "java/lang/invoke/MethodHandle" ∧ yX12_tells.cls ≠ "java/lang/invoke/VarHandle" ∧ (parseMethodDescriptor yX12_tells.desc).map (fun d => d.parameters.length) = some 1 := by decide +kernel
theorem kV_X12_test : yX12_test.cls = RX12 ∧ yX12_test.cls ≠ "java/lang/invoke/MethodHandle" ∧ yX12_test.cls ≠ "java/lang/invoke/VarHandle" ∧ (parseMethodDescriptor yX12_test.desc).map (fun d => d.parameters.length) = some 0 := by decide +kernel
theorem kV_X12_thinks : yX12_thinks.cls = RX12 ∧ yX12_thinks.cls ≠ "java/lang/invoke/MethodHandle" ∧ yX12_thinks.cls ≠ "java/lang/invoke/VarHandle" ∧ (parseMethodDescriptor yX12_thinks.desc).map (fun d => d.parameters.length) = some 0 := by decide +kernel
theorem kV_X12_thinksAll : yX12_thinksAll.cls = RX12 ∧ yX12_thinksAll.cls ≠ "java/lang/invoke/MethodHandle" ∧ yX12_thinksAll.cls ≠ "java/lang/invoke/VarHandle" ∧ (parseMethodDescriptor yX12_thinksAll.desc).map (fun d => d.parameters.length) = some 0 := by decide +kernel
theorem kV_X12_turns : yX12_turns.cls = RX12 ∧ yX12_turns.cls ≠ "java/lang/invoke/MethodHandle" ∧ yX12_turns.cls ≠ "java/lang/invoke/VarHandle" ∧ (parseMethodDescriptor yX12_turns.desc).map (fun d => d.parameters.length) = some 1 := by decide +kernel
theorem kV_X12_value : yX12_value.cls = RX12 ∧ yX12_value.cls ≠ "java/lang/invoke/MethodHandle" ∧ yX12_value.cls ≠ "java/lang/invoke/VarHandle" ∧ (parseMethodDescriptor yX12_value.desc).map (fun d => d.parameters.length) = some 0 := by decide +kernel
theorem kV_X12_voteOf : yX12_voteOf.cls = RX12 ∧ yX12_voteOf.cls ≠ "java/lang/invoke/MethodHandle" ∧ yX12_voteOf.cls ≠ "java/lang/invoke/VarHandle" ∧ (parseMethodDescriptor yX12_voteOf.desc).map (fun d => d.parameters.length) = some 1 := by decide +kernel
theorem kV_X12_wants : yX12_wants.cls = RX12 ∧ yX12_wants.cls ≠ "java/lang/invoke/MethodHandle" ∧ yX12_wants.cls ≠ "java/lang/invoke/VarHandle" ∧ (parseMethodDescriptor yX12_wants.desc).map (fun d => d.parameters.length) = some 1 := by decide +kernel
theorem kV_X12_weighs : yX12_weighs.cls = RX12 ∧ yX12_weighs.cls ≠ "java/lang/invoke/MethodHandle" ∧ yX12_weighs.cls ≠ "java/lang/invoke/VarHandle" ∧ (parseMethodDescriptor yX12_weighs.desc).map (fun d => d.parameters.length) = some 1 := by decide +kernel
theorem kV_X12_wishes : yX12_wishes.cls = RX12 ∧ yX12_wishes.cls ≠ "java/lang/invoke/MethodHandle" ∧ yX12_wishes.cls ≠ "java/lang/invoke/VarHandle" ∧ (parseMethodDescriptor yX12_wishes.desc).map (fun d => d.parameters.length) = some 1 := by decide +kernel
theorem kV_X12_within : yX12_within.cls = RX12 ∧ yX12_within.cls ≠ "java/lang/invoke/MethodHandle" ∧ yX12_within.cls ≠ "java/lang/invoke/VarHandle" ∧ (parseMethodDescriptor yX12_within.desc).map (fun d => d.parameters.length) = some 0 := by decide +kernel
theorem kV_X12_worth : yX12_worth.cls = RX12 ∧ yX12_worth.cls ≠ "java/lang/invoke/MethodHandle" ∧ yX12_worth.cls ≠ "java/lang/invoke/VarHandle" ∧ (parseMethodDescriptor yX12_worth.desc).map (fun d => d.parameters.length) = some 2 := by decide +kernel
theorem kV_X2_get : yX2_get.cls = RX2 ∧ yX2_get.cls ≠ "java/lang/invoke/MethodHandle" ∧ yX2_get.cls ≠ "java/lang/invoke/VarHandle" ∧ (parseMethodDescriptor yX2_get.desc).map (fun d => d.parameters.length) = some 2 := by decide +kernel
theorem kV_X2_hasItem : yX2_hasItem.cls = RX2 ∧ yX2_hasItem.cls ≠ "java/lang/invoke/MethodHandle" ∧ yX2_hasItem.cls ≠ "java/lang/invoke/VarHandle" ∧ (parseMethodDescriptor yX2_hasItem.desc).map (fun d => d.parameters.length) = some 2 := by decide +kernel
theorem kV_X2_holdNothing : yX2_holdNothing.cls = RX2 ∧ yX2_holdNothing.cls ≠ "java/lang/invoke/MethodHandle" ∧ yX2_holdNothing.cls ≠ "java/lang/invoke/VarHandle" ∧ (parseMethodDescriptor yX2_holdNothing.desc).map (fun d => d.parameters.length) = some 1 := by decide +kernel
theorem kV_X2_holdRow : yX2_holdRow.cls = RX2 ∧ yX2_holdRow.cls ≠ "java/lang/invoke/MethodHandle" ∧ yX2_holdRow.cls ≠ "java/lang/invoke/VarHandle" ∧ (parseMethodDescriptor yX2_holdRow.desc).map (fun d => d.parameters.length) = some 2 := by decide +kernel
theorem kV_X2_holdVoter : yX2_holdVoter.cls = RX2 ∧ yX2_holdVoter.cls ≠ "java/lang/invoke/MethodHandle" ∧ yX2_holdVoter.cls ≠ "java/lang/invoke/VarHandle" ∧ (parseMethodDescriptor yX2_holdVoter.desc).map (fun d => d.parameters.length) = some 2 := by decide +kernel
theorem kV_X2_lay : yX2_lay.cls = RX2 ∧ yX2_lay.cls ≠ "java/lang/invoke/MethodHandle" ∧ yX2_lay.cls ≠ "java/lang/invoke/VarHandle" ∧ (parseMethodDescriptor yX2_lay.desc).map (fun d => d.parameters.length) = some 3 := by decide +kernel
theorem kV_X2_refusalAs : yX2_refusalAs.cls = RX2 ∧ yX2_refusalAs.cls ≠ "java/lang/invoke/MethodHandle" ∧ yX2_refusalAs.cls ≠ "java/lang/invoke/VarHandle" ∧ (parseMethodDescriptor yX2_refusalAs.desc).map (fun d => d.parameters.length) = some 2 := by decide +kernel
theorem kV_X2_set : yX2_set.cls = RX2 ∧ yX2_set.cls ≠ "java/lang/invoke/MethodHandle" ∧ yX2_set.cls ≠ "java/lang/invoke/VarHandle" ∧ (parseMethodDescriptor yX2_set.desc).map (fun d => d.parameters.length) = some 3 := by decide +kernel
theorem kV_X4_copyFrom : yX4_copyFrom.cls = RX4 ∧ yX4_copyFrom.cls ≠ "java/lang/invoke/MethodHandle" ∧ yX4_copyFrom.cls ≠ "java/lang/invoke/VarHandle" ∧ (parseMethodDescriptor yX4_copyFrom.desc).map (fun d => d.parameters.length) = some 1 := by decide +kernel
theorem kV_X4_draws : yX4_draws.cls = RX4 ∧ yX4_draws.cls ≠ "java/lang/invoke/MethodHandle" ∧ yX4_draws.cls ≠ "java/lang/invoke/VarHandle" ∧ (parseMethodDescriptor yX4_draws.desc).map (fun d => d.parameters.length) = some 0 := by decide +kernel
theorem kV_X4_goOn : yX4_goOn.cls = RX4 ∧ yX4_goOn.cls ≠ "java/lang/invoke/MethodHandle" ∧ yX4_goOn.cls ≠ "java/lang/invoke/VarHandle" ∧ (parseMethodDescriptor yX4_goOn.desc).map (fun d => d.parameters.length) = some 1 := by decide +kernel
theorem kV_X5_addNumber : yX5_addNumber.cls = RX5 ∧ yX5_addNumber.cls ≠ "java/lang/invoke/MethodHandle" ∧ yX5_addNumber.cls ≠ "java/lang/invoke/VarHandle" ∧ (parseMethodDescriptor yX5_addNumber.desc).map (fun d => d.parameters.length) = some 2 := by decide +kernel
theorem kV_X5_addWord : yX5_addWord.cls = RX5 ∧ yX5_addWord.cls ≠ "java/lang/invoke/MethodHandle" ∧ yX5_addWord.cls ≠ "java/lang/invoke/VarHandle" ∧ (parseMethodDescriptor yX5_addWord.desc).map (fun d => d.parameters.length) = some 3 := by decide +kernel
theorem kV_X5_cutWords : yX5_cutWords.cls = RX5 ∧ yX5_cutWords.cls ≠ "java/lang/invoke/MethodHandle" ∧ yX5_cutWords.cls ≠ "java/lang/invoke/VarHandle" ∧ (parseMethodDescriptor yX5_cutWords.desc).map (fun d => d.parameters.length) = some 0 := by decide +kernel
theorem kV_X5_goPast : yX5_goPast.cls = RX5 ∧ yX5_goPast.cls ≠ "java/lang/invoke/MethodHandle" ∧ yX5_goPast.cls ≠ "java/lang/invoke/VarHandle" ∧ (parseMethodDescriptor yX5_goPast.desc).map (fun d => d.parameters.length) = some 1 := by decide +kernel
theorem kV_X5_nameAt : yX5_nameAt.cls = RX5 ∧ yX5_nameAt.cls ≠ "java/lang/invoke/MethodHandle" ∧ yX5_nameAt.cls ≠ "java/lang/invoke/VarHandle" ∧ (parseMethodDescriptor yX5_nameAt.desc).map (fun d => d.parameters.length) = some 2 := by decide +kernel
theorem kV_X5_read : yX5_read.cls = RX5 ∧ yX5_read.cls ≠ "java/lang/invoke/MethodHandle" ∧ yX5_read.cls ≠ "java/lang/invoke/VarHandle" ∧ (parseMethodDescriptor yX5_read.desc).map (fun d => d.parameters.length) = some 0 := by decide +kernel
theorem kV_X5_readAll : yX5_readAll.cls = RX5 ∧ yX5_readAll.cls ≠ "java/lang/invoke/MethodHandle" ∧ yX5_readAll.cls ≠ "java/lang/invoke/VarHandle" ∧ (parseMethodDescriptor yX5_readAll.desc).map (fun d => d.parameters.length) = some 1 := by decide +kernel
theorem kV_X5_readComparison : yX5_readComparison.cls = RX5 ∧ yX5_readComparison.cls ≠ "java/lang/invoke/MethodHandle" ∧ yX5_readComparison.cls ≠ "java/lang/invoke/VarHandle" ∧ (parseMethodDescriptor yX5_readComparison.desc).map (fun d => d.parameters.length) = some 0 := by decide +kernel
theorem kV_X5_readCond : yX5_readCond.cls = RX5 ∧ yX5_readCond.cls ≠ "java/lang/invoke/MethodHandle" ∧ yX5_readCond.cls ≠ "java/lang/invoke/VarHandle" ∧ (parseMethodDescriptor yX5_readCond.desc).map (fun d => d.parameters.length) = some 1 := by decide +kernel
theorem kV_X5_readOne : yX5_readOne.cls = RX5 ∧ yX5_readOne.cls ≠ "java/lang/invoke/MethodHandle" ∧ yX5_readOne.cls ≠ "java/lang/invoke/VarHandle" ∧ (parseMethodDescriptor yX5_readOne.desc).map (fun d => d.parameters.length) = some 1 := by decide +kernel
theorem kV_X5_readRule : yX5_readRule.cls = RX5 ∧ yX5_readRule.cls ≠ "java/lang/invoke/MethodHandle" ∧ yX5_readRule.cls ≠ "java/lang/invoke/VarHandle" ∧ (parseMethodDescriptor yX5_readRule.desc).map (fun d => d.parameters.length) = some 0 := by decide +kernel
theorem kV_X5_spells : yX5_spells.cls = RX5 ∧ yX5_spells.cls ≠ "java/lang/invoke/MethodHandle" ∧ yX5_spells.cls ≠ "java/lang/invoke/VarHandle" ∧ (parseMethodDescriptor yX5_spells.desc).map (fun d => d.parameters.length) = some 3 := by decide +kernel
theorem kV_X5_take : yX5_take.cls = RX5 ∧ yX5_take.cls ≠ "java/lang/invoke/MethodHandle" ∧ yX5_take.cls ≠ "java/lang/invoke/VarHandle" ∧ (parseMethodDescriptor yX5_take.desc).map (fun d => d.parameters.length) = some 2 := by decide +kernel
theorem kV_X6_addRule : yX6_addRule.cls = RX6 ∧ yX6_addRule.cls ≠ "java/lang/invoke/MethodHandle" ∧ yX6_addRule.cls ≠ "java/lang/invoke/VarHandle" ∧ (parseMethodDescriptor yX6_addRule.desc).map (fun d => d.parameters.length) = some 3 := by decide +kernel
theorem kV_X6_addStep : yX6_addStep.cls = RX6 ∧ yX6_addStep.cls ≠ "java/lang/invoke/MethodHandle" ∧ yX6_addStep.cls ≠ "java/lang/invoke/VarHandle" ∧ (parseMethodDescriptor yX6_addStep.desc).map (fun d => d.parameters.length) = some 3 := by decide +kernel
theorem kV_X6_addValue : yX6_addValue.cls = RX6 ∧ yX6_addValue.cls ≠ "java/lang/invoke/MethodHandle" ∧ yX6_addValue.cls ≠ "java/lang/invoke/VarHandle" ∧ (parseMethodDescriptor yX6_addValue.desc).map (fun d => d.parameters.length) = some 1 := by decide +kernel
theorem kV_X6_clear : yX6_clear.cls = RX6 ∧ yX6_clear.cls ≠ "java/lang/invoke/MethodHandle" ∧ yX6_clear.cls ≠ "java/lang/invoke/VarHandle" ∧ (parseMethodDescriptor yX6_clear.desc).map (fun d => d.parameters.length) = some 0 := by decide +kernel
theorem kV_X6_copyFrom : yX6_copyFrom.cls = RX6 ∧ yX6_copyFrom.cls ≠ "java/lang/invoke/MethodHandle" ∧ yX6_copyFrom.cls ≠ "java/lang/invoke/VarHandle" ∧ (parseMethodDescriptor yX6_copyFrom.desc).map (fun d => d.parameters.length) = some 1 := by decide +kernel
theorem kV_X6_holds : yX6_holds.cls = RX6 ∧ yX6_holds.cls ≠ "java/lang/invoke/MethodHandle" ∧ yX6_holds.cls ≠ "java/lang/invoke/VarHandle" ∧ (parseMethodDescriptor yX6_holds.desc).map (fun d => d.parameters.length) = some 1 := by decide +kernel
theorem kV_X6_weigh : yX6_weigh.cls = RX6 ∧ yX6_weigh.cls ≠ "java/lang/invoke/MethodHandle" ∧ yX6_weigh.cls ≠ "java/lang/invoke/VarHandle" ∧ (parseMethodDescriptor yX6_weigh.desc).map (fun d => d.parameters.length) = some 2 := by decide +kernel
theorem kV_X9_powerOf : yX9_powerOf.cls = RX9 ∧ yX9_powerOf.cls ≠ "java/lang/invoke/MethodHandle" ∧ yX9_powerOf.cls ≠ "java/lang/invoke/VarHandle" ∧ (parseMethodDescriptor yX9_powerOf.desc).map (fun d => d.parameters.length) = some 2 := by decide +kernel
theorem kV_X9_shares : yX9_shares.cls = RX9 ∧ yX9_shares.cls ≠ "java/lang/invoke/MethodHandle" ∧ yX9_shares.cls ≠ "java/lang/invoke/VarHandle" ∧ (parseMethodDescriptor yX9_shares.desc).map (fun d => d.parameters.length) = some 1 := by decide +kernel
theorem kV_X9_sways : yX9_sways.cls = RX9 ∧ yX9_sways.cls ≠ "java/lang/invoke/MethodHandle" ∧ yX9_sways.cls ≠ "java/lang/invoke/VarHandle" ∧ (parseMethodDescriptor yX9_sways.desc).map (fun d => d.parameters.length) = some 1 := by decide +kernel
theorem kV_X9_tells : yX9_tells.cls = RX9 ∧ yX9_tells.cls ≠ "java/lang/invoke/MethodHandle" ∧ yX9_tells.cls ≠ "java/lang/invoke/VarHandle" ∧ (parseMethodDescriptor yX9_tells.desc).map (fun d => d.parameters.length) = some 1 := by decide +kernel
theorem kV_X9_wishes : yX9_wishes.cls = RX9 ∧ yX9_wishes.cls ≠ "java/lang/invoke/MethodHandle" ∧ yX9_wishes.cls ≠ "java/lang/invoke/VarHandle" ∧ (parseMethodDescriptor yX9_wishes.desc).map (fun d => d.parameters.length) = some 1 := by decide +kernel

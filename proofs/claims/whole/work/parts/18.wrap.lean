/-! ===== the law's own methods with handlers ===== -/
def zYw (y : MethodName) (bytes : ByteArray) (maxL : Nat) (ret : Option FieldType) (hh : List (Nat × Nat × Nat × Nat)) (nA : Nat) : Prop :=
  Cond.codeWith y bytes maxL ret hh ∈ zT ∧ Cond.static y ∈ zT ∧ Cond.initialized y.cls ∈ zT ∧ (y.cls ≠ "java/lang/invoke/MethodHandle" ∧ y.cls ≠ "java/lang/invoke/VarHandle" ∧ (parseMethodDescriptor y.desc).map (fun d => d.parameters.length) = some nA)
theorem z_lcmp (x y : Int64) : lg_cmp x y = 0 ↔ x = y := by
  unfold lg_cmp
  by_cases h : x > y
  · rw [if_pos h]
    constructor
    · intro q
      exact absurd q (by decide)
    · intro q
      subst q
      exact absurd (Int64.lt_iff_toInt_lt.mp h) (Int.lt_irrefl _)
  · rw [if_neg h]
    by_cases h2 : x = y
    · rw [if_pos h2]
      simp [h2]
    · rw [if_neg h2]
      constructor
      · intro q
        exact absurd q (by decide)
      · intro q
        exact absurd q h2
section ZWR
variable {Ω : zO} {Γ : zM} {R rm : Room} {nL k n maxL nA idx : Nat} {Q : State → Prop} {Ls : List zL} {ad : Nat → Nat} {σ : zS} {pc : Nat} {lv lv' : List (Nat × Value)} {st st0 As av : List Value} {cc bytes : ByteArray} {own : String} {o : Nat} {y : MethodName} {ret : Option FieldType} {X : String → zS → Prop} {a b : Int} {hh : List (Nat × Nat × Nat × Nat)}
theorem z_ofW {K : Int → zS → Prop} (hy : plainName y.cls = true) (hlv : lv_args 0 av = lv) (hav : (lg_sl av).length ≤ maxL) (body : ∀ (Γ : zM) (Q : State → Prop), zC Ω Γ cc maxL y.cls → zRt_i Ω Γ rm maxL Q Ls ad cc K → Γ.2.2.2.2.2.2.2.exceptionTable.toList = tableOf hh → zV Ω Γ rm maxL Q 0 0 Ls ad σ 0 lv []) : zXi Ω y (.codeWith y cc maxL (some .int) hh) rm Ls ad av σ K (fun _ _ => False) := by
  obtain ⟨l, D, dA, A, sx⟩ := Ω
  refine vx_ofWH (cc := cc) (maxL := maxL) (ret := (some .int)) (hh := hh) hy rfl ?_
  intro p e s m args below meth c s₁ B hml hv
  obtain ⟨rfl, hP, hK, hD, hr, hA, hst⟩ := hv
  have hts0 := atoms_spec (ws := .codeWith y cc maxL (some .int) hh :: zT) B.pre
  have hts : ∀ w ∈ zT, w.before av.toArray s = true := fun w hw => hts0 w (List.mem_cons_of_mem _ hw)
  have cx : zC (l, D, dA, A, sx) (p, e, s, m, av.toArray, below, meth, c) cc maxL y.cls := ⟨B.exec, B.bytes, hml, findClass_of_methodNamed B.named, hts, hK, hA, B.notSynchronized, hst⟩
  have hl := lv_entry av (n := maxL) hav
  rw [lg_entry_eq]
  refine body (p, e, s, m, av.toArray, below, meth, c) _ cx ?_ (vx_table (x := y) B (hts0 _ List.mem_cons_self)) s.heap [] _ (hlv ▸ hl) hP hD va_S.rf hr
  · intro k n σ1 pc lv x hk hn hd hx hKx H locs ls hl hP hD hS hr
    exact vx_ret (W.widen hk hn (W.iret B.exec B.bytes B.returns (fun t ht hW => ⟨⟨zI x, σ1, rfl, ⟨x, rfl, hx, hKx⟩, by rw [show zPo _ Ls ad σ1 t = (va_P D zCl (zw dA ad Ls σ1) t.heap ∧ zRG σ1) from rfl, ht]; exact ⟨hP, hr⟩⟩, hS.F ht⟩) hS.2.2 hd B.notSynchronized))
theorem v_catch (cx : zC Ω Γ cc nL own) {E : String} (pre : List ExceptionTableEntry) (x : ExceptionTableEntry) (suf : List ExceptionTableEntry) (htab : Γ.2.2.2.2.2.2.2.exceptionTable.toList = pre ++ x :: suf) (hpass : ∀ z ∈ pre, z.catchType ≠ 0 ∧ ∃ nm : String, Cond.classLink own z.catchType nm ∈ zT ∧ (E, nm) ∈ zNC) (hx : covers x pc = true) (h0 : x.catchType ≠ 0) (hlink : Cond.classLink own x.catchType E ∈ zT) (hcast : Cond.castable E E ∈ zNw) (h : ∀ q : Nat, zV Ω Γ R nL Q k n Ls ad σ x.handlerPc lv [.ref q]) : zVx Ω Γ R nL Q k n Ls ad σ pc lv E := by
  obtain ⟨l, D, dA, A, sx⟩ := Ω
  obtain ⟨p, e, s, m, args, below, meth, c⟩ := Γ
  obtain ⟨hx', hb, hml, hown, hts, hK, hA, hlk, hst⟩ := cx
  intro H locs ls st q ce hl hP hD hS hr hce hcv hcl
  obtain ⟨z1, z2, z3, z4, z5, z6, z7, z8, z9, z10⟩ := hst
  exact vx_catch hown pre x suf htab (fun z hz => Or.inr ⟨(hpass z hz).1, by obtain ⟨-, nm, h1, h2⟩ := hpass z hz; exact ⟨nm, hts _ h1, z9 _ h2⟩⟩) hx h0 (hts _ hlink) ((z2 _ hcast).use (zNw_k _ hcast).2) hce hcv hcl (h q H locs ls hl hP hD hS hr)
theorem v_wcall {K : Int → zS → Prop} (cx : zC Ω Γ cc nL own) (hM : zXi Ω y (.codeWith y bytes maxL ret hh) rm Ls ad As σ K (fun _ _ => False)) (hY : zYw y bytes maxL ret hh nA) (hln : Cond.methodLink own idx y ∈ zT) (hn : As.length = nA) (hs : st0 = As.reverse ++ st) (hw : (st.map fun v => v.category).sum ≤ 8) (hR : rm.frames + 1 ≤ R.frames ∧ 8 + (maxL + 11) + rm.locals ≤ R.locals) (hf : k + rm.cells ≤ R.cells ∧ n + rm.slots ≤ R.slots) (hd : decode cc pc = .ok (.invokestatic idx, 3)) (h : ∀ (x : Int) (σ1 : zS), zR x → K x σ1 → zV Ω Γ R nL Q (k + rm.cells) (n + rm.slots) Ls ad σ1 (pc + 3) lv (.int (zI x) :: st)) : zV Ω Γ R nL Q k n Ls ad σ pc lv st0 := by
  subst hs
  have hpre := fun {H : Heap} {locs : List Loc} (hP) (hD) (hS : va_S Ω.2.2.2.1 Γ.2.2.1.heap H locs) (hr) => zc_pre (As := As) (ad := ad) (Ls := Ls) (σ := σ) cx hP hD hS hr
  obtain ⟨l, D, dA, A, sx⟩ := Ω
  obtain ⟨p, e, s, m, args, below, meth, c⟩ := Γ
  obtain ⟨hx', hb, hml, hown, hts, hK, hA, hlk, hst⟩ := cx
  intro H locs ls hl hP hD hS hr
  have hp := hpre hP hD hS hr
  have cw := vx_cwSW (R := R) (own := own) (index := idx) (y := y) (bytes := bytes) (maxL := maxL) (ret := ret) (hh := hh) (ws := .codeWith y bytes maxL ret hh :: zT) (rm := rm) nA hts (zGoodL _ (fun w hw => by
    rcases List.mem_append.mp hw with q | q
    · simp only [List.mem_cons, List.not_mem_nil, or_false] at q
      rcases q with rfl | rfl | rfl
      · exact hln
      · exact hY.2.1
      · exact hY.2.2.1
    · rcases List.mem_cons.mp q with rfl | q
      · exact hY.1
      · exact q)) rfl rfl rfl hY.2.2.2 hR
  refine vx_calli (vx_runSX (As := As) (rest := st) ⟨hx', hb, hml, hown, hts⟩ hM cw hp rfl hn hl.1 rfl (lv_room hw) hd hf) hS (fun q _ h => h) (fun q h => h) (fun q _ h => h) (fun E ce q9 u t H1 locs1 ht hvm _ hB hz1 hk1 hS1 hce hcv hcl => hB.1.elim) (fun r u t H1 locs1 ht hvm hw hB hz1 hk1 hS1 => ?_)
  obtain ⟨x, rfl, hx, hKx⟩ := hw
  obtain ⟨hP1, hr1⟩ := hB
  rw [ht] at hP1
  exact h x u hx hKx H1 locs1 ls hl hP1 (zw_D hD) hS1 hr1
theorem v_i2l (cx : zC Ω Γ cc nL own) (ha : zR a) (hd : decode cc pc = .ok (.i2l, 1)) (h : zV Ω Γ R nL Q k n Ls ad σ (pc + 1) lv (.long (zJ a) :: st)) : zV Ω Γ R nL Q k n Ls ad σ pc lv (.int (zI a) :: st) := by
  obtain ⟨l, D, dA, A, sx⟩ := Ω
  obtain ⟨p, e, s, m, args, below, meth, c⟩ := Γ
  obtain ⟨hx', hb, hml, hown, hts, hK, hA, hlk, hst⟩ := cx
  intro H locs ls hl hP hD hS hr
  exact lv_i2l hx' hb hd (zJ_i2l ha) (h H locs ls hl hP hD hS hr)
theorem v_lconst (cx : zC Ω Γ cc nL own) {f : Fin 2} (x : Int) (hx : Int64.ofNat (f : Nat) = zJ x) (hd : decode cc pc = .ok (.lconst f, 1)) (h : zV Ω Γ R nL Q k n Ls ad σ (pc + 1) lv (.long (zJ x) :: st)) : zV Ω Γ R nL Q k n Ls ad σ pc lv st := by
  obtain ⟨l, D, dA, A, sx⟩ := Ω
  obtain ⟨p, e, s, m, args, below, meth, c⟩ := Γ
  obtain ⟨hx', hb, hml, hown, hts, hK, hA, hlk, hst⟩ := cx
  intro H locs ls hl hP hD hS hr
  exact lv_lconst hx' hb hd hx (h H locs ls hl hP hD hS hr)
/-- two longs are told apart, and the jump behind -/
theorem v_lcmp_eq (cx : zC Ω Γ cc nL own) {off : Int} (tgt : Nat) (ha : zR a) (hb0 : zR b) (hd : decode cc pc = .ok (.lcmp, 1)) (hd2 : decode cc (pc + 1) = .ok (.ifCond .eq off, 3)) (ht : ((pc + 1 : Nat) : Int) + off = (tgt : Int)) (kt : a = b → zV Ω Γ R nL Q k n Ls ad σ tgt lv st) (kf : a ≠ b → zV Ω Γ R nL Q k n Ls ad σ (pc + 4) lv st) : zV Ω Γ R nL Q k n Ls ad σ pc lv (.long (zJ b) :: .long (zJ a) :: st) := by
  obtain ⟨l, D, dA, A, sx⟩ := Ω
  obtain ⟨p, e, s, m, args, below, meth, c⟩ := Γ
  obtain ⟨hx', hb, hml, hown, hts, hK, hA, hlk, hst⟩ := cx
  intro H locs ls hl hP hD hS hr
  refine W.lcmp hx' hb hd ?_
  have e0 := z_lcmp (zJ a) (zJ b)
  exact lv_if_eq hx' hb hd2 ht (fun c0 => kt ((zJ_eq ha hb0).mp (e0.mp c0)) H locs ls hl hP hD hS hr) (fun c0 => kf (fun q => c0 (e0.mpr ((zJ_eq ha hb0).mpr q))) H locs ls hl hP hD hS hr)
end ZWR

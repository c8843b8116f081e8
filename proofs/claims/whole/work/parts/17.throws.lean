/-! ===== methods that may throw ===== -/
def zXX (Ω : zO) (Ls : List zL) (ad : Nat → Nat) (X : String → zS → Prop) : String → State → State → Prop := vx_X (fun _ : zS => True) (fun E u t => X E u ∧ zPo Ω Ls ad u t) Ω.2.2.2.1
def zVx (Ω : zO) (Γ : zM) (R : Room) (nL : Nat) (Q : State → Prop) (k n : Nat) (Ls : List zL) (ad : Nat → Nat) (σ : zS) (pc : Nat) (lv : List (Nat × Value)) (E : String) : Prop :=
  match Ω, Γ with
  | (l, D, dA, A, _), (p, e, s, m, args, below, meth, c) => ∀ (H : Heap) (locs : List Loc) (ls : Array Slot) (st : List Value) (q : Nat) (ce : Cell), lv_has ls nL lv → va_P D zCl (zw dA ad Ls σ) H → va_D A (zw dA ad Ls σ) → va_S A s.heap H locs → zRG σ → H[q]? = some ce → ce.vm = .none → s.vm.findClass E = some ce.cls → vx_W p l e R s m args below meth c H locs k n Q (F0 m pc ls st) q
def zXi (Ω : zO) (y : MethodName) (cw : Cond) (rm : Room) (Ls : List zL) (ad : Nat → Nat) (av : List Value) (σ : zS) (K : Int → zS → Prop) (X : String → zS → Prop) : Prop :=
  vx_Met Ω.1 y (cw :: zT) rm (va_Pc av (zWd Ω Ls ad σ)) (va_Qi (fun r u => ∃ x, r = zI x ∧ zR x ∧ K x u) (zPo Ω Ls ad) Ω.2.2.2.1) (zXX Ω Ls ad X) rm.cells rm.slots Ω.2.2.2.1
def zXz (Ω : zO) (y : MethodName) (cw : Cond) (rm : Room) (Ls : List zL) (ad : Nat → Nat) (av : List Value) (σ : zS) (K : Int → zS → Prop) (X : String → zS → Prop) : Prop :=
  vx_Met Ω.1 y (cw :: zT) rm (va_Pc av (zWd Ω Ls ad σ)) (va_Qi (fun r u => ∃ x, r = zI x ∧ (x = 0 ∨ x = 1) ∧ K x u) (zPo Ω Ls ad) Ω.2.2.2.1) (zXX Ω Ls ad X) rm.cells rm.slots Ω.2.2.2.1
def zXv (Ω : zO) (y : MethodName) (cw : Cond) (rm : Room) (Ls : List zL) (ad : Nat → Nat) (av : List Value) (σ : zS) (K : zS → Prop) (X : String → zS → Prop) : Prop :=
  vx_Met Ω.1 y (cw :: zT) rm (va_Pc av (zWd Ω Ls ad σ)) (va_Qv K (zPo Ω Ls ad) Ω.2.2.2.1) (zXX Ω Ls ad X) rm.cells rm.slots Ω.2.2.2.1
/-- it can throw out of the method -/
def zTh (Ω : zO) (Γ : zM) (rm : Room) (maxL : Nat) (Q : State → Prop) (Ls : List zL) (ad : Nat → Nat) (cc : ByteArray) (own : String) (X : String → zS → Prop) : Prop :=
  ∀ (k n : Nat) (σ1 : zS) (pc : Nat) (lv : List (Nat × Value)) (st : List Value) (ik is ic j : Nat) (E tx : String) (names : List String), (zTw own ik ic E names ∨ (zTn own ik ic E names ∧ decode cc (pc + 4) = .ok (.ldc_w is, 3) ∧ decode cc (pc + 7) = .ok (.invokespecial ic, 3) ∧ decode cc (pc + 10) = .ok (.athrow, 1))) → (own, is, tx, j) ∈ zSR → decode cc pc = .ok (.new ik, 3) → decode cc (pc + 3) = .ok (.dup, 1) →
    ((decode cc (pc + 4) = .ok (.ldc is, 2) ∧ decode cc (pc + 6) = .ok (.invokespecial ic, 3) ∧ decode cc (pc + 9) = .ok (.athrow, 1)) ∨ (decode cc (pc + 4) = .ok (.ldc_w is, 3) ∧ decode cc (pc + 7) = .ok (.invokespecial ic, 3) ∧ decode cc (pc + 10) = .ok (.athrow, 1))) →
    names.length + 3 < rm.frames → (st.map fun v => v.category).sum + (13 * (names.length + 1) + 43) ≤ rm.locals → k + 1 ≤ rm.cells → n + 6 ≤ rm.slots → X E σ1 → zV Ω Γ rm maxL Q k n Ls ad σ1 pc lv st
/-- what a callee has thrown goes on out of the method -/
def zOu (Ω : zO) (Γ : zM) (rm : Room) (maxL : Nat) (Q : State → Prop) (Ls : List zL) (ad : Nat → Nat) (X : String → zS → Prop) : Prop :=
  ∀ (k n : Nat) (σ1 : zS) (pc : Nat) (lv : List (Nat × Value)) (E : String), k ≤ rm.cells → n ≤ rm.slots → X E σ1 → zVx Ω Γ rm maxL Q k n Ls ad σ1 pc lv E
section ZXB
variable {Ω : zO} {Γ : zM} {R rm : Room} {nL k n maxL nA idx : Nat} {Q : State → Prop} {Ls : List zL} {ad : Nat → Nat} {σ : zS} {pc : Nat} {lv lv' : List (Nat × Value)} {st st0 As av : List Value} {cc bytes : ByteArray} {own : String} {o : Nat} {y : MethodName} {ret : Option FieldType} {X : String → zS → Prop}
theorem z_ofXi {K : Int → zS → Prop} (hy : plainName y.cls = true) (hlv : lv_args 0 av = lv) (hav : (lg_sl av).length ≤ maxL) (body : ∀ (Γ : zM) (Q : State → Prop), zC Ω Γ cc maxL y.cls → zRt_i Ω Γ rm maxL Q Ls ad cc K → zTh Ω Γ rm maxL Q Ls ad cc y.cls X → zOu Ω Γ rm maxL Q Ls ad X → zV Ω Γ rm maxL Q 0 0 Ls ad σ 0 lv []) : zXi Ω y (.code y cc maxL (some .int)) rm Ls ad av σ K X := by
  obtain ⟨l, D, dA, A, sx⟩ := Ω
  refine vx_ofW (cc := cc) (maxL := maxL) (ret := (some .int)) hy rfl ?_
  intro p e s m args below meth c s₁ B hml htab hv
  obtain ⟨rfl, hP, hK, hD, hr, hA, hst⟩ := hv
  have hts0 := atoms_spec (ws := .code y cc maxL (some .int) :: zT) B.pre
  have hts : ∀ w ∈ zT, w.before av.toArray s = true := fun w hw => hts0 w (List.mem_cons_of_mem _ hw)
  have hown := findClass_of_methodNamed B.named
  have cx : zC (l, D, dA, A, sx) (p, e, s, m, av.toArray, below, meth, c) cc maxL y.cls := ⟨B.exec, B.bytes, hml, hown, hts, hK, hA, B.notSynchronized, hst⟩
  have hl := lv_entry av (n := maxL) hav
  rw [lg_entry_eq]
  refine body (p, e, s, m, av.toArray, below, meth, c) _ cx ?_ ?_ ?_ s.heap [] _ (hlv ▸ hl) hP hD va_S.rf hr
  · intro k n σ1 pc lv x hk hn hd hx hKx H locs ls hl hP hD hS hr
    exact vx_ret (W.widen hk hn (W.iret B.exec B.bytes B.returns (fun t ht hW => ⟨⟨zI x, σ1, rfl, ⟨x, rfl, hx, hKx⟩, by rw [show zPo _ Ls ad σ1 t = (va_P D zCl (zw dA ad Ls σ1) t.heap ∧ zRG σ1) from rfl, ht]; exact ⟨hP, hr⟩⟩, hS.F ht⟩) hS.2.2 hd B.notSynchronized))
  · intro k n σ1 pc lv st ik is ic j E tx names hT hsr d0 d3 dd hf hlo hc hs hX H locs ls hl hP hD hS hr
    obtain ⟨z1, z2, z3, z4, z5, z6, z7, z8, z9, z10⟩ := id hst
    have zr : vk_R y.cls is tx (sx j) s := z4 (y.cls, is, tx, j) hsr
    clear z3 z4 z5 z6 z9 z10
    have hsz : ls.size = c.maxLocals := by rw [hl.1, hml]
    have hx : ∀ t : State, s.vm.Alike t.vm → H.size ≤ t.heap.size → (∀ q : Nat, q < H.size → t.heap[q]? = H[q]?) → zXX (l, D, dA, A, sx) Ls ad X E s t := fun t _ hz hk => ⟨σ1, trivial, ⟨hX, hP.kept (fun k q hq => hk _ (hP k q hq).lt), hr⟩, Nat.le_trans hS.1 hz, fun q h1 h2 => by rw [hk q (Nat.lt_of_lt_of_le h1 hS.1)]; exact hS.2.1 q h1 h2⟩
    rcases hT with hT | ⟨hT, w4, w7, w10⟩
    rotate_left
    · obtain ⟨Y0, r, ix, rx, rfl, t1, t2, t3, t4, t5, q0, q1, q2, q5, t6, t7⟩ := hT
      have hat : ∀ w ∈ (zn_at y.cls ic E Y0 r ix rx).filter vx_no, w.before av.toArray s = true := fun w hw => by
        rcases t6 w hw with q | q
        · exact hts w q
        · exact (z2 w q).use (zNw_k w q).2
      exact zn_throwW (XC := zXX (l, D, dA, A, sx) Ls ad X) B.exec B.bytes z1 hown t3 t4 t5 q0 q1 q2 q5 (hts _ t1) (hts _ t2) zr hat t7 z7 z8 hS hsz d0 d3 w4 w7 w10 (fun x hx => (htab x hx).elim) (by simpa using hf) (by simpa using hlo) hc hs B.notSynchronized hx hS.2.2 hc hs
    obtain ⟨t1, t2, t3, t4, t5, t6⟩ := hT
    have hat : ∀ w ∈ vx_atS y.cls ic E names, w.before av.toArray s = true := fun w hw => by
      rcases t5 w hw with q | q
      · exact hts w q
      · exact (z2 w q).use (zNw_k w q).2
    rcases dd with ⟨d4, d6, d9⟩ | ⟨d4, d6, d9⟩
    · exact vx_throwS (XC := zXX (l, D, dA, A, sx) Ls ad X) B.exec B.bytes z1 hown t3 t4 (hts _ t1) (hts _ t2) zr hat t6 z7 z8 hS hsz d0 d3 d4 d6 d9 (fun x hx => (htab x hx).elim) hf hlo hc hs B.notSynchronized hx hS.2.2 hc hs
    · exact vx_throwSW (XC := zXX (l, D, dA, A, sx) Ls ad X) B.exec B.bytes z1 hown t3 t4 (hts _ t1) (hts _ t2) zr hat t6 z7 z8 hS hsz d0 d3 d4 d6 d9 (fun x hx => (htab x hx).elim) hf hlo hc hs B.notSynchronized hx hS.2.2 hc hs
  · intro k n σ1 pc lv E hk hn hX H locs ls st q ce hl hP hD hS hr hce hcv hcl
    exact vx_out (fun x hx => (htab x hx).elim) B.notSynchronized hce hcv hcl (fun t ht _ => ⟨σ1, trivial, ⟨hX, by rw [show zPo _ Ls ad σ1 t = (va_P D zCl (zw dA ad Ls σ1) t.heap ∧ zRG σ1) from rfl, ht]; exact ⟨hP, hr⟩⟩, hS.F ht⟩) hS.2.2 hk hn
theorem v_xcalli {K : Int → zS → Prop} (cx : zC Ω Γ cc nL own) {ci : Nat} {fs : List (Option (Option Nat))} {T : u_T} {N : Nat} (hM : zXi Ω y (.code y bytes maxL ret) rm Ls ad (.ref (ad o) :: As) σ K X) (hY : zYv y bytes maxL ret nA) (hln : Cond.methodLink own idx y ∈ zT) (hy : Ls[o]? = some (zOb ci fs)) (hc : zCl[ci]? = some (y.cls, T, N)) (hn : As.length = nA) (hs : st0 = As.reverse ++ .ref (ad o) :: st) (hw : (st.map fun v => v.category).sum ≤ 8) (hR : rm.frames + 1 ≤ R.frames ∧ 8 + (maxL + 11) + rm.locals ≤ R.locals) (hf : k + rm.cells ≤ R.cells ∧ n + rm.slots ≤ R.slots) (hd : decode cc pc = .ok (.invokevirtual idx, 3)) (h : ∀ (x : Int) (σ1 : zS), zR x → K x σ1 → zV Ω Γ R nL Q (k + rm.cells) (n + rm.slots) Ls ad σ1 (pc + 3) lv (.int (zI x) :: st)) (hxx : ∀ (E : String) (σ1 : zS), X E σ1 → zVx Ω Γ R nL Q (k + rm.cells) (n + rm.slots) Ls ad σ1 pc lv E) : zV Ω Γ R nL Q k n Ls ad σ pc lv st0 := by
  subst hs
  have hpre := fun {H : Heap} {locs : List Loc} (hP) (hD) (hS : va_S Ω.2.2.2.1 Γ.2.2.1.heap H locs) (hr) => zc_pre (As := .ref (ad o) :: As) (ad := ad) (Ls := Ls) (σ := σ) cx hP hD hS hr
  obtain ⟨l, D, dA, A, sx⟩ := Ω
  obtain ⟨p, e, s, m, args, below, meth, c⟩ := Γ
  obtain ⟨hx', hb, hml, hown, hts, hK, hA, hlk, hst⟩ := cx
  intro H locs ls hl hP hD hS hr
  have hp := hpre hP hD hS hr
  have cw := cwV (R := R) (own := own) (index := idx) (C := y.cls) (y := y) (bytes := bytes) (maxL := maxL) (ret := ret) (ws := .code y bytes maxL ret :: zT) (rm := rm) nA hts (zGoodL _ (fun w hw => by
    rcases List.mem_append.mp hw with q | q
    · simp only [List.mem_cons, List.not_mem_nil, or_false] at q
      rcases q with rfl | rfl | rfl | rfl
      · exact hln
      · exact hY.2.1
      · exact hY.2.2.1
      · exact hY.2.2.2.1
    · rcases List.mem_cons.mp q with rfl | q
      · exact hY.1
      · exact q)) rfl rfl rfl hY.2.2.2.2 hR
  refine vx_calli (vx_runV (As := As) (rest := st) (b := ad o) ⟨hx', hb, hml, hown, hts⟩ hM cw ⟨hp.1, va_recv hK hP hc (zw_get hy), hp.2⟩ rfl hn hl.1 rfl (lv_room hw) hd hf) hS (fun q _ h => h) (fun q h => h) (fun q _ h => h) (fun E ce q9 u t H1 locs1 ht hvm _ hB hz1 hk1 hS1 hce hcv hcl => ?_) (fun r u t H1 locs1 ht hvm hw hB hz1 hk1 hS1 => ?_)
  · obtain ⟨hX, hP1, hr1⟩ := hB
    rw [ht] at hP1
    exact hxx E u hX H1 locs1 ls st q9 ce hl hP1 (zw_D hD) hS1 hr1 hce hcv hcl
  · obtain ⟨x, rfl, hx, hKx⟩ := hw
    obtain ⟨hP1, hr1⟩ := hB
    rw [ht] at hP1
    exact h x u hx hKx H1 locs1 ls hl hP1 (zw_D hD) hS1 hr1
theorem z_ofXz {K : Int → zS → Prop} (hy : plainName y.cls = true) (hlv : lv_args 0 av = lv) (hav : (lg_sl av).length ≤ maxL) (body : ∀ (Γ : zM) (Q : State → Prop), zC Ω Γ cc maxL y.cls → zRt_z Ω Γ rm maxL Q Ls ad cc K → zTh Ω Γ rm maxL Q Ls ad cc y.cls X → zOu Ω Γ rm maxL Q Ls ad X → zV Ω Γ rm maxL Q 0 0 Ls ad σ 0 lv []) : zXz Ω y (.code y cc maxL (some .boolean)) rm Ls ad av σ K X := by
  obtain ⟨l, D, dA, A, sx⟩ := Ω
  refine vx_ofW (cc := cc) (maxL := maxL) (ret := (some .boolean)) hy rfl ?_
  intro p e s m args below meth c s₁ B hml htab hv
  obtain ⟨rfl, hP, hK, hD, hr, hA, hst⟩ := hv
  have hts0 := atoms_spec (ws := .code y cc maxL (some .boolean) :: zT) B.pre
  have hts : ∀ w ∈ zT, w.before av.toArray s = true := fun w hw => hts0 w (List.mem_cons_of_mem _ hw)
  have hown := findClass_of_methodNamed B.named
  have cx : zC (l, D, dA, A, sx) (p, e, s, m, av.toArray, below, meth, c) cc maxL y.cls := ⟨B.exec, B.bytes, hml, hown, hts, hK, hA, B.notSynchronized, hst⟩
  have hl := lv_entry av (n := maxL) hav
  rw [lg_entry_eq]
  refine body (p, e, s, m, av.toArray, below, meth, c) _ cx ?_ ?_ ?_ s.heap [] _ (hlv ▸ hl) hP hD va_S.rf hr
  · intro k n σ1 pc lv x hk hn hd hx hKx H locs ls hl hP hD hS hr
    exact vx_ret (W.widen hk hn (W.zret (ty := .boolean) B.exec B.bytes B.returns (by rcases hx with rfl | rfl <;> rfl) (fun t ht hW => ⟨⟨zI x, σ1, rfl, ⟨x, rfl, hx, hKx⟩, by rw [show zPo _ Ls ad σ1 t = (va_P D zCl (zw dA ad Ls σ1) t.heap ∧ zRG σ1) from rfl, ht]; exact ⟨hP, hr⟩⟩, hS.F ht⟩) hS.2.2 hd B.notSynchronized))
  · intro k n σ1 pc lv st ik is ic j E tx names hT hsr d0 d3 dd hf hlo hc hs hX H locs ls hl hP hD hS hr
    obtain ⟨z1, z2, z3, z4, z5, z6, z7, z8, z9, z10⟩ := id hst
    have zr : vk_R y.cls is tx (sx j) s := z4 (y.cls, is, tx, j) hsr
    clear z3 z4 z5 z6 z9 z10
    have hsz : ls.size = c.maxLocals := by rw [hl.1, hml]
    have hx : ∀ t : State, s.vm.Alike t.vm → H.size ≤ t.heap.size → (∀ q : Nat, q < H.size → t.heap[q]? = H[q]?) → zXX (l, D, dA, A, sx) Ls ad X E s t := fun t _ hz hk => ⟨σ1, trivial, ⟨hX, hP.kept (fun k q hq => hk _ (hP k q hq).lt), hr⟩, Nat.le_trans hS.1 hz, fun q h1 h2 => by rw [hk q (Nat.lt_of_lt_of_le h1 hS.1)]; exact hS.2.1 q h1 h2⟩
    rcases hT with hT | ⟨hT, w4, w7, w10⟩
    rotate_left
    · obtain ⟨Y0, r, ix, rx, rfl, t1, t2, t3, t4, t5, q0, q1, q2, q5, t6, t7⟩ := hT
      have hat : ∀ w ∈ (zn_at y.cls ic E Y0 r ix rx).filter vx_no, w.before av.toArray s = true := fun w hw => by
        rcases t6 w hw with q | q
        · exact hts w q
        · exact (z2 w q).use (zNw_k w q).2
      exact zn_throwW (XC := zXX (l, D, dA, A, sx) Ls ad X) B.exec B.bytes z1 hown t3 t4 t5 q0 q1 q2 q5 (hts _ t1) (hts _ t2) zr hat t7 z7 z8 hS hsz d0 d3 w4 w7 w10 (fun x hx => (htab x hx).elim) (by simpa using hf) (by simpa using hlo) hc hs B.notSynchronized hx hS.2.2 hc hs
    obtain ⟨t1, t2, t3, t4, t5, t6⟩ := hT
    have hat : ∀ w ∈ vx_atS y.cls ic E names, w.before av.toArray s = true := fun w hw => by
      rcases t5 w hw with q | q
      · exact hts w q
      · exact (z2 w q).use (zNw_k w q).2
    rcases dd with ⟨d4, d6, d9⟩ | ⟨d4, d6, d9⟩
    · exact vx_throwS (XC := zXX (l, D, dA, A, sx) Ls ad X) B.exec B.bytes z1 hown t3 t4 (hts _ t1) (hts _ t2) zr hat t6 z7 z8 hS hsz d0 d3 d4 d6 d9 (fun x hx => (htab x hx).elim) hf hlo hc hs B.notSynchronized hx hS.2.2 hc hs
    · exact vx_throwSW (XC := zXX (l, D, dA, A, sx) Ls ad X) B.exec B.bytes z1 hown t3 t4 (hts _ t1) (hts _ t2) zr hat t6 z7 z8 hS hsz d0 d3 d4 d6 d9 (fun x hx => (htab x hx).elim) hf hlo hc hs B.notSynchronized hx hS.2.2 hc hs
  · intro k n σ1 pc lv E hk hn hX H locs ls st q ce hl hP hD hS hr hce hcv hcl
    exact vx_out (fun x hx => (htab x hx).elim) B.notSynchronized hce hcv hcl (fun t ht _ => ⟨σ1, trivial, ⟨hX, by rw [show zPo _ Ls ad σ1 t = (va_P D zCl (zw dA ad Ls σ1) t.heap ∧ zRG σ1) from rfl, ht]; exact ⟨hP, hr⟩⟩, hS.F ht⟩) hS.2.2 hk hn
theorem v_xcallz {K : Int → zS → Prop} (cx : zC Ω Γ cc nL own) {ci : Nat} {fs : List (Option (Option Nat))} {T : u_T} {N : Nat} (hM : zXz Ω y (.code y bytes maxL ret) rm Ls ad (.ref (ad o) :: As) σ K X) (hY : zYv y bytes maxL ret nA) (hln : Cond.methodLink own idx y ∈ zT) (hy : Ls[o]? = some (zOb ci fs)) (hc : zCl[ci]? = some (y.cls, T, N)) (hn : As.length = nA) (hs : st0 = As.reverse ++ .ref (ad o) :: st) (hw : (st.map fun v => v.category).sum ≤ 8) (hR : rm.frames + 1 ≤ R.frames ∧ 8 + (maxL + 11) + rm.locals ≤ R.locals) (hf : k + rm.cells ≤ R.cells ∧ n + rm.slots ≤ R.slots) (hd : decode cc pc = .ok (.invokevirtual idx, 3)) (h : ∀ (x : Int) (σ1 : zS), (x = 0 ∨ x = 1) → K x σ1 → zV Ω Γ R nL Q (k + rm.cells) (n + rm.slots) Ls ad σ1 (pc + 3) lv (.int (zI x) :: st)) (hxx : ∀ (E : String) (σ1 : zS), X E σ1 → zVx Ω Γ R nL Q (k + rm.cells) (n + rm.slots) Ls ad σ1 pc lv E) : zV Ω Γ R nL Q k n Ls ad σ pc lv st0 := by
  subst hs
  have hpre := fun {H : Heap} {locs : List Loc} (hP) (hD) (hS : va_S Ω.2.2.2.1 Γ.2.2.1.heap H locs) (hr) => zc_pre (As := .ref (ad o) :: As) (ad := ad) (Ls := Ls) (σ := σ) cx hP hD hS hr
  obtain ⟨l, D, dA, A, sx⟩ := Ω
  obtain ⟨p, e, s, m, args, below, meth, c⟩ := Γ
  obtain ⟨hx', hb, hml, hown, hts, hK, hA, hlk, hst⟩ := cx
  intro H locs ls hl hP hD hS hr
  have hp := hpre hP hD hS hr
  have cw := cwV (R := R) (own := own) (index := idx) (C := y.cls) (y := y) (bytes := bytes) (maxL := maxL) (ret := ret) (ws := .code y bytes maxL ret :: zT) (rm := rm) nA hts (zGoodL _ (fun w hw => by
    rcases List.mem_append.mp hw with q | q
    · simp only [List.mem_cons, List.not_mem_nil, or_false] at q
      rcases q with rfl | rfl | rfl | rfl
      · exact hln
      · exact hY.2.1
      · exact hY.2.2.1
      · exact hY.2.2.2.1
    · rcases List.mem_cons.mp q with rfl | q
      · exact hY.1
      · exact q)) rfl rfl rfl hY.2.2.2.2 hR
  refine vx_calli (vx_runV (As := As) (rest := st) (b := ad o) ⟨hx', hb, hml, hown, hts⟩ hM cw ⟨hp.1, va_recv hK hP hc (zw_get hy), hp.2⟩ rfl hn hl.1 rfl (lv_room hw) hd hf) hS (fun q _ h => h) (fun q h => h) (fun q _ h => h) (fun E ce q9 u t H1 locs1 ht hvm _ hB hz1 hk1 hS1 hce hcv hcl => ?_) (fun r u t H1 locs1 ht hvm hw hB hz1 hk1 hS1 => ?_)
  · obtain ⟨hX, hP1, hr1⟩ := hB
    rw [ht] at hP1
    exact hxx E u hX H1 locs1 ls st q9 ce hl hP1 (zw_D hD) hS1 hr1 hce hcv hcl
  · obtain ⟨x, rfl, hx, hKx⟩ := hw
    obtain ⟨hP1, hr1⟩ := hB
    rw [ht] at hP1
    exact h x u hx hKx H1 locs1 ls hl hP1 (zw_D hD) hS1 hr1
theorem z_ofXv {K : zS → Prop} (hy : plainName y.cls = true) (hlv : lv_args 0 av = lv) (hav : (lg_sl av).length ≤ maxL) (body : ∀ (Γ : zM) (Q : State → Prop), zC Ω Γ cc maxL y.cls → zRt_v Ω Γ rm maxL Q Ls ad cc K → zTh Ω Γ rm maxL Q Ls ad cc y.cls X → zOu Ω Γ rm maxL Q Ls ad X → zV Ω Γ rm maxL Q 0 0 Ls ad σ 0 lv []) : zXv Ω y (.code y cc maxL none) rm Ls ad av σ K X := by
  obtain ⟨l, D, dA, A, sx⟩ := Ω
  refine vx_ofW (cc := cc) (maxL := maxL) (ret := none) hy rfl ?_
  intro p e s m args below meth c s₁ B hml htab hv
  obtain ⟨rfl, hP, hK, hD, hr, hA, hst⟩ := hv
  have hts0 := atoms_spec (ws := .code y cc maxL none :: zT) B.pre
  have hts : ∀ w ∈ zT, w.before av.toArray s = true := fun w hw => hts0 w (List.mem_cons_of_mem _ hw)
  have hown := findClass_of_methodNamed B.named
  have cx : zC (l, D, dA, A, sx) (p, e, s, m, av.toArray, below, meth, c) cc maxL y.cls := ⟨B.exec, B.bytes, hml, hown, hts, hK, hA, B.notSynchronized, hst⟩
  have hl := lv_entry av (n := maxL) hav
  rw [lg_entry_eq]
  refine body (p, e, s, m, av.toArray, below, meth, c) _ cx ?_ ?_ ?_ s.heap [] _ (hlv ▸ hl) hP hD va_S.rf hr
  · intro k n σ1 pc lv hk hn hd hKx H locs ls hl hP hD hS hr
    exact vx_ret (W.widen hk hn (W.vret B.exec B.bytes B.returns (fun t ht hW => ⟨⟨σ1, rfl, hKx, by rw [show zPo _ Ls ad σ1 t = (va_P D zCl (zw dA ad Ls σ1) t.heap ∧ zRG σ1) from rfl, ht]; exact ⟨hP, hr⟩⟩, hS.F ht⟩) hS.2.2 hd B.notSynchronized))
  · intro k n σ1 pc lv st ik is ic j E tx names hT hsr d0 d3 dd hf hlo hc hs hX H locs ls hl hP hD hS hr
    obtain ⟨z1, z2, z3, z4, z5, z6, z7, z8, z9, z10⟩ := id hst
    have zr : vk_R y.cls is tx (sx j) s := z4 (y.cls, is, tx, j) hsr
    clear z3 z4 z5 z6 z9 z10
    have hsz : ls.size = c.maxLocals := by rw [hl.1, hml]
    have hx : ∀ t : State, s.vm.Alike t.vm → H.size ≤ t.heap.size → (∀ q : Nat, q < H.size → t.heap[q]? = H[q]?) → zXX (l, D, dA, A, sx) Ls ad X E s t := fun t _ hz hk => ⟨σ1, trivial, ⟨hX, hP.kept (fun k q hq => hk _ (hP k q hq).lt), hr⟩, Nat.le_trans hS.1 hz, fun q h1 h2 => by rw [hk q (Nat.lt_of_lt_of_le h1 hS.1)]; exact hS.2.1 q h1 h2⟩
    rcases hT with hT | ⟨hT, w4, w7, w10⟩
    rotate_left
    · obtain ⟨Y0, r, ix, rx, rfl, t1, t2, t3, t4, t5, q0, q1, q2, q5, t6, t7⟩ := hT
      have hat : ∀ w ∈ (zn_at y.cls ic E Y0 r ix rx).filter vx_no, w.before av.toArray s = true := fun w hw => by
        rcases t6 w hw with q | q
        · exact hts w q
        · exact (z2 w q).use (zNw_k w q).2
      exact zn_throwW (XC := zXX (l, D, dA, A, sx) Ls ad X) B.exec B.bytes z1 hown t3 t4 t5 q0 q1 q2 q5 (hts _ t1) (hts _ t2) zr hat t7 z7 z8 hS hsz d0 d3 w4 w7 w10 (fun x hx => (htab x hx).elim) (by simpa using hf) (by simpa using hlo) hc hs B.notSynchronized hx hS.2.2 hc hs
    obtain ⟨t1, t2, t3, t4, t5, t6⟩ := hT
    have hat : ∀ w ∈ vx_atS y.cls ic E names, w.before av.toArray s = true := fun w hw => by
      rcases t5 w hw with q | q
      · exact hts w q
      · exact (z2 w q).use (zNw_k w q).2
    rcases dd with ⟨d4, d6, d9⟩ | ⟨d4, d6, d9⟩
    · exact vx_throwS (XC := zXX (l, D, dA, A, sx) Ls ad X) B.exec B.bytes z1 hown t3 t4 (hts _ t1) (hts _ t2) zr hat t6 z7 z8 hS hsz d0 d3 d4 d6 d9 (fun x hx => (htab x hx).elim) hf hlo hc hs B.notSynchronized hx hS.2.2 hc hs
    · exact vx_throwSW (XC := zXX (l, D, dA, A, sx) Ls ad X) B.exec B.bytes z1 hown t3 t4 (hts _ t1) (hts _ t2) zr hat t6 z7 z8 hS hsz d0 d3 d4 d6 d9 (fun x hx => (htab x hx).elim) hf hlo hc hs B.notSynchronized hx hS.2.2 hc hs
  · intro k n σ1 pc lv E hk hn hX H locs ls st q ce hl hP hD hS hr hce hcv hcl
    exact vx_out (fun x hx => (htab x hx).elim) B.notSynchronized hce hcv hcl (fun t ht _ => ⟨σ1, trivial, ⟨hX, by rw [show zPo _ Ls ad σ1 t = (va_P D zCl (zw dA ad Ls σ1) t.heap ∧ zRG σ1) from rfl, ht]; exact ⟨hP, hr⟩⟩, hS.F ht⟩) hS.2.2 hk hn
theorem v_xcallv {K : zS → Prop} (cx : zC Ω Γ cc nL own) {ci : Nat} {fs : List (Option (Option Nat))} {T : u_T} {N : Nat} (hM : zXv Ω y (.code y bytes maxL ret) rm Ls ad (.ref (ad o) :: As) σ K X) (hY : zYv y bytes maxL ret nA) (hln : Cond.methodLink own idx y ∈ zT) (hy : Ls[o]? = some (zOb ci fs)) (hc : zCl[ci]? = some (y.cls, T, N)) (hn : As.length = nA) (hs : st0 = As.reverse ++ .ref (ad o) :: st) (hw : (st.map fun v => v.category).sum ≤ 8) (hR : rm.frames + 1 ≤ R.frames ∧ 8 + (maxL + 11) + rm.locals ≤ R.locals) (hf : k + rm.cells ≤ R.cells ∧ n + rm.slots ≤ R.slots) (hd : decode cc pc = .ok (.invokevirtual idx, 3)) (h : ∀ (σ1 : zS), K σ1 → zV Ω Γ R nL Q (k + rm.cells) (n + rm.slots) Ls ad σ1 (pc + 3) lv st) (hxx : ∀ (E : String) (σ1 : zS), X E σ1 → zVx Ω Γ R nL Q (k + rm.cells) (n + rm.slots) Ls ad σ1 pc lv E) : zV Ω Γ R nL Q k n Ls ad σ pc lv st0 := by
  subst hs
  have hpre := fun {H : Heap} {locs : List Loc} (hP) (hD) (hS : va_S Ω.2.2.2.1 Γ.2.2.1.heap H locs) (hr) => zc_pre (As := .ref (ad o) :: As) (ad := ad) (Ls := Ls) (σ := σ) cx hP hD hS hr
  obtain ⟨l, D, dA, A, sx⟩ := Ω
  obtain ⟨p, e, s, m, args, below, meth, c⟩ := Γ
  obtain ⟨hx', hb, hml, hown, hts, hK, hA, hlk, hst⟩ := cx
  intro H locs ls hl hP hD hS hr
  have hp := hpre hP hD hS hr
  have cw := cwV (R := R) (own := own) (index := idx) (C := y.cls) (y := y) (bytes := bytes) (maxL := maxL) (ret := ret) (ws := .code y bytes maxL ret :: zT) (rm := rm) nA hts (zGoodL _ (fun w hw => by
    rcases List.mem_append.mp hw with q | q
    · simp only [List.mem_cons, List.not_mem_nil, or_false] at q
      rcases q with rfl | rfl | rfl | rfl
      · exact hln
      · exact hY.2.1
      · exact hY.2.2.1
      · exact hY.2.2.2.1
    · rcases List.mem_cons.mp q with rfl | q
      · exact hY.1
      · exact q)) rfl rfl rfl hY.2.2.2.2 hR
  refine vx_callv (vx_runV (As := As) (rest := st) (b := ad o) ⟨hx', hb, hml, hown, hts⟩ hM cw ⟨hp.1, va_recv hK hP hc (zw_get hy), hp.2⟩ rfl hn hl.1 rfl (lv_room hw) hd hf) hS (fun q _ h => h) (fun q h => h) (fun q _ h => h) (fun E ce q9 u t H1 locs1 ht hvm _ hB hz1 hk1 hS1 hce hcv hcl => ?_) (fun u t H1 locs1 ht hvm hw hB hz1 hk1 hS1 => ?_)
  · obtain ⟨hX, hP1, hr1⟩ := hB
    rw [ht] at hP1
    exact hxx E u hX H1 locs1 ls st q9 ce hl hP1 (zw_D hD) hS1 hr1 hce hcv hcl
  · obtain ⟨hP1, hr1⟩ := hB
    rw [ht] at hP1
    exact h u hw H1 locs1 ls hl hP1 (zw_D hD) hS1 hr1
theorem v_xwiden {k' n' : Nat} {E : String} (h1 : k ≤ k') (h2 : n ≤ n') (h : zVx Ω Γ R nL Q k' n' Ls ad σ pc lv E) : zVx Ω Γ R nL Q k n Ls ad σ pc lv E := by
  obtain ⟨l, D, dA, A, sx⟩ := Ω
  obtain ⟨p, e, s, m, args, below, meth, c⟩ := Γ
  intro H locs ls st q ce hl hP hD hS hr hce hcv hcl
  exact vx_widen h1 h2 (h H locs ls st q ce hl hP hD hS hr hce hcv hcl)
end ZXB


/-! ===== contracts over the world: a method goes from one state of it to another ===== -/
def zWd (Ω : zO) (Ls : List zL) (ad : Nat → Nat) (σ : zS) (U : State) : Prop := match Ω with
  | (l, D, dA, A, sx) => va_P D zCl (zw dA ad Ls σ) U.heap ∧ va_K D zCl (zTy dA) U ∧ va_D A (zw dA ad Ls σ) ∧ zRG σ ∧ (∀ q, U.heap.size ≤ q → A q) ∧ zSt l sx A U U.heap
def zPo (Ω : zO) (Ls : List zL) (ad : Nat → Nat) (u : zS) (t : State) : Prop := match Ω with
  | (_, D, dA, _, _) => va_P D zCl (zw dA ad Ls u) t.heap ∧ zRG u
def zMi (Ω : zO) (y : MethodName) (cw : Cond) (rm : Room) (Ls : List zL) (ad : Nat → Nat) (av : List Value) (σ : zS) (K : Int → zS → Prop) : Prop :=
  Met Ω.1 y (cw :: zT) rm (va_Pc av (zWd Ω Ls ad σ)) (va_Qi (fun r u => ∃ x, r = zI x ∧ zR x ∧ K x u) (zPo Ω Ls ad) Ω.2.2.2.1) rm.cells rm.slots Ω.2.2.2.1
def zMz (Ω : zO) (y : MethodName) (cw : Cond) (rm : Room) (Ls : List zL) (ad : Nat → Nat) (av : List Value) (σ : zS) (K : Int → zS → Prop) : Prop :=
  Met Ω.1 y (cw :: zT) rm (va_Pc av (zWd Ω Ls ad σ)) (va_Qi (fun r u => ∃ x, r = zI x ∧ (x = 0 ∨ x = 1) ∧ K x u) (zPo Ω Ls ad) Ω.2.2.2.1) rm.cells rm.slots Ω.2.2.2.1
def zMv (Ω : zO) (y : MethodName) (cw : Cond) (rm : Room) (Ls : List zL) (ad : Nat → Nat) (av : List Value) (σ : zS) (K : zS → Prop) : Prop :=
  Met Ω.1 y (cw :: zT) rm (va_Pc av (zWd Ω Ls ad σ)) (va_Qv K (zPo Ω Ls ad) Ω.2.2.2.1) rm.cells rm.slots Ω.2.2.2.1
def zMr (Ω : zO) (y : MethodName) (cw : Cond) (rm : Room) (Ls : List zL) (ad : Nat → Nat) (av : List Value) (σ : zS) (K : Nat → zS → Prop) : Prop :=
  Met Ω.1 y (cw :: zT) rm (va_Pc av (zWd Ω Ls ad σ)) (va_Qr (fun _ : zS => True) (fun u a t => K a u ∧ zPo Ω Ls ad u t) Ω.2.2.2.1) rm.cells rm.slots Ω.2.2.2.1
theorem zWd_blind (Ω : zO) (Ls : List zL) (ad : Nat → Nat) (av : List Value) (σ : zS) : FrameBlind (va_Pc av (zWd Ω Ls ad σ)) := by
  intro a U g mk h
  obtain ⟨l, D, dA, A, sx⟩ := Ω
  obtain ⟨e, h1, h2, h3, h4, h5, h6⟩ := h
  exact ⟨e, h1, va_K.moved (u := U) (U := U.calling g mk a) (Vm.Alike.refl U.vm) h2, h3, h4, h5, zSt_same (u := U) (U := U.calling g mk a) rfl h6⟩
theorem zGood (x c : Cond) (hc : c ∈ zT) : GoodIn (x :: zT) (c :: zT) := fun w h => by
  rcases List.mem_cons.mp h with e | e
  · rw [e]; exact ⟨List.mem_cons_of_mem _ hc, zT_good _ hc⟩
  · exact ⟨List.mem_cons_of_mem _ e, zT_good _ e⟩
theorem zGood' (c : Cond) (hc : c ∈ zT) : GoodIn zT (c :: zT) := fun w h => by
  rcases List.mem_cons.mp h with e | e
  · rw [e]; exact ⟨hc, zT_good _ hc⟩
  · exact ⟨e, zT_good _ e⟩
theorem zGoodL (ws : List Cond) (h : ∀ w ∈ ws, w ∈ zT) : GoodIn zT ws := fun w hw => ⟨h w hw, zT_good _ (h w hw)⟩
/-- what the tables say of a method that is called on an object -/
def zYv (y : MethodName) (bytes : ByteArray) (maxL : Nat) (ret : Option FieldType) (nA : Nat) : Prop :=
  Cond.code y bytes maxL ret ∈ zT ∧ Cond.instanceMethod y ∈ zT ∧ Cond.selects y.cls y y ∈ zT ∧ Cond.initialized y.cls ∈ zT ∧ (y.cls = y.cls ∧ y.cls ≠ "java/lang/invoke/MethodHandle" ∧ y.cls ≠ "java/lang/invoke/VarHandle" ∧ (parseMethodDescriptor y.desc).map (fun d => d.parameters.length) = some nA)
/-- .. of a static one -/
def zYs (y : MethodName) (bytes : ByteArray) (maxL : Nat) (ret : Option FieldType) (nA : Nat) : Prop :=
  Cond.code y bytes maxL ret ∈ zT ∧ Cond.static y ∈ zT ∧ Cond.initialized y.cls ∈ zT ∧ (y.cls ≠ "java/lang/invoke/MethodHandle" ∧ y.cls ≠ "java/lang/invoke/VarHandle" ∧ (parseMethodDescriptor y.desc).map (fun d => d.parameters.length) = some nA)
section ZB
variable {Ω : zO} {Γ : zM} {R rm : Room} {nL k n maxL nA idx : Nat} {Q : State → Prop} {Ls : List zL} {ad : Nat → Nat} {σ : zS} {pc : Nat} {lv lv' : List (Nat × Value)} {st st0 As av : List Value} {cc bytes : ByteArray} {own : String} {o : Nat} {y : MethodName} {ret : Option FieldType}
theorem zc_pre (cx : zC Ω Γ cc nL own) {H : Heap} {locs : List Loc} (hP : va_P Ω.2.1 zCl (zw Ω.2.2.1 ad Ls σ) H) (hD : va_D Ω.2.2.2.1 (zw Ω.2.2.1 ad Ls σ)) (hS : va_S Ω.2.2.2.1 Γ.2.2.1.heap H locs) (hr : zRG σ) : PreS Γ.2.2.1 H (va_Pc As (zWd Ω Ls ad σ)) As := by
  obtain ⟨l, D, dA, A, sx⟩ := Ω
  obtain ⟨p, e, s, m, args, below, meth, c⟩ := Γ
  obtain ⟨hx', hb, hml, hown, hts, hK, hA, hln, hst⟩ := cx
  refine ⟨zWd_blind _ Ls ad As σ, fun U hU hW => ⟨rfl, by rw [hU]; exact hP, va_K.moved hW.alike hK, hD, hr, fun q hq => hA q (Nat.le_trans hS.1 (by rw [← hU]; exact hq)), ?_⟩⟩
  rw [hU]
  exact zSt_warm hW hS.1 hS.2.1 hst

def zRt_i (Ω : zO) (Γ : zM) (rm : Room) (maxL : Nat) (Q : State → Prop) (Ls : List zL) (ad : Nat → Nat) (cc : ByteArray) (K : Int → zS → Prop) : Prop := ∀ (k n : Nat) (σ1 : zS) (pc : Nat) (lv : List (Nat × Value)) (x : Int), k ≤ rm.cells → n ≤ rm.slots → decode cc pc = .ok (.ireturn, 1) → zR x → K x σ1 → zV Ω Γ rm maxL Q k n Ls ad σ1 pc lv [.int (zI x)]
theorem z_ofi {K : Int → zS → Prop} (hy : plainName y.cls = true) (hlv : lv_args 0 av = lv) (hav : (lg_sl av).length ≤ maxL) (body : ∀ (Γ : zM) (Q : State → Prop), zC Ω Γ cc maxL y.cls → zRt_i Ω Γ rm maxL Q Ls ad cc K → zV Ω Γ rm maxL Q 0 0 Ls ad σ 0 lv []) : zMi Ω y (.code y cc maxL (some .int)) rm Ls ad av σ K := by
  obtain ⟨l, D, dA, A, sx⟩ := Ω
  refine Met.ofW (cc := cc) (maxL := maxL) (ret := (some .int)) hy rfl ?_
  intro p e s m args below meth c s₁ B hml hv
  obtain ⟨rfl, hP, hK, hD, hr, hA, hst⟩ := hv
  have hts0 := atoms_spec (ws := .code y cc maxL (some .int) :: zT) B.pre
  have cx : zC (l, D, dA, A, sx) (p, e, s, m, av.toArray, below, meth, c) cc maxL y.cls := ⟨B.exec, B.bytes, hml, findClass_of_methodNamed B.named, fun w hw => hts0 w (List.mem_cons_of_mem _ hw), hK, hA, B.notSynchronized, hst⟩
  have hl := lv_entry av (n := maxL) hav
  rw [lg_entry_eq]
  refine body (p, e, s, m, av.toArray, below, meth, c) _ cx ?_ s.heap [] _ (hlv ▸ hl) hP hD va_S.rf hr
  · intro k n σ1 pc lv x hk hn hd hx hKx H locs ls hl hP hD hS hr
    refine W.widen hk hn (W.iret B.exec B.bytes B.returns (fun t ht hW => ⟨⟨zI x, σ1, rfl, ⟨x, rfl, hx, hKx⟩, by rw [show zPo _ Ls ad σ1 t = (va_P D zCl (zw dA ad Ls σ1) t.heap ∧ zRG σ1) from rfl, ht]; exact ⟨hP, hr⟩⟩, hS.F ht⟩) hS.2.2 hd B.notSynchronized)
theorem v_callVi {K : Int → zS → Prop} (cx : zC Ω Γ cc nL own) {ci : Nat} {fs : List (Option (Option Nat))} {T : u_T} {N : Nat} (hM : zMi Ω y (.code y bytes maxL ret) rm Ls ad (.ref (ad o) :: As) σ K) (hY : zYv y bytes maxL ret nA) (hln : Cond.methodLink own idx y ∈ zT) (hy : Ls[o]? = some (zOb ci fs)) (hc : zCl[ci]? = some (y.cls, T, N)) (hn : As.length = nA) (hs : st0 = As.reverse ++ .ref (ad o) :: st) (hw : (st.map fun v => v.category).sum ≤ 8) (hR : rm.frames + 1 ≤ R.frames ∧ 8 + (maxL + 11) + rm.locals ≤ R.locals) (hf : k + rm.cells ≤ R.cells ∧ n + rm.slots ≤ R.slots) (hd : decode cc pc = .ok (.invokevirtual idx, 3)) (h : ∀ (x : Int) (σ1 : zS), zR x → K x σ1 → zV Ω Γ R nL Q (k + rm.cells) (n + rm.slots) Ls ad σ1 (pc + 3) lv (.int (zI x) :: st)) : zV Ω Γ R nL Q k n Ls ad σ pc lv st0 := by
  subst hs
  have hpre := fun {H : Heap} {locs : List Loc} (hP) (hD) (hS : va_S Ω.2.2.2.1 Γ.2.2.1.heap H locs) (hr) => zc_pre (As := .ref (ad o) :: As) (ad := ad) (Ls := Ls) (σ := σ) cx hP hD hS hr
  obtain ⟨l, D, dA, A, sx⟩ := Ω
  obtain ⟨p, e, s, m, args, below, meth, c⟩ := Γ
  obtain ⟨hx', hb, hml, hown, hts, hK, hA, hlk, hst⟩ := cx
  intro H locs ls hl hP hD hS hr
  have hp := hpre hP hD hS hr
  have cw := cwV (R := R) (own := own) (index := idx) (C := y.cls) (y := y) (bytes := bytes) (maxL := maxL) (ret := ret) (ws := .code y bytes maxL ret :: zT) (rm := rm) nA hts (zGoodL _ (fun w hw => by
    rcases List.mem_append.mp hw with q | q
    · simp only [List.mem_cons, List.not_mem_nil, or_false] at q
      rcases q with rfl | rfl | rfl | rfl
      · exact hln
      · exact hY.2.1
      · exact hY.2.2.1
      · exact hY.2.2.2.1
    · rcases List.mem_cons.mp q with rfl | q
      · exact hY.1
      · exact q)) rfl rfl rfl hY.2.2.2.2 hR
  refine va_calli (va_runV (As := As) (rest := st) (b := ad o) ⟨hx', hb, hml, hown, hts⟩ hM cw ⟨hp.1, va_recv hK hP hc (zw_get hy), hp.2⟩ rfl hn hl.1 rfl (lv_room hw) hd hf) hS (fun q _ h => h) (fun q h => h) (fun r u t H1 locs1 ht hvm hw hB hz1 hk1 hS1 => ?_)
  obtain ⟨x, rfl, hx, hKx⟩ := hw
  obtain ⟨hP1, hr1⟩ := hB
  rw [ht] at hP1
  exact h x u hx hKx H1 locs1 ls hl hP1 (zw_D hD) hS1 hr1
theorem v_callSi {K : Int → zS → Prop} (cx : zC Ω Γ cc nL own) (hM : zMi Ω y (.code y bytes maxL ret) rm Ls ad As σ K) (hY : zYs y bytes maxL ret nA) (hln : Cond.methodLink own idx y ∈ zT) (hn : As.length = nA) (hs : st0 = As.reverse ++ st) (hw : (st.map fun v => v.category).sum ≤ 8) (hR : rm.frames + 1 ≤ R.frames ∧ 8 + (maxL + 11) + rm.locals ≤ R.locals) (hf : k + rm.cells ≤ R.cells ∧ n + rm.slots ≤ R.slots) (hd : decode cc pc = .ok (.invokestatic idx, 3)) (h : ∀ (x : Int) (σ1 : zS), zR x → K x σ1 → zV Ω Γ R nL Q (k + rm.cells) (n + rm.slots) Ls ad σ1 (pc + 3) lv (.int (zI x) :: st)) : zV Ω Γ R nL Q k n Ls ad σ pc lv st0 := by
  subst hs
  have hpre := fun {H : Heap} {locs : List Loc} (hP) (hD) (hS : va_S Ω.2.2.2.1 Γ.2.2.1.heap H locs) (hr) => zc_pre (As := As) (ad := ad) (Ls := Ls) (σ := σ) cx hP hD hS hr
  obtain ⟨l, D, dA, A, sx⟩ := Ω
  obtain ⟨p, e, s, m, args, below, meth, c⟩ := Γ
  obtain ⟨hx', hb, hml, hown, hts, hK, hA, hlk, hst⟩ := cx
  intro H locs ls hl hP hD hS hr
  have hp := hpre hP hD hS hr
  have cw := va_cwS (R := R) (own := own) (index := idx) (y := y) (bytes := bytes) (maxL := maxL) (ret := ret) (ws := .code y bytes maxL ret :: zT) (rm := rm) nA hts (zGoodL _ (fun w hw => by
    rcases List.mem_append.mp hw with q | q
    · simp only [List.mem_cons, List.not_mem_nil, or_false] at q
      rcases q with rfl | rfl | rfl
      · exact hln
      · exact hY.2.1
      · exact hY.2.2.1
    · rcases List.mem_cons.mp q with rfl | q
      · exact hY.1
      · exact q)) rfl rfl rfl hY.2.2.2 hR
  refine va_calli (va_runS (As := As) (rest := st) ⟨hx', hb, hml, hown, hts⟩ hM cw hp rfl hn hl.1 rfl (lv_room hw) hd hf) hS (fun q _ h => h) (fun q h => h) (fun r u t H1 locs1 ht hvm hw hB hz1 hk1 hS1 => ?_)
  obtain ⟨x, rfl, hx, hKx⟩ := hw
  obtain ⟨hP1, hr1⟩ := hB
  rw [ht] at hP1
  exact h x u hx hKx H1 locs1 ls hl hP1 (zw_D hD) hS1 hr1
theorem v_callNi {K : Int → zS → Prop} (cx : zC Ω Γ cc nL own) {host : String} (hM : zMi Ω y (.code y bytes maxL ret) rm Ls ad As σ K) (hY : zYs y bytes maxL ret nA) (hln : Cond.methodLinkNest own idx y host ∈ zNw) (hn : As.length = nA) (hs : st0 = As.reverse ++ st) (hw : (st.map fun v => v.category).sum ≤ 8) (hR : rm.frames + 1 ≤ R.frames ∧ 8 + (maxL + 11) + rm.locals ≤ R.locals) (hf : k + rm.cells ≤ R.cells ∧ n + rm.slots ≤ R.slots) (hd : decode cc pc = .ok (.invokestatic idx, 3)) (h : ∀ (x : Int) (σ1 : zS), zR x → K x σ1 → zV Ω Γ R nL Q (k + rm.cells) (n + rm.slots) Ls ad σ1 (pc + 3) lv (.int (zI x) :: st)) : zV Ω Γ R nL Q k n Ls ad σ pc lv st0 := by
  subst hs
  have hpre := fun {H : Heap} {locs : List Loc} (hP) (hD) (hS : va_S Ω.2.2.2.1 Γ.2.2.1.heap H locs) (hr) => zc_pre (As := As) (ad := ad) (Ls := Ls) (σ := σ) cx hP hD hS hr
  obtain ⟨l, D, dA, A, sx⟩ := Ω
  obtain ⟨p, e, s, m, args, below, meth, c⟩ := Γ
  obtain ⟨hx', hb, hml, hown, hts, hK, hA, hlk, hst⟩ := cx
  intro H locs ls hl hP hD hS hr
  have hp := hpre hP hD hS hr
  have cw := va_cnB (R := R) (s := s) (args := args) (own := own) (host := host) (index := idx) (y := y) (bytes := bytes) (maxL := maxL) (ret := ret) (ws := .code y bytes maxL ret :: zT) (rm := rm) nA hts (zGood' _ hY.1) rfl rfl rfl (hst.2.1 _ hln) (hts _ hY.2.2.1) hY.2.2.2 hR
  refine va_calli (va_runSN (As := As) (rest := st) ⟨hx', hb, hml, hown, hts⟩ hM ⟨cw, hts _ hY.2.1, trivial⟩ hp rfl hn hl.1 rfl (lv_room hw) hd hf) hS (fun q _ h => h) (fun q h => h) (fun r u t H1 locs1 ht hvm hw hB hz1 hk1 hS1 => ?_)
  obtain ⟨x, rfl, hx, hKx⟩ := hw
  obtain ⟨hP1, hr1⟩ := hB
  rw [ht] at hP1
  exact h x u hx hKx H1 locs1 ls hl hP1 (zw_D hD) hS1 hr1
def zRt_z (Ω : zO) (Γ : zM) (rm : Room) (maxL : Nat) (Q : State → Prop) (Ls : List zL) (ad : Nat → Nat) (cc : ByteArray) (K : Int → zS → Prop) : Prop := ∀ (k n : Nat) (σ1 : zS) (pc : Nat) (lv : List (Nat × Value)) (x : Int), k ≤ rm.cells → n ≤ rm.slots → decode cc pc = .ok (.ireturn, 1) → (x = 0 ∨ x = 1) → K x σ1 → zV Ω Γ rm maxL Q k n Ls ad σ1 pc lv [.int (zI x)]
theorem z_ofz {K : Int → zS → Prop} (hy : plainName y.cls = true) (hlv : lv_args 0 av = lv) (hav : (lg_sl av).length ≤ maxL) (body : ∀ (Γ : zM) (Q : State → Prop), zC Ω Γ cc maxL y.cls → zRt_z Ω Γ rm maxL Q Ls ad cc K → zV Ω Γ rm maxL Q 0 0 Ls ad σ 0 lv []) : zMz Ω y (.code y cc maxL (some .boolean)) rm Ls ad av σ K := by
  obtain ⟨l, D, dA, A, sx⟩ := Ω
  refine Met.ofW (cc := cc) (maxL := maxL) (ret := (some .boolean)) hy rfl ?_
  intro p e s m args below meth c s₁ B hml hv
  obtain ⟨rfl, hP, hK, hD, hr, hA, hst⟩ := hv
  have hts0 := atoms_spec (ws := .code y cc maxL (some .boolean) :: zT) B.pre
  have cx : zC (l, D, dA, A, sx) (p, e, s, m, av.toArray, below, meth, c) cc maxL y.cls := ⟨B.exec, B.bytes, hml, findClass_of_methodNamed B.named, fun w hw => hts0 w (List.mem_cons_of_mem _ hw), hK, hA, B.notSynchronized, hst⟩
  have hl := lv_entry av (n := maxL) hav
  rw [lg_entry_eq]
  refine body (p, e, s, m, av.toArray, below, meth, c) _ cx ?_ s.heap [] _ (hlv ▸ hl) hP hD va_S.rf hr
  · intro k n σ1 pc lv x hk hn hd hx hKx H locs ls hl hP hD hS hr
    refine W.widen hk hn (W.zret (ty := .boolean) B.exec B.bytes B.returns (by rcases hx with rfl | rfl <;> rfl) (fun t ht hW => ⟨⟨zI x, σ1, rfl, ⟨x, rfl, hx, hKx⟩, by rw [show zPo _ Ls ad σ1 t = (va_P D zCl (zw dA ad Ls σ1) t.heap ∧ zRG σ1) from rfl, ht]; exact ⟨hP, hr⟩⟩, hS.F ht⟩) hS.2.2 hd B.notSynchronized)
theorem v_callVz {K : Int → zS → Prop} (cx : zC Ω Γ cc nL own) {ci : Nat} {fs : List (Option (Option Nat))} {T : u_T} {N : Nat} (hM : zMz Ω y (.code y bytes maxL ret) rm Ls ad (.ref (ad o) :: As) σ K) (hY : zYv y bytes maxL ret nA) (hln : Cond.methodLink own idx y ∈ zT) (hy : Ls[o]? = some (zOb ci fs)) (hc : zCl[ci]? = some (y.cls, T, N)) (hn : As.length = nA) (hs : st0 = As.reverse ++ .ref (ad o) :: st) (hw : (st.map fun v => v.category).sum ≤ 8) (hR : rm.frames + 1 ≤ R.frames ∧ 8 + (maxL + 11) + rm.locals ≤ R.locals) (hf : k + rm.cells ≤ R.cells ∧ n + rm.slots ≤ R.slots) (hd : decode cc pc = .ok (.invokevirtual idx, 3)) (h : ∀ (x : Int) (σ1 : zS), (x = 0 ∨ x = 1) → K x σ1 → zV Ω Γ R nL Q (k + rm.cells) (n + rm.slots) Ls ad σ1 (pc + 3) lv (.int (zI x) :: st)) : zV Ω Γ R nL Q k n Ls ad σ pc lv st0 := by
  subst hs
  have hpre := fun {H : Heap} {locs : List Loc} (hP) (hD) (hS : va_S Ω.2.2.2.1 Γ.2.2.1.heap H locs) (hr) => zc_pre (As := .ref (ad o) :: As) (ad := ad) (Ls := Ls) (σ := σ) cx hP hD hS hr
  obtain ⟨l, D, dA, A, sx⟩ := Ω
  obtain ⟨p, e, s, m, args, below, meth, c⟩ := Γ
  obtain ⟨hx', hb, hml, hown, hts, hK, hA, hlk, hst⟩ := cx
  intro H locs ls hl hP hD hS hr
  have hp := hpre hP hD hS hr
  have cw := cwV (R := R) (own := own) (index := idx) (C := y.cls) (y := y) (bytes := bytes) (maxL := maxL) (ret := ret) (ws := .code y bytes maxL ret :: zT) (rm := rm) nA hts (zGoodL _ (fun w hw => by
    rcases List.mem_append.mp hw with q | q
    · simp only [List.mem_cons, List.not_mem_nil, or_false] at q
      rcases q with rfl | rfl | rfl | rfl
      · exact hln
      · exact hY.2.1
      · exact hY.2.2.1
      · exact hY.2.2.2.1
    · rcases List.mem_cons.mp q with rfl | q
      · exact hY.1
      · exact q)) rfl rfl rfl hY.2.2.2.2 hR
  refine va_calli (va_runV (As := As) (rest := st) (b := ad o) ⟨hx', hb, hml, hown, hts⟩ hM cw ⟨hp.1, va_recv hK hP hc (zw_get hy), hp.2⟩ rfl hn hl.1 rfl (lv_room hw) hd hf) hS (fun q _ h => h) (fun q h => h) (fun r u t H1 locs1 ht hvm hw hB hz1 hk1 hS1 => ?_)
  obtain ⟨x, rfl, hx, hKx⟩ := hw
  obtain ⟨hP1, hr1⟩ := hB
  rw [ht] at hP1
  exact h x u hx hKx H1 locs1 ls hl hP1 (zw_D hD) hS1 hr1
theorem v_callSz {K : Int → zS → Prop} (cx : zC Ω Γ cc nL own) (hM : zMz Ω y (.code y bytes maxL ret) rm Ls ad As σ K) (hY : zYs y bytes maxL ret nA) (hln : Cond.methodLink own idx y ∈ zT) (hn : As.length = nA) (hs : st0 = As.reverse ++ st) (hw : (st.map fun v => v.category).sum ≤ 8) (hR : rm.frames + 1 ≤ R.frames ∧ 8 + (maxL + 11) + rm.locals ≤ R.locals) (hf : k + rm.cells ≤ R.cells ∧ n + rm.slots ≤ R.slots) (hd : decode cc pc = .ok (.invokestatic idx, 3)) (h : ∀ (x : Int) (σ1 : zS), (x = 0 ∨ x = 1) → K x σ1 → zV Ω Γ R nL Q (k + rm.cells) (n + rm.slots) Ls ad σ1 (pc + 3) lv (.int (zI x) :: st)) : zV Ω Γ R nL Q k n Ls ad σ pc lv st0 := by
  subst hs
  have hpre := fun {H : Heap} {locs : List Loc} (hP) (hD) (hS : va_S Ω.2.2.2.1 Γ.2.2.1.heap H locs) (hr) => zc_pre (As := As) (ad := ad) (Ls := Ls) (σ := σ) cx hP hD hS hr
  obtain ⟨l, D, dA, A, sx⟩ := Ω
  obtain ⟨p, e, s, m, args, below, meth, c⟩ := Γ
  obtain ⟨hx', hb, hml, hown, hts, hK, hA, hlk, hst⟩ := cx
  intro H locs ls hl hP hD hS hr
  have hp := hpre hP hD hS hr
  have cw := va_cwS (R := R) (own := own) (index := idx) (y := y) (bytes := bytes) (maxL := maxL) (ret := ret) (ws := .code y bytes maxL ret :: zT) (rm := rm) nA hts (zGoodL _ (fun w hw => by
    rcases List.mem_append.mp hw with q | q
    · simp only [List.mem_cons, List.not_mem_nil, or_false] at q
      rcases q with rfl | rfl | rfl
      · exact hln
      · exact hY.2.1
      · exact hY.2.2.1
    · rcases List.mem_cons.mp q with rfl | q
      · exact hY.1
      · exact q)) rfl rfl rfl hY.2.2.2 hR
  refine va_calli (va_runS (As := As) (rest := st) ⟨hx', hb, hml, hown, hts⟩ hM cw hp rfl hn hl.1 rfl (lv_room hw) hd hf) hS (fun q _ h => h) (fun q h => h) (fun r u t H1 locs1 ht hvm hw hB hz1 hk1 hS1 => ?_)
  obtain ⟨x, rfl, hx, hKx⟩ := hw
  obtain ⟨hP1, hr1⟩ := hB
  rw [ht] at hP1
  exact h x u hx hKx H1 locs1 ls hl hP1 (zw_D hD) hS1 hr1
theorem v_callNz {K : Int → zS → Prop} (cx : zC Ω Γ cc nL own) {host : String} (hM : zMz Ω y (.code y bytes maxL ret) rm Ls ad As σ K) (hY : zYs y bytes maxL ret nA) (hln : Cond.methodLinkNest own idx y host ∈ zNw) (hn : As.length = nA) (hs : st0 = As.reverse ++ st) (hw : (st.map fun v => v.category).sum ≤ 8) (hR : rm.frames + 1 ≤ R.frames ∧ 8 + (maxL + 11) + rm.locals ≤ R.locals) (hf : k + rm.cells ≤ R.cells ∧ n + rm.slots ≤ R.slots) (hd : decode cc pc = .ok (.invokestatic idx, 3)) (h : ∀ (x : Int) (σ1 : zS), (x = 0 ∨ x = 1) → K x σ1 → zV Ω Γ R nL Q (k + rm.cells) (n + rm.slots) Ls ad σ1 (pc + 3) lv (.int (zI x) :: st)) : zV Ω Γ R nL Q k n Ls ad σ pc lv st0 := by
  subst hs
  have hpre := fun {H : Heap} {locs : List Loc} (hP) (hD) (hS : va_S Ω.2.2.2.1 Γ.2.2.1.heap H locs) (hr) => zc_pre (As := As) (ad := ad) (Ls := Ls) (σ := σ) cx hP hD hS hr
  obtain ⟨l, D, dA, A, sx⟩ := Ω
  obtain ⟨p, e, s, m, args, below, meth, c⟩ := Γ
  obtain ⟨hx', hb, hml, hown, hts, hK, hA, hlk, hst⟩ := cx
  intro H locs ls hl hP hD hS hr
  have hp := hpre hP hD hS hr
  have cw := va_cnB (R := R) (s := s) (args := args) (own := own) (host := host) (index := idx) (y := y) (bytes := bytes) (maxL := maxL) (ret := ret) (ws := .code y bytes maxL ret :: zT) (rm := rm) nA hts (zGood' _ hY.1) rfl rfl rfl (hst.2.1 _ hln) (hts _ hY.2.2.1) hY.2.2.2 hR
  refine va_calli (va_runSN (As := As) (rest := st) ⟨hx', hb, hml, hown, hts⟩ hM ⟨cw, hts _ hY.2.1, trivial⟩ hp rfl hn hl.1 rfl (lv_room hw) hd hf) hS (fun q _ h => h) (fun q h => h) (fun r u t H1 locs1 ht hvm hw hB hz1 hk1 hS1 => ?_)
  obtain ⟨x, rfl, hx, hKx⟩ := hw
  obtain ⟨hP1, hr1⟩ := hB
  rw [ht] at hP1
  exact h x u hx hKx H1 locs1 ls hl hP1 (zw_D hD) hS1 hr1
def zRt_v (Ω : zO) (Γ : zM) (rm : Room) (maxL : Nat) (Q : State → Prop) (Ls : List zL) (ad : Nat → Nat) (cc : ByteArray) (K : zS → Prop) : Prop := ∀ (k n : Nat) (σ1 : zS) (pc : Nat) (lv : List (Nat × Value)), k ≤ rm.cells → n ≤ rm.slots → decode cc pc = .ok (.return_, 1) → K σ1 → zV Ω Γ rm maxL Q k n Ls ad σ1 pc lv []
theorem z_ofv {K : zS → Prop} (hy : plainName y.cls = true) (hlv : lv_args 0 av = lv) (hav : (lg_sl av).length ≤ maxL) (body : ∀ (Γ : zM) (Q : State → Prop), zC Ω Γ cc maxL y.cls → zRt_v Ω Γ rm maxL Q Ls ad cc K → zV Ω Γ rm maxL Q 0 0 Ls ad σ 0 lv []) : zMv Ω y (.code y cc maxL none) rm Ls ad av σ K := by
  obtain ⟨l, D, dA, A, sx⟩ := Ω
  refine Met.ofW (cc := cc) (maxL := maxL) (ret := none) hy rfl ?_
  intro p e s m args below meth c s₁ B hml hv
  obtain ⟨rfl, hP, hK, hD, hr, hA, hst⟩ := hv
  have hts0 := atoms_spec (ws := .code y cc maxL none :: zT) B.pre
  have cx : zC (l, D, dA, A, sx) (p, e, s, m, av.toArray, below, meth, c) cc maxL y.cls := ⟨B.exec, B.bytes, hml, findClass_of_methodNamed B.named, fun w hw => hts0 w (List.mem_cons_of_mem _ hw), hK, hA, B.notSynchronized, hst⟩
  have hl := lv_entry av (n := maxL) hav
  rw [lg_entry_eq]
  refine body (p, e, s, m, av.toArray, below, meth, c) _ cx ?_ s.heap [] _ (hlv ▸ hl) hP hD va_S.rf hr
  · intro k n σ1 pc lv hk hn hd hKx H locs ls hl hP hD hS hr
    refine W.widen hk hn (W.vret B.exec B.bytes B.returns (fun t ht hW => ⟨⟨σ1, rfl, hKx, by rw [show zPo _ Ls ad σ1 t = (va_P D zCl (zw dA ad Ls σ1) t.heap ∧ zRG σ1) from rfl, ht]; exact ⟨hP, hr⟩⟩, hS.F ht⟩) hS.2.2 hd B.notSynchronized)
theorem v_callVv {K : zS → Prop} (cx : zC Ω Γ cc nL own) {ci : Nat} {fs : List (Option (Option Nat))} {T : u_T} {N : Nat} (hM : zMv Ω y (.code y bytes maxL ret) rm Ls ad (.ref (ad o) :: As) σ K) (hY : zYv y bytes maxL ret nA) (hln : Cond.methodLink own idx y ∈ zT) (hy : Ls[o]? = some (zOb ci fs)) (hc : zCl[ci]? = some (y.cls, T, N)) (hn : As.length = nA) (hs : st0 = As.reverse ++ .ref (ad o) :: st) (hw : (st.map fun v => v.category).sum ≤ 8) (hR : rm.frames + 1 ≤ R.frames ∧ 8 + (maxL + 11) + rm.locals ≤ R.locals) (hf : k + rm.cells ≤ R.cells ∧ n + rm.slots ≤ R.slots) (hd : decode cc pc = .ok (.invokevirtual idx, 3)) (h : ∀ (σ1 : zS), K σ1 → zV Ω Γ R nL Q (k + rm.cells) (n + rm.slots) Ls ad σ1 (pc + 3) lv st) : zV Ω Γ R nL Q k n Ls ad σ pc lv st0 := by
  subst hs
  have hpre := fun {H : Heap} {locs : List Loc} (hP) (hD) (hS : va_S Ω.2.2.2.1 Γ.2.2.1.heap H locs) (hr) => zc_pre (As := .ref (ad o) :: As) (ad := ad) (Ls := Ls) (σ := σ) cx hP hD hS hr
  obtain ⟨l, D, dA, A, sx⟩ := Ω
  obtain ⟨p, e, s, m, args, below, meth, c⟩ := Γ
  obtain ⟨hx', hb, hml, hown, hts, hK, hA, hlk, hst⟩ := cx
  intro H locs ls hl hP hD hS hr
  have hp := hpre hP hD hS hr
  have cw := cwV (R := R) (own := own) (index := idx) (C := y.cls) (y := y) (bytes := bytes) (maxL := maxL) (ret := ret) (ws := .code y bytes maxL ret :: zT) (rm := rm) nA hts (zGoodL _ (fun w hw => by
    rcases List.mem_append.mp hw with q | q
    · simp only [List.mem_cons, List.not_mem_nil, or_false] at q
      rcases q with rfl | rfl | rfl | rfl
      · exact hln
      · exact hY.2.1
      · exact hY.2.2.1
      · exact hY.2.2.2.1
    · rcases List.mem_cons.mp q with rfl | q
      · exact hY.1
      · exact q)) rfl rfl rfl hY.2.2.2.2 hR
  refine va_callv (va_runV (As := As) (rest := st) (b := ad o) ⟨hx', hb, hml, hown, hts⟩ hM cw ⟨hp.1, va_recv hK hP hc (zw_get hy), hp.2⟩ rfl hn hl.1 rfl (lv_room hw) hd hf) hS (fun q _ h => h) (fun q h => h) (fun u t H1 locs1 ht hvm hw hB hz1 hk1 hS1 => ?_)
  obtain ⟨hP1, hr1⟩ := hB
  rw [ht] at hP1
  exact h u hw H1 locs1 ls hl hP1 (zw_D hD) hS1 hr1
theorem v_callSv {K : zS → Prop} (cx : zC Ω Γ cc nL own) (hM : zMv Ω y (.code y bytes maxL ret) rm Ls ad As σ K) (hY : zYs y bytes maxL ret nA) (hln : Cond.methodLink own idx y ∈ zT) (hn : As.length = nA) (hs : st0 = As.reverse ++ st) (hw : (st.map fun v => v.category).sum ≤ 8) (hR : rm.frames + 1 ≤ R.frames ∧ 8 + (maxL + 11) + rm.locals ≤ R.locals) (hf : k + rm.cells ≤ R.cells ∧ n + rm.slots ≤ R.slots) (hd : decode cc pc = .ok (.invokestatic idx, 3)) (h : ∀ (σ1 : zS), K σ1 → zV Ω Γ R nL Q (k + rm.cells) (n + rm.slots) Ls ad σ1 (pc + 3) lv st) : zV Ω Γ R nL Q k n Ls ad σ pc lv st0 := by
  subst hs
  have hpre := fun {H : Heap} {locs : List Loc} (hP) (hD) (hS : va_S Ω.2.2.2.1 Γ.2.2.1.heap H locs) (hr) => zc_pre (As := As) (ad := ad) (Ls := Ls) (σ := σ) cx hP hD hS hr
  obtain ⟨l, D, dA, A, sx⟩ := Ω
  obtain ⟨p, e, s, m, args, below, meth, c⟩ := Γ
  obtain ⟨hx', hb, hml, hown, hts, hK, hA, hlk, hst⟩ := cx
  intro H locs ls hl hP hD hS hr
  have hp := hpre hP hD hS hr
  have cw := va_cwS (R := R) (own := own) (index := idx) (y := y) (bytes := bytes) (maxL := maxL) (ret := ret) (ws := .code y bytes maxL ret :: zT) (rm := rm) nA hts (zGoodL _ (fun w hw => by
    rcases List.mem_append.mp hw with q | q
    · simp only [List.mem_cons, List.not_mem_nil, or_false] at q
      rcases q with rfl | rfl | rfl
      · exact hln
      · exact hY.2.1
      · exact hY.2.2.1
    · rcases List.mem_cons.mp q with rfl | q
      · exact hY.1
      · exact q)) rfl rfl rfl hY.2.2.2 hR
  refine va_callv (va_runS (As := As) (rest := st) ⟨hx', hb, hml, hown, hts⟩ hM cw hp rfl hn hl.1 rfl (lv_room hw) hd hf) hS (fun q _ h => h) (fun q h => h) (fun u t H1 locs1 ht hvm hw hB hz1 hk1 hS1 => ?_)
  obtain ⟨hP1, hr1⟩ := hB
  rw [ht] at hP1
  exact h u hw H1 locs1 ls hl hP1 (zw_D hD) hS1 hr1
theorem v_callNv {K : zS → Prop} (cx : zC Ω Γ cc nL own) {host : String} (hM : zMv Ω y (.code y bytes maxL ret) rm Ls ad As σ K) (hY : zYs y bytes maxL ret nA) (hln : Cond.methodLinkNest own idx y host ∈ zNw) (hn : As.length = nA) (hs : st0 = As.reverse ++ st) (hw : (st.map fun v => v.category).sum ≤ 8) (hR : rm.frames + 1 ≤ R.frames ∧ 8 + (maxL + 11) + rm.locals ≤ R.locals) (hf : k + rm.cells ≤ R.cells ∧ n + rm.slots ≤ R.slots) (hd : decode cc pc = .ok (.invokestatic idx, 3)) (h : ∀ (σ1 : zS), K σ1 → zV Ω Γ R nL Q (k + rm.cells) (n + rm.slots) Ls ad σ1 (pc + 3) lv st) : zV Ω Γ R nL Q k n Ls ad σ pc lv st0 := by
  subst hs
  have hpre := fun {H : Heap} {locs : List Loc} (hP) (hD) (hS : va_S Ω.2.2.2.1 Γ.2.2.1.heap H locs) (hr) => zc_pre (As := As) (ad := ad) (Ls := Ls) (σ := σ) cx hP hD hS hr
  obtain ⟨l, D, dA, A, sx⟩ := Ω
  obtain ⟨p, e, s, m, args, below, meth, c⟩ := Γ
  obtain ⟨hx', hb, hml, hown, hts, hK, hA, hlk, hst⟩ := cx
  intro H locs ls hl hP hD hS hr
  have hp := hpre hP hD hS hr
  have cw := va_cnB (R := R) (s := s) (args := args) (own := own) (host := host) (index := idx) (y := y) (bytes := bytes) (maxL := maxL) (ret := ret) (ws := .code y bytes maxL ret :: zT) (rm := rm) nA hts (zGood' _ hY.1) rfl rfl rfl (hst.2.1 _ hln) (hts _ hY.2.2.1) hY.2.2.2 hR
  refine va_callv (va_runSN (As := As) (rest := st) ⟨hx', hb, hml, hown, hts⟩ hM ⟨cw, hts _ hY.2.1, trivial⟩ hp rfl hn hl.1 rfl (lv_room hw) hd hf) hS (fun q _ h => h) (fun q h => h) (fun u t H1 locs1 ht hvm hw hB hz1 hk1 hS1 => ?_)
  obtain ⟨hP1, hr1⟩ := hB
  rw [ht] at hP1
  exact h u hw H1 locs1 ls hl hP1 (zw_D hD) hS1 hr1
def zRt_r (Ω : zO) (Γ : zM) (rm : Room) (maxL : Nat) (Q : State → Prop) (Ls : List zL) (ad : Nat → Nat) (cc : ByteArray) (K : Nat → zS → Prop) : Prop := ∀ (k n : Nat) (σ1 : zS) (pc : Nat) (lv : List (Nat × Value)) (x : Nat), k ≤ rm.cells → n ≤ rm.slots → decode cc pc = .ok (.areturn, 1) → K x σ1 → zV Ω Γ rm maxL Q k n Ls ad σ1 pc lv [.ref x]
theorem z_ofr {K : Nat → zS → Prop} {rt : FieldType} (hrt : (∃ n, rt = .object n) ∨ ∃ t, rt = .array t) (hy : plainName y.cls = true) (hlv : lv_args 0 av = lv) (hav : (lg_sl av).length ≤ maxL) (body : ∀ (Γ : zM) (Q : State → Prop), zC Ω Γ cc maxL y.cls → zRt_r Ω Γ rm maxL Q Ls ad cc K → zV Ω Γ rm maxL Q 0 0 Ls ad σ 0 lv []) : zMr Ω y (.code y cc maxL (some rt)) rm Ls ad av σ K := by
  obtain ⟨l, D, dA, A, sx⟩ := Ω
  refine Met.ofW (cc := cc) (maxL := maxL) (ret := (some rt)) hy rfl ?_
  intro p e s m args below meth c s₁ B hml hv
  obtain ⟨rfl, hP, hK, hD, hr, hA, hst⟩ := hv
  have hts0 := atoms_spec (ws := .code y cc maxL (some rt) :: zT) B.pre
  have cx : zC (l, D, dA, A, sx) (p, e, s, m, av.toArray, below, meth, c) cc maxL y.cls := ⟨B.exec, B.bytes, hml, findClass_of_methodNamed B.named, fun w hw => hts0 w (List.mem_cons_of_mem _ hw), hK, hA, B.notSynchronized, hst⟩
  have hl := lv_entry av (n := maxL) hav
  rw [lg_entry_eq]
  refine body (p, e, s, m, av.toArray, below, meth, c) _ cx ?_ s.heap [] _ (hlv ▸ hl) hP hD va_S.rf hr
  · intro k n σ1 pc lv x hk hn hd hKx H locs ls hl hP hD hS hr
    refine W.widen hk hn (W.aret B.exec B.bytes B.returns hrt (Or.inr ⟨x, rfl⟩) (fun t ht hW => ⟨⟨σ1, x, rfl, trivial, hKx, by rw [show zPo _ Ls ad σ1 t = (va_P D zCl (zw dA ad Ls σ1) t.heap ∧ zRG σ1) from rfl, ht]; exact ⟨hP, hr⟩⟩, hS.F ht⟩) hS.2.2 hd B.notSynchronized)
theorem v_callVr {K : Nat → zS → Prop} (cx : zC Ω Γ cc nL own) {ci : Nat} {fs : List (Option (Option Nat))} {T : u_T} {N : Nat} (hM : zMr Ω y (.code y bytes maxL ret) rm Ls ad (.ref (ad o) :: As) σ K) (hY : zYv y bytes maxL ret nA) (hln : Cond.methodLink own idx y ∈ zT) (hy : Ls[o]? = some (zOb ci fs)) (hc : zCl[ci]? = some (y.cls, T, N)) (hn : As.length = nA) (hs : st0 = As.reverse ++ .ref (ad o) :: st) (hw : (st.map fun v => v.category).sum ≤ 8) (hR : rm.frames + 1 ≤ R.frames ∧ 8 + (maxL + 11) + rm.locals ≤ R.locals) (hf : k + rm.cells ≤ R.cells ∧ n + rm.slots ≤ R.slots) (hd : decode cc pc = .ok (.invokevirtual idx, 3)) (h : ∀ (x : Nat) (σ1 : zS), K x σ1 → zV Ω Γ R nL Q (k + rm.cells) (n + rm.slots) Ls ad σ1 (pc + 3) lv (.ref x :: st)) : zV Ω Γ R nL Q k n Ls ad σ pc lv st0 := by
  subst hs
  have hpre := fun {H : Heap} {locs : List Loc} (hP) (hD) (hS : va_S Ω.2.2.2.1 Γ.2.2.1.heap H locs) (hr) => zc_pre (As := .ref (ad o) :: As) (ad := ad) (Ls := Ls) (σ := σ) cx hP hD hS hr
  obtain ⟨l, D, dA, A, sx⟩ := Ω
  obtain ⟨p, e, s, m, args, below, meth, c⟩ := Γ
  obtain ⟨hx', hb, hml, hown, hts, hK, hA, hlk, hst⟩ := cx
  intro H locs ls hl hP hD hS hr
  have hp := hpre hP hD hS hr
  have cw := cwV (R := R) (own := own) (index := idx) (C := y.cls) (y := y) (bytes := bytes) (maxL := maxL) (ret := ret) (ws := .code y bytes maxL ret :: zT) (rm := rm) nA hts (zGoodL _ (fun w hw => by
    rcases List.mem_append.mp hw with q | q
    · simp only [List.mem_cons, List.not_mem_nil, or_false] at q
      rcases q with rfl | rfl | rfl | rfl
      · exact hln
      · exact hY.2.1
      · exact hY.2.2.1
      · exact hY.2.2.2.1
    · rcases List.mem_cons.mp q with rfl | q
      · exact hY.1
      · exact q)) rfl rfl rfl hY.2.2.2.2 hR
  refine va_callr (va_runV (As := As) (rest := st) (b := ad o) ⟨hx', hb, hml, hown, hts⟩ hM cw ⟨hp.1, va_recv hK hP hc (zw_get hy), hp.2⟩ rfl hn hl.1 rfl (lv_room hw) hd hf) hS (fun q _ h => h) (fun q h => h) (fun u ra t H1 locs1 ht hvm hw hB hz1 hk1 hS1 => ?_)
  obtain ⟨hKx, hP1, hr1⟩ := hB
  rw [ht] at hP1
  exact h ra u hKx H1 locs1 ls hl hP1 (zw_D hD) hS1 hr1
theorem v_callSr {K : Nat → zS → Prop} (cx : zC Ω Γ cc nL own) (hM : zMr Ω y (.code y bytes maxL ret) rm Ls ad As σ K) (hY : zYs y bytes maxL ret nA) (hln : Cond.methodLink own idx y ∈ zT) (hn : As.length = nA) (hs : st0 = As.reverse ++ st) (hw : (st.map fun v => v.category).sum ≤ 8) (hR : rm.frames + 1 ≤ R.frames ∧ 8 + (maxL + 11) + rm.locals ≤ R.locals) (hf : k + rm.cells ≤ R.cells ∧ n + rm.slots ≤ R.slots) (hd : decode cc pc = .ok (.invokestatic idx, 3)) (h : ∀ (x : Nat) (σ1 : zS), K x σ1 → zV Ω Γ R nL Q (k + rm.cells) (n + rm.slots) Ls ad σ1 (pc + 3) lv (.ref x :: st)) : zV Ω Γ R nL Q k n Ls ad σ pc lv st0 := by
  subst hs
  have hpre := fun {H : Heap} {locs : List Loc} (hP) (hD) (hS : va_S Ω.2.2.2.1 Γ.2.2.1.heap H locs) (hr) => zc_pre (As := As) (ad := ad) (Ls := Ls) (σ := σ) cx hP hD hS hr
  obtain ⟨l, D, dA, A, sx⟩ := Ω
  obtain ⟨p, e, s, m, args, below, meth, c⟩ := Γ
  obtain ⟨hx', hb, hml, hown, hts, hK, hA, hlk, hst⟩ := cx
  intro H locs ls hl hP hD hS hr
  have hp := hpre hP hD hS hr
  have cw := va_cwS (R := R) (own := own) (index := idx) (y := y) (bytes := bytes) (maxL := maxL) (ret := ret) (ws := .code y bytes maxL ret :: zT) (rm := rm) nA hts (zGoodL _ (fun w hw => by
    rcases List.mem_append.mp hw with q | q
    · simp only [List.mem_cons, List.not_mem_nil, or_false] at q
      rcases q with rfl | rfl | rfl
      · exact hln
      · exact hY.2.1
      · exact hY.2.2.1
    · rcases List.mem_cons.mp q with rfl | q
      · exact hY.1
      · exact q)) rfl rfl rfl hY.2.2.2 hR
  refine va_callr (va_runS (As := As) (rest := st) ⟨hx', hb, hml, hown, hts⟩ hM cw hp rfl hn hl.1 rfl (lv_room hw) hd hf) hS (fun q _ h => h) (fun q h => h) (fun u ra t H1 locs1 ht hvm hw hB hz1 hk1 hS1 => ?_)
  obtain ⟨hKx, hP1, hr1⟩ := hB
  rw [ht] at hP1
  exact h ra u hKx H1 locs1 ls hl hP1 (zw_D hD) hS1 hr1
theorem v_callNr {K : Nat → zS → Prop} (cx : zC Ω Γ cc nL own) {host : String} (hM : zMr Ω y (.code y bytes maxL ret) rm Ls ad As σ K) (hY : zYs y bytes maxL ret nA) (hln : Cond.methodLinkNest own idx y host ∈ zNw) (hn : As.length = nA) (hs : st0 = As.reverse ++ st) (hw : (st.map fun v => v.category).sum ≤ 8) (hR : rm.frames + 1 ≤ R.frames ∧ 8 + (maxL + 11) + rm.locals ≤ R.locals) (hf : k + rm.cells ≤ R.cells ∧ n + rm.slots ≤ R.slots) (hd : decode cc pc = .ok (.invokestatic idx, 3)) (h : ∀ (x : Nat) (σ1 : zS), K x σ1 → zV Ω Γ R nL Q (k + rm.cells) (n + rm.slots) Ls ad σ1 (pc + 3) lv (.ref x :: st)) : zV Ω Γ R nL Q k n Ls ad σ pc lv st0 := by
  subst hs
  have hpre := fun {H : Heap} {locs : List Loc} (hP) (hD) (hS : va_S Ω.2.2.2.1 Γ.2.2.1.heap H locs) (hr) => zc_pre (As := As) (ad := ad) (Ls := Ls) (σ := σ) cx hP hD hS hr
  obtain ⟨l, D, dA, A, sx⟩ := Ω
  obtain ⟨p, e, s, m, args, below, meth, c⟩ := Γ
  obtain ⟨hx', hb, hml, hown, hts, hK, hA, hlk, hst⟩ := cx
  intro H locs ls hl hP hD hS hr
  have hp := hpre hP hD hS hr
  have cw := va_cnB (R := R) (s := s) (args := args) (own := own) (host := host) (index := idx) (y := y) (bytes := bytes) (maxL := maxL) (ret := ret) (ws := .code y bytes maxL ret :: zT) (rm := rm) nA hts (zGood' _ hY.1) rfl rfl rfl (hst.2.1 _ hln) (hts _ hY.2.2.1) hY.2.2.2 hR
  refine va_callr (va_runSN (As := As) (rest := st) ⟨hx', hb, hml, hown, hts⟩ hM ⟨cw, hts _ hY.2.1, trivial⟩ hp rfl hn hl.1 rfl (lv_room hw) hd hf) hS (fun q _ h => h) (fun q h => h) (fun u ra t H1 locs1 ht hvm hw hB hz1 hk1 hS1 => ?_)
  obtain ⟨hKx, hP1, hr1⟩ := hB
  rw [ht] at hP1
  exact h ra u hKx H1 locs1 ls hl hP1 (zw_D hD) hS1 hr1
end ZB

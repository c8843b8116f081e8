/-! ===== termHere: its row of strings lies beside the world ===== -/
theorem zSt_narrow {l : Launch} {sx : Nat → Nat} {A B : Nat → Prop} {U : State} {H : Heap} (hAB : ∀ q, B q → A q) (h : zSt l sx A U H) : zSt l sx B U H := by
  obtain ⟨h1, h2, h3, h4, h5, h6, h7, h8, h9, h10⟩ := h
  refine ⟨h1, h2, fun q hq => ?_, h4, fun q hq => ?_, h6.narrow hAB, h7.narrow hAB, h8.narrow hAB, h9, ⟨va_Zq.narrow h10.1 hAB, h10.2⟩⟩
  · obtain ⟨a1, a2, a3, a4⟩ := h3 q hq
    exact ⟨a1.narrow hAB, a2, a3, fun z => a4 (hAB _ z)⟩
  · obtain ⟨a1, a2, a3, a4⟩ := h5 q hq
    exact ⟨a1.narrow hAB, a2.narrow hAB, a3.narrow hAB, a4.narrow hAB⟩
theorem va_P_left {D : va_G} {cl : List vw_C} {w1 w2 : va_W} {H : Heap} (h : va_P D cl (w1 ++ w2) H) : va_P D cl w1 H := fun k q hk => h k q (by rw [List.getElem?_append_left (List.getElem?_eq_some_iff.mp hk).1]; exact hk)
theorem va_D_left {A : Nat → Prop} {w1 w2 : va_W} (h : va_D A (w1 ++ w2)) : va_D A w1 := by
  have key : ∀ (k : Nat) (q : Nat × va_E), w1[k]? = some q → (w1 ++ w2)[k]? = some q := fun k q hk => by rw [List.getElem?_append_left (List.getElem?_eq_some_iff.mp hk).1]; exact hk
  exact ⟨fun i j p q hi hj e => h.1 i j p q (key i p hi) (key j q hj) e, fun k q hk => h.2 k q (key k q hk)⟩
theorem zX_len (dA : Nat → ClassId) (ad : Nat → Nat) (σ : zS) : ∀ (L : List zL) (k : Nat), (zX dA ad σ k L).length = L.length
  | [], _ => rfl
  | _ :: r, k => by
    show (zX dA ad σ (k + 1) r).length + 1 = r.length + 1
    rw [zX_len dA ad σ r (k + 1)]
theorem zw_len {dA : Nat → ClassId} {ad : Nat → Nat} {σ : zS} : (zw dA ad zLy σ).length = 65 := (zX_len dA ad σ zLy 0).trans rfl
theorem zu_get {dA : Nat → ClassId} {ad : Nat → Nat} {σ : zS} {q : Nat} {x : va_E} : (zw dA ad zLy σ ++ [(q, x)])[65]? = some (q, x) := by
  rw [List.getElem?_append_right (by rw [zw_len]; exact Nat.le_refl _), zw_len]
  rfl
theorem zu_set {dA : Nat → ClassId} {ad : Nat → Nat} {σ : zS} {q : Nat} {x y : va_E} : (zw dA ad zLy σ ++ [(q, x)]).set 65 (q, y) = zw dA ad zLy σ ++ [(q, y)] := by
  rw [List.set_append_right _ _ (by rw [zw_len]; exact Nat.le_refl _), zw_len]
  rfl
theorem zu_ne {A : Nat → Prop} {dA : Nat → ClassId} {ad : Nat → Nat} {σ : zS} {q : Nat} {x : va_E} (h : va_D A (zw dA ad zLy σ ++ [(q, x)])) {i : Nat} {y : Nat × va_E} (hy : (zw dA ad zLy σ)[i]? = some y) : y.1 ≠ q := fun e => by
  have hi := (List.getElem?_eq_some_iff.mp hy).1
  have e2 := h.1 i 65 y _ (by rw [List.getElem?_append_left hi]; exact hy) zu_get e
  rw [zw_len] at hi
  omega
theorem zu_D {A : Nat → Prop} {dA : Nat → ClassId} {ad : Nat → Nat} {σ σ1 : zS} {q : Nat} {x : va_E} (h : va_D A (zw dA ad zLy σ ++ [(q, x)])) : va_D A (zw dA ad zLy σ1 ++ [(q, x)]) := by
  refine va_D.app (zw_D (va_D_left h)) ⟨fun i j a b hi hj _ => ?_, fun k a hk => ?_⟩ (fun i j a b hi hj e => ?_)
  · have h1 := (List.getElem?_eq_some_iff.mp hi).1
    have h2 := (List.getElem?_eq_some_iff.mp hj).1
    simp only [List.length_cons, List.length_nil] at h1 h2
    omega
  · have h1 := (List.getElem?_eq_some_iff.mp hk).1
    simp only [List.length_cons, List.length_nil] at h1
    have h0 : k = 0 := by omega
    subst h0
    cases hk
    exact h.2 65 _ zu_get
  · have h1 := (List.getElem?_eq_some_iff.mp hj).1
    simp only [List.length_cons, List.length_nil] at h1
    have h0 : j = 0 := by omega
    subst h0
    cases hj
    have g1 := zX_get dA ad σ1 zLy 0 i
    have g2 := zX_get dA ad σ zLy 0 i
    rw [hi] at g1
    cases hL : zLy[i]? with
    | none => rw [hL] at g1; cases g1
    | some y =>
      rw [hL] at g1 g2
      have e1 := congrArg Prod.fst (Option.some.inj g1)
      exact zu_ne h g2 (e1.symm.trans e)
theorem zu_P {D : va_G} {dA : Nat → ClassId} {ad : Nat → Nat} {σ σ1 : zS} {q : Nat} {x : va_E} {H H1 : Heap} (h : va_P D zCl (zw dA ad zLy σ ++ [(q, x)]) H) (h1 : va_P D zCl (zw dA ad zLy σ1) H1) (hq : H1[q]? = H[q]?) : va_P D zCl (zw dA ad zLy σ1 ++ [(q, x)]) H1 := by
  refine va_P.app h1 (fun k a hk => ?_)
  have h1 := (List.getElem?_eq_some_iff.mp hk).1
  simp only [List.length_cons, List.length_nil] at h1
  have h0 : k = 0 := by omega
  subst h0
  cases hk
  exact (h 65 _ zu_get).kept hq
theorem W_ldcSw {p : Program} {l : Launch} {e : Env} {R : Room} {s : State} {m : MethodId} {args : Array Value} {below : List Frame} {meth : Method} {c : Code} {H : Heap} {locs : List Loc} {cells slots : Nat} {Q : State → Prop} {cc : ByteArray} {pc : Nat} {ls : Array Slot} {rest : List Value} (hexec : p.tables.exec = Jvm.exec) (hb : c.code = cc) {own tx : String} {index q : Nat} (hown : s.vm.findClass own = some m.cls) (hZ : vk_R own index tx q s) (hdg : decode cc pc = .ok (.ldc_w index, 3))
    (k : W p l e R s m args below meth c H locs cells slots Q (F0 m (pc + 3) ls (.ref q :: rest))) : W p l e R s m args below meth c H locs cells slots Q (F0 m pc ls rest) := by
  intro T hT X
  obtain ⟨t, a1, b1⟩ := k T hT X
  exact ⟨t, X.ldcStringW hexec hown (text := tx) (a := q) hZ.1 hZ.2 (g := F0 m pc ls rest) rfl (by rw [hb]; exact hdg) t a1, b1⟩
section ZTM
variable {Ω : zO} {Γ : zM} {R rm : Room} {nL k n maxL nA idx : Nat} {Q : State → Prop} {Ls : List zL} {ad : Nat → Nat} {σ : zS} {pc : Nat} {lv lv' : List (Nat × Value)} {st st0 As av : List Value} {cc bytes : ByteArray} {own : String} {o : Nat} {y : MethodName} {ret : Option FieldType}
theorem v_ldcSw (cx : zC Ω Γ cc nL own) {tx : String} {j : Nat} (hq : (own, idx, tx, j) ∈ zSR) (hd : decode cc pc = .ok (.ldc_w idx, 3)) (h : zV Ω Γ R nL Q k n Ls ad σ (pc + 3) lv (.ref (Ω.2.2.2.2 j) :: st)) : zV Ω Γ R nL Q k n Ls ad σ pc lv st := by
  obtain ⟨l, D, dA, A, sx⟩ := Ω
  obtain ⟨p, e, s, m, args, below, meth, c⟩ := Γ
  obtain ⟨hx', hb, hml, hown, hts, hK, hA, hlk, hst⟩ := cx
  intro H locs ls hl hP hD hS hr
  exact W_ldcSw hx' hb hown (hst.2.2.2.1 _ hq) hd (h H locs ls hl hP hD hS hr)
end ZTM
theorem z_any {l : Launch} {sx : Nat → Nat} {A : Nat → Prop} {s : State} {H : Heap} {locs : List Loc} {j : Nat} {w : List Int} (hst : zSt l sx A s s.heap) (hS : va_S A s.heap H locs) (hj : (j, w) ∈ zSB) : va_Any "java/lang/String" s H (sx j) := by
  obtain ⟨h1, h2, h3, h4, h5, h6, h7, h8, h9, h10⟩ := hst
  obtain ⟨⟨cell, a1, a2, a3, a4⟩, -⟩ := h5 _ hj
  refine ⟨cell, by rw [hS.2.1 _ (Array.getElem?_eq_some_iff.mp a1).1 a4]; exact a1, a2, ?_, ?_⟩
  · obtain ⟨k9, h9', -⟩ := Vm.findClass_spec a3
    exact ⟨k9, h9'⟩
  · intro comp hc
    cases Option.some.inj (a3.symm.trans hc)
    exact va_asg _ _
theorem zI_nn {x : Int} (h : zR x) (h0 : 0 ≤ x) : ¬ zI x < 0 := fun c0 => absurd ((zI_lt h zR_0).mp c0) (Int.not_lt.mpr h0)
theorem zI_cl {x : Nat} (h : zR (x : Int)) : (zI (x : Int)).toNatClampNeg = x := (zI_clamp h).trans (Int.toNat_natCast x)
/-- a method of the world that is walked from its very start: no location yet -/
theorem z_ofi0 {l : Launch} {D : va_G} {dA : Nat → ClassId} {A : Nat → Prop} {sx : Nat → Nat} {rm : Room} {maxL : Nat} {Ls : List zL} {ad : Nat → Nat} {σ : zS} {lv : List (Nat × Value)} {av : List Value} {cc : ByteArray} {y : MethodName} {K : Int → zS → Prop} (hy : plainName y.cls = true) (hlv : lv_args 0 av = lv) (hav : (lg_sl av).length ≤ maxL) (body : ∀ (p : Program) (e : Env) (s : State) (m : MethodId) (args : Array Value) (below : List Frame) (meth : Method) (c : Code) (Q : State → Prop), zC (l, D, dA, A, sx) (p, e, s, m, args, below, meth, c) cc maxL y.cls → zRt_i (l, D, dA, A, sx) (p, e, s, m, args, below, meth, c) rm maxL Q Ls ad cc K → ∀ ls : Array Slot, lv_has ls maxL lv → va_P D zCl (zw dA ad Ls σ) s.heap → va_D A (zw dA ad Ls σ) → zRG σ → W p l e rm s m args below meth c s.heap [] 0 0 Q (F0 m 0 ls [])) : zMi (l, D, dA, A, sx) y (.code y cc maxL (some .int)) rm Ls ad av σ K := by
  refine Met.ofW (cc := cc) (maxL := maxL) (ret := (some .int)) hy rfl ?_
  intro p e s m args below meth c s₁ B hml hv
  obtain ⟨rfl, hP, hK, hD, hr, hA, hst⟩ := hv
  have hts0 := atoms_spec (ws := .code y cc maxL (some .int) :: zT) B.pre
  have cx : zC (l, D, dA, A, sx) (p, e, s, m, av.toArray, below, meth, c) cc maxL y.cls := ⟨B.exec, B.bytes, hml, findClass_of_methodNamed B.named, fun w hw => hts0 w (List.mem_cons_of_mem _ hw), hK, hA, B.notSynchronized, hst⟩
  have hl := lv_entry av (n := maxL) hav
  rw [lg_entry_eq]
  refine body p e s m av.toArray below meth c _ cx ?_ _ (hlv ▸ hl) hP hD hr
  · intro k n σ1 pc lv x hk hn hd hx hKx H locs ls hl hP hD hS hr
    refine W.widen hk hn (W.iret B.exec B.bytes B.returns (fun t ht hW => ⟨⟨zI x, σ1, rfl, ⟨x, rfl, hx, hKx⟩, by rw [show zPo _ Ls ad σ1 t = (va_P D zCl (zw dA ad Ls σ1) t.heap ∧ zRG σ1) from rfl, ht]; exact ⟨hP, hr⟩⟩, hS.F ht⟩) hS.2.2 hd B.notSynchronized)

set_option maxHeartbeats 100000 in
theorem zu_callVz {l : Launch} {D : va_G} {dA : Nat → ClassId} {A : Nat → Prop} {sx : Nat → Nat} {p : Program} {e : Env} {s : State} {m : MethodId} {args : Array Value} {below : List Frame} {meth : Method} {c : Code} {R rm : Room} {nL k n maxL nA idx : Nat} {Q : State → Prop} {ad : Nat → Nat} {σ : zS} {pc : Nat} {lv : List (Nat × Value)} {st As : List Value} {cc bytes : ByteArray} {own : String} {o : Nat} {y : MethodName} {ret : Option FieldType} {K : Int → zS → Prop} {ci : Nat} {fs : List (Option (Option Nat))} {T : u_T} {N : Nat} {q : Nat} {X : va_E} {H : Heap} {locs : List Loc} {ls : Array Slot} (cx : zC (l, D, dA, A, sx) (p, e, s, m, args, below, meth, c) cc nL own) (hqn : s.heap.size ≤ q) (hM : zMz (l, D, dA, (fun z => A z ∧ z ≠ q), sx) y (.code y bytes maxL ret) rm zLy ad (.ref (ad o) :: As) σ K) (hY : zYv y bytes maxL ret nA) (hln : Cond.methodLink own idx y ∈ zT) (hy : zLy[o]? = some (zOb ci fs)) (hc : zCl[ci]? = some (y.cls, T, N)) (hn : As.length = nA) (hw : (st.map fun v => v.category).sum ≤ 8) (hR : rm.frames + 1 ≤ R.frames ∧ 8 + (maxL + 11) + rm.locals ≤ R.locals) (hf : k + rm.cells ≤ R.cells ∧ n + rm.slots ≤ R.slots) (hd : decode cc pc = .ok (.invokevirtual idx, 3)) (hl : lv_has ls nL lv) (hP : va_P D zCl (zw dA ad zLy σ ++ [(q, X)]) H) (hD : va_D A (zw dA ad zLy σ ++ [(q, X)])) (hS : va_S A s.heap H locs) (hr : zRG σ) (h : ∀ (x : Int) (σ1 : zS) (H1 : Heap) (locs1 : List Loc), (x = 0 ∨ x = 1) → K x σ1 → va_P D zCl (zw dA ad zLy σ1 ++ [(q, X)]) H1 → va_D A (zw dA ad zLy σ1 ++ [(q, X)]) → va_S A s.heap H1 locs1 → zRG σ1 → W p l e R s m args below meth c H1 locs1 (k + rm.cells) (n + rm.slots) Q (F0 m (pc + 3) ls (.int (zI x) :: st))) : W p l e R s m args below meth c H locs k n Q (F0 m pc ls (As.reverse ++ .ref (ad o) :: st)) := by
  obtain ⟨hx', hb, hml, hown, hts, hK, hA, hlk, hst⟩ := cx
  have hq : q < H.size := (hP 65 _ zu_get).lt
  have hDn : va_D (fun z => A z ∧ z ≠ q) (zw dA ad zLy σ) := ⟨(va_D_left hD).1, fun i y hy => ⟨(va_D_left hD).2 i y hy, zu_ne hD hy⟩⟩
  have hp : PreS s H (va_Pc (.ref (ad o) :: As) (zWd (l, D, dA, (fun z => A z ∧ z ≠ q), sx) zLy ad σ)) (.ref (ad o) :: As) := by
    refine ⟨zWd_blind _ _ _ _ _, fun U hU hW => ⟨rfl, by rw [hU]; exact va_P_left hP, va_K.moved hW.alike hK, hDn, hr, fun x hx => ⟨hA x (Nat.le_trans hS.1 (by rw [← hU]; exact hx)), fun e => ?_⟩, ?_⟩⟩
    · rw [hU, e] at hx
      exact absurd hq (Nat.not_lt.mpr hx)
    · rw [hU]
      exact zSt_warm hW hS.1 (fun a h1 h2 => hS.2.1 a h1 (fun z => h2 ⟨z, fun e => by rw [e] at h1; exact absurd h1 (Nat.not_lt.mpr hqn)⟩)) (zSt_narrow (fun x hx => hx.1) hst)
  have cw := cwV (R := R) (own := own) (index := idx) (C := y.cls) (y := y) (bytes := bytes) (maxL := maxL) (ret := ret) (ws := .code y bytes maxL ret :: zT) (rm := rm) nA hts (zGoodL _ (fun w hw => by
    rcases List.mem_append.mp hw with q | q
    · simp only [List.mem_cons, List.not_mem_nil, or_false] at q
      rcases q with rfl | rfl | rfl | rfl
      · exact hln
      · exact hY.2.1
      · exact hY.2.2.1
      · exact hY.2.2.2.1
    · rcases List.mem_cons.mp q with rfl | q
      · exact hY.1
      · exact q)) rfl rfl rfl hY.2.2.2.2 hR
  refine va_calli (va_runV (As := As) (rest := st) (b := ad o) ⟨hx', hb, hml, hown, hts⟩ hM cw ⟨hp.1, va_recv hK (va_P_left hP) hc (zw_get hy), hp.2⟩ rfl hn hl.1 rfl (lv_room hw) hd hf) hS (fun x _ hx => hx.1) (fun x hx => hx.1) (fun r u t H1 locs1 ht hvm hw hB hz1 hk1 hS1 => ?_)
  obtain ⟨x, rfl, hx, hKx⟩ := hw
  obtain ⟨hP1, hr1⟩ := hB
  rw [ht] at hP1
  exact h x u H1 locs1 hx hKx (zu_P hP hP1 (hk1 q hq (fun z => z.2 rfl))) (zu_D hD) hS1 hr1

theorem zcl_M_228 : Cond.classLink "GentleRoadModel" 228 "java/lang/String" ∈ zT := ztc8 220 (by decide +kernel) rfl
def zTWs : List (Int × List Int) := [(0, [103, 114, 97, 100, 101]), (1, [98, 101, 110, 100]), (2, [102, 108, 97, 116]), (3, [114, 105, 115, 101]), (4, [116, 117, 114, 110]), (5, [104, 97, 105, 114]), (6, [98, 111, 114, 101]), (7, [100, 101, 112, 116, 104]), (8, [100, 105, 103]), (9, [102, 105, 108, 108]), (10, [115, 112, 111, 105, 108])]
def zTWj (k : Nat) : Nat := ([37, 38, 39, 40, 41, 42, 43, 44, 45, 46, 47] : List Nat).getD k 0
def q_M_termAt : List (Int × List Int) → (Int → zS → Prop) → zS → Prop
  | [], K, σ => K (-1) σ
  | (k, w) :: r, K, σ => q_M_has w (fun b σ1 => (b ≠ 0 → K k σ1) ∧ (b = 0 → q_M_termAt r K σ1)) σ
def q_M_termHere (K : Int → zS → Prop) (σ : zS) : Prop := q_M_termAt zTWs K σ
abbrev rm_M_termHere : Room := { frames := 5, cells := 1, slots := 11, locals := 8 + (4 + 11) + 85 }
theorem zTWs_at {k : Nat} (hk : k < 11) : ∃ w, (zTWj k, w) ∈ zSB ∧ zTWs.drop k = ((k : Int), w) :: zTWs.drop (k + 1) := by
  match k, hk with
  | 0, _ => exact ⟨_, zsb_37, rfl⟩
  | 1, _ => exact ⟨_, zsb_38, rfl⟩
  | 2, _ => exact ⟨_, zsb_39, rfl⟩
  | 3, _ => exact ⟨_, zsb_40, rfl⟩
  | 4, _ => exact ⟨_, zsb_41, rfl⟩
  | 5, _ => exact ⟨_, zsb_42, rfl⟩
  | 6, _ => exact ⟨_, zsb_43, rfl⟩
  | 7, _ => exact ⟨_, zsb_44, rfl⟩
  | 8, _ => exact ⟨_, zsb_45, rfl⟩
  | 9, _ => exact ⟨_, zsb_46, rfl⟩
  | 10, _ => exact ⟨_, zsb_47, rfl⟩
  | k + 11, hk => exact absurd hk (by omega)
set_option maxRecDepth 20000 in
set_option maxHeartbeats 100000 in
theorem s_M_termLoop {l : Launch} {D : va_G} {dA : Nat → ClassId} {A : Nat → Prop} {sx : Nat → Nat} {p : Program} {e : Env} {s : State} {m : MethodId} {args : Array Value} {below : List Frame} {meth : Method} {c : Code} {Q : State → Prop} {ad : Nat → Nat} {K : Int → zS → Prop} {q : Nat} {cA : ClassId} {fe : Nat → Option Nat} (cx : zC (l, D, dA, A, sx) (p, e, s, m, args, below, meth, c) c_M_termHere 3 "GentleRoadModel") (rt : zRt_i (l, D, dA, A, sx) (p, e, s, m, args, below, meth, c) rm_M_termHere 3 Q zLy ad c_M_termHere K) (hqn : s.heap.size ≤ q) (hK2 : va_K D zCl (zTy dA ++ [(cA, .object "java/lang/String")]) s) (hfk : ∀ k, k < 11 → fe k = some (sx (zTWj k))) : ∀ (d k : Nat) (hk : k + d = 11) (H : Heap) (locs : List Loc) (ls : Array Slot) (u : zS), q_M_termAt (zTWs.drop k) K u → lv_has ls 3 [(0, .ref (ad 41)), (1, .ref q), (2, .int (zI (k : Int)))] → va_P D zCl (zw dA ad zLy u ++ [(q, .inl (cA, 11, .inr (.inr (.inr (.inr fe)))))]) H → va_D A (zw dA ad zLy u ++ [(q, .inl (cA, 11, .inr (.inr (.inr (.inr fe)))))]) → va_S A s.heap H locs → zRG u → W p l e rm_M_termHere s m args below meth c H locs (0 + 1) (0 + 11) Q (F0 m 78 ls []) := by
  obtain ⟨hx', hb, hml, hown, hts, hK, hA, hlk, hst⟩ := id cx
  intro d
  induction d with
  | zero =>
    intro k hk H locs ls u h hl hP hD hS hr
    have hk : k = 11 := by omega
    subst hk
    refine lv_iload_n hx' hb d_M_termHere_78 rfl (lv_at hl 2 rfl) ?_
    refine lv_bipush hx' hb d_M_termHere_79 (v_bip_ok (x := 11) (by decide)) ?_
    refine lv_icmp_ge (tgt := 102) hx' hb d_M_termHere_81 (by decide) (fun c0 => ?_) (fun c0 => absurd (by decide) c0)
    refine lv_iconst (v := zI (-1)) hx' hb d_M_termHere_102 rfl ?_
    exact rt _ _ u _ [(0, .ref (ad 41)), (1, .ref q), (2, .int (zI ((11 : Nat) : Int)))] (-1) (Nat.le_of_ble_eq_true rfl) (Nat.le_of_ble_eq_true rfl) d_M_termHere_103 ⟨by decide, by decide⟩ h H locs ls hl (va_P_left hP) (va_D_left hD) hS hr
  | succ d ih =>
    intro k hk H locs ls u h hl hP hD hS hr
    have hk11 : k < 11 := by omega
    have hkR : zR (k : Int) := ⟨by omega, by omega⟩
    obtain ⟨w, hj, hdrop⟩ := zTWs_at hk11
    rw [hdrop] at h
    refine lv_iload_n hx' hb d_M_termHere_78 rfl (lv_at hl 2 rfl) ?_
    refine lv_bipush hx' hb d_M_termHere_79 (v_bip_ok (x := 11) (by decide)) ?_
    refine lv_icmp_ge (tgt := 102) hx' hb d_M_termHere_81 (by decide) (fun c0 => absurd ((zI_le (x := 11) (y := (k : Int)) ⟨by decide, by decide⟩ hkR).mp c0) (by omega)) (fun c0 => ?_)
    refine lv_aload_n hx' hb d_M_termHere_84 rfl (lv_at hl 0 rfl) ?_
    refine lv_aload_n hx' hb d_M_termHere_85 rfl (lv_at hl 1 rfl) ?_
    refine lv_iload_n hx' hb d_M_termHere_86 rfl (lv_at hl 2 rfl) ?_
    refine va_aldq hx' hb hK2 hP 65 3 zu_get rfl (zI_in (by omega) (by omega) (by decide)) d_M_termHere_87 ?_
    rw [zI_clamp hkR, Int.toNat_natCast, hfk k hk11]
    have hM := s_M_has (Ω := (l, D, dA, (fun x => A x ∧ x ≠ q), sx)) (ad := ad) (σ := u) hj h
    refine zu_callVz (lv := [(0, .ref (ad 41)), (1, .ref q), (2, .int (zI (k : Int)))]) (As := [.ref (sx (zTWj k))]) (st := []) cx hqn hM yk_M_has lk_M_236 zl_41 rfl rfl (Nat.le_of_ble_eq_true rfl) ⟨Nat.le_of_ble_eq_true rfl, Nat.le_of_ble_eq_true rfl⟩ ⟨Nat.le_of_ble_eq_true rfl, Nat.le_of_ble_eq_true rfl⟩ d_M_termHere_88 hl hP hD hS hr (fun x u1 H1 locs1 hx hKx hP hD hS1 hr1 => ?_)
    refine lv_if_eq (tgt := 96) hx' hb d_M_termHere_91 (by decide) (fun c0 => ?_) (fun c0 => ?_)
    · have hx0 : x = 0 := (zI_eq (zR_b hx) zR_0).mp c0
      refine lv_iinc (k := 2) hx' hb d_M_termHere_96 hl rfl (zI_add (k : Int) 1) (by decide) rfl (fun ls hl' => ?_)
      have hl2 : lv_has ls 3 [(0, .ref (ad 41)), (1, .ref q), (2, .int (zI ((k : Int) + 1)))] := zput_has (i := 2) (v := .int (zI ((k : Int) + 1))) (lv := [(0, .ref (ad 41)), (1, .ref q), (2, .int (zI (k : Int)))]) rfl hl'
      refine lv_goto (tgt := 78) hx' hb d_M_termHere_99 (by decide) ?_
      exact ih (k + 1) (by omega) H1 locs1 ls u1 (hKx.2 hx0) (by rw [Int.natCast_add]; exact hl2) hP hD hS1 hr1
    · have hx0 : x ≠ 0 := fun q => c0 ((zI_eq (zR_b hx) zR_0).mpr q)
      refine lv_iload_n hx' hb d_M_termHere_94 rfl (lv_at hl 2 rfl) ?_
      exact rt _ _ u1 _ [(0, .ref (ad 41)), (1, .ref q), (2, .int (zI (k : Int)))] (k : Int) (Nat.le_of_ble_eq_true rfl) (Nat.le_of_ble_eq_true rfl) d_M_termHere_95 hkR (hKx.1 hx0) H1 locs1 ls hl (va_P_left hP) (va_D_left hD) hS1 hr1
set_option maxHeartbeats 100000 in
theorem zu_ast {l : Launch} {D : va_G} {dA : Nat → ClassId} {A : Nat → Prop} {sx : Nat → Nat} {p : Program} {e : Env} {s : State} {m : MethodId} {args : Array Value} {below : List Frame} {meth : Method} {c : Code} {R : Room} {cells slots : Nat} {Q : State → Prop} {ad : Nat → Nat} {q : Nat} {cA : ClassId} {σ : zS} {cc : ByteArray} {pc : Nat} {ls : Array Slot} {rest : List Value} {H : Heap} {locs : List Loc} {f : Nat → Option Nat} (k j : Nat) {w : List Int} (hx' : p.tables.exec = Jvm.exec) (hb : c.code = cc) (hst : zSt l sx A s s.heap) (hK2 : va_K D zCl (zTy dA ++ [(cA, .object "java/lang/String")]) s) (hk : k < 11) (hj : zTWj k = j) (hw : (j, w) ∈ zSB) (hf : ∀ i, i < k → f i = some (sx (zTWj i))) (hP : va_P D zCl (zw dA ad zLy σ ++ [(q, .inl (cA, 11, .inr (.inr (.inr (.inr f)))))]) H) (hD : va_D A (zw dA ad zLy σ ++ [(q, .inl (cA, 11, .inr (.inr (.inr (.inr f)))))])) (hS : va_S A s.heap H locs) (hdg : decode cc pc = .ok (.aastore, 1)) (kk : ∀ (f1 : Nat → Option Nat) (H1 : Heap) (locs1 : List Loc), (∀ i, i < k + 1 → f1 i = some (sx (zTWj i))) → va_P D zCl (zw dA ad zLy σ ++ [(q, .inl (cA, 11, .inr (.inr (.inr (.inr f1)))))]) H1 → va_D A (zw dA ad zLy σ ++ [(q, .inl (cA, 11, .inr (.inr (.inr (.inr f1)))))]) → va_S A s.heap H1 locs1 → W p l e R s m args below meth c H1 locs1 cells slots Q (F0 m (pc + 1) ls rest)) : W p l e R s m args below meth c H locs cells slots Q (F0 m pc ls (.ref (sx j) :: .int (zI (k : Int)) :: .ref q :: rest)) := by
  have hkR : zR (k : Int) := ⟨by omega, by omega⟩
  refine va_astqM (E := "java/lang/String") hx' hb hK2 hP hD hS 65 3 zu_get rfl (z_any hst hS hw) (zI_in (by omega) (by omega) (by decide)) hdg (fun H1 locs1 hP hD hS => ?_)
  rw [zu_set, zI_cl hkR] at hP hD
  refine kk _ H1 locs1 (fun i hi => ?_) hP hD hS
  unfold va_up
  by_cases e : i = k
  · rw [if_pos e, e, hj]
  · rw [if_neg e]
    exact hf i (by omega)
set_option maxRecDepth 20000 in
set_option maxHeartbeats 100000 in
theorem s_M_termEnd {l : Launch} {D : va_G} {dA : Nat → ClassId} {A : Nat → Prop} {sx : Nat → Nat} {p : Program} {e : Env} {s : State} {m : MethodId} {args : Array Value} {below : List Frame} {meth : Method} {c : Code} {Q : State → Prop} {ad : Nat → Nat} {K : Int → zS → Prop} {q : Nat} {cA : ClassId} {σ : zS} {f : Nat → Option Nat} (cx : zC (l, D, dA, A, sx) (p, e, s, m, args, below, meth, c) c_M_termHere 3 "GentleRoadModel") (rt : zRt_i (l, D, dA, A, sx) (p, e, s, m, args, below, meth, c) rm_M_termHere 3 Q zLy ad c_M_termHere K) (hqn : s.heap.size ≤ q) (hK2 : va_K D zCl (zTy dA ++ [(cA, .object "java/lang/String")]) s) (hf : ∀ i, i < 11 → f i = some (sx (zTWj i))) (h' : q_M_termAt (zTWs.drop 0) K σ) {H : Heap} {locs : List Loc} {ls : Array Slot} (hl : lv_has ls 3 [(0, .ref (ad 41))]) (hP : va_P D zCl (zw dA ad zLy σ ++ [(q, .inl (cA, 11, .inr (.inr (.inr (.inr f)))))]) H) (hD : va_D A (zw dA ad zLy σ ++ [(q, .inl (cA, 11, .inr (.inr (.inr (.inr f)))))])) (hS : va_S A s.heap H locs) (hr : zRG σ) : W p l e rm_M_termHere s m args below meth c H locs (0 + 1) (0 + 11) Q (F0 m 75 ls [.ref q]) := by
  obtain ⟨hx', hb, hml, hown, hts, hK, hA, hlk, hst⟩ := id cx
  obtain ⟨z1, z2, z3, z4, z5, z6, z7, z8, z9, z10⟩ := id hst
  refine lv_astore_n hx' hb d_M_termHere_75 rfl hl (by decide) rfl (fun ls hl' => ?_)
  have hl1 : lv_has ls 3 [(0, .ref (ad 41)), (1, .ref q)] := zput_has (i := 1) (v := .ref q) (lv := [(0, .ref (ad 41))]) rfl hl'
  refine lv_iconst (v := zI 0) hx' hb d_M_termHere_76 rfl ?_
  refine lv_istore_n hx' hb d_M_termHere_77 rfl hl1 (by decide) rfl (fun ls hl' => ?_)
  have hl2 : lv_has ls 3 [(0, .ref (ad 41)), (1, .ref q), (2, .int (zI ((0 : Nat) : Int)))] := zput_has (i := 2) (v := .int (zI 0)) (lv := [(0, .ref (ad 41)), (1, .ref q)]) rfl hl'
  exact s_M_termLoop cx rt hqn hK2 hf 11 0 rfl H locs ls σ h' hl2 hP hD hS hr
set_option maxRecDepth 20000 in
set_option maxHeartbeats 100000 in
theorem s_M_termRow {l : Launch} {D : va_G} {dA : Nat → ClassId} {A : Nat → Prop} {sx : Nat → Nat} {p : Program} {e : Env} {s : State} {m : MethodId} {args : Array Value} {below : List Frame} {meth : Method} {c : Code} {Q : State → Prop} {ad : Nat → Nat} {K : Int → zS → Prop} {q : Nat} {cA : ClassId} {σ : zS} (cx : zC (l, D, dA, A, sx) (p, e, s, m, args, below, meth, c) c_M_termHere 3 "GentleRoadModel") (rt : zRt_i (l, D, dA, A, sx) (p, e, s, m, args, below, meth, c) rm_M_termHere 3 Q zLy ad c_M_termHere K) (hqn : s.heap.size ≤ q) (hK2 : va_K D zCl (zTy dA ++ [(cA, .object "java/lang/String")]) s) (h' : q_M_termAt (zTWs.drop 0) K σ) {H : Heap} {locs : List Loc} {ls : Array Slot} (hl : lv_has ls 3 [(0, .ref (ad 41))]) (hP : va_P D zCl (zw dA ad zLy σ ++ [(q, .inl (cA, 11, .inr (.inr (.inr (.inr (fun _ => none))))))]) H) (hD : va_D A (zw dA ad zLy σ ++ [(q, .inl (cA, 11, .inr (.inr (.inr (.inr (fun _ => none))))))])) (hS : va_S A s.heap H locs) (hr : zRG σ) : W p l e rm_M_termHere s m args below meth c H locs (0 + 1) (0 + 11) Q (F0 m 5 ls [.ref q]) := by
  obtain ⟨hx', hb, hml, hown, hts, hK, hA, hlk, hst⟩ := id cx
  obtain ⟨z1, z2, z3, z4, z5, z6, z7, z8, z9, z10⟩ := id hst
  have hf : ∀ i, i < 0 → (fun _ => none : Nat → Option Nat) i = some (sx (zTWj i)) := fun i hi => absurd hi (Nat.not_lt_zero i)
  refine lv_dup hx' hb d_M_termHere_5 rfl ?_
  refine lv_iconst (v := zI 0) hx' hb d_M_termHere_6 rfl ?_
  have y37 : vk_R "GentleRoadModel" 255 "grade" (sx 37) s := z4 ("GentleRoadModel", 255, "grade", 37) zsr_37
  refine va_ldcS hx' hb hown y37 d_M_termHere_7 ?_
  refine zu_ast 0 37 hx' hb hst hK2 (by decide) rfl zsb_37 hf hP hD hS d_M_termHere_9 (fun f H locs hf hP hD hS => ?_)
  refine lv_dup hx' hb d_M_termHere_10 rfl ?_
  refine lv_iconst (v := zI 1) hx' hb d_M_termHere_11 rfl ?_
  have y38 : vk_R "GentleRoadModel" 257 "bend" (sx 38) s := z4 ("GentleRoadModel", 257, "bend", 38) zsr_38
  refine W_ldcSw hx' hb hown y38 d_M_termHere_12 ?_
  refine zu_ast 1 38 hx' hb hst hK2 (by decide) rfl zsb_38 hf hP hD hS d_M_termHere_15 (fun f H locs hf hP hD hS => ?_)
  refine lv_dup hx' hb d_M_termHere_16 rfl ?_
  refine lv_iconst (v := zI 2) hx' hb d_M_termHere_17 rfl ?_
  have y39 : vk_R "GentleRoadModel" 259 "flat" (sx 39) s := z4 ("GentleRoadModel", 259, "flat", 39) zsr_39
  refine W_ldcSw hx' hb hown y39 d_M_termHere_18 ?_
  refine zu_ast 2 39 hx' hb hst hK2 (by decide) rfl zsb_39 hf hP hD hS d_M_termHere_21 (fun f H locs hf hP hD hS => ?_)
  refine lv_dup hx' hb d_M_termHere_22 rfl ?_
  refine lv_iconst (v := zI 3) hx' hb d_M_termHere_23 rfl ?_
  have y40 : vk_R "GentleRoadModel" 261 "rise" (sx 40) s := z4 ("GentleRoadModel", 261, "rise", 40) zsr_40
  refine W_ldcSw hx' hb hown y40 d_M_termHere_24 ?_
  refine zu_ast 3 40 hx' hb hst hK2 (by decide) rfl zsb_40 hf hP hD hS d_M_termHere_27 (fun f H locs hf hP hD hS => ?_)
  refine lv_dup hx' hb d_M_termHere_28 rfl ?_
  refine lv_iconst (v := zI 4) hx' hb d_M_termHere_29 rfl ?_
  have y41 : vk_R "GentleRoadModel" 263 "turn" (sx 41) s := z4 ("GentleRoadModel", 263, "turn", 41) zsr_41
  refine W_ldcSw hx' hb hown y41 d_M_termHere_30 ?_
  refine zu_ast 4 41 hx' hb hst hK2 (by decide) rfl zsb_41 hf hP hD hS d_M_termHere_33 (fun f H locs hf hP hD hS => ?_)
  refine lv_dup hx' hb d_M_termHere_34 rfl ?_
  refine lv_iconst (v := zI 5) hx' hb d_M_termHere_35 rfl ?_
  have y42 : vk_R "GentleRoadModel" 265 "hair" (sx 42) s := z4 ("GentleRoadModel", 265, "hair", 42) zsr_42
  refine W_ldcSw hx' hb hown y42 d_M_termHere_36 ?_
  refine zu_ast 5 42 hx' hb hst hK2 (by decide) rfl zsb_42 hf hP hD hS d_M_termHere_39 (fun f H locs hf hP hD hS => ?_)
  refine lv_dup hx' hb d_M_termHere_40 rfl ?_
  refine lv_bipush hx' hb d_M_termHere_41 (v_bip_ok (x := 6) (by decide)) ?_
  have y43 : vk_R "GentleRoadModel" 267 "bore" (sx 43) s := z4 ("GentleRoadModel", 267, "bore", 43) zsr_43
  refine W_ldcSw hx' hb hown y43 d_M_termHere_43 ?_
  refine zu_ast 6 43 hx' hb hst hK2 (by decide) rfl zsb_43 hf hP hD hS d_M_termHere_46 (fun f H locs hf hP hD hS => ?_)
  refine lv_dup hx' hb d_M_termHere_47 rfl ?_
  refine lv_bipush hx' hb d_M_termHere_48 (v_bip_ok (x := 7) (by decide)) ?_
  have y44 : vk_R "GentleRoadModel" 269 "depth" (sx 44) s := z4 ("GentleRoadModel", 269, "depth", 44) zsr_44
  refine W_ldcSw hx' hb hown y44 d_M_termHere_50 ?_
  refine zu_ast 7 44 hx' hb hst hK2 (by decide) rfl zsb_44 hf hP hD hS d_M_termHere_53 (fun f H locs hf hP hD hS => ?_)
  refine lv_dup hx' hb d_M_termHere_54 rfl ?_
  refine lv_bipush hx' hb d_M_termHere_55 (v_bip_ok (x := 8) (by decide)) ?_
  have y45 : vk_R "GentleRoadModel" 271 "dig" (sx 45) s := z4 ("GentleRoadModel", 271, "dig", 45) zsr_45
  refine W_ldcSw hx' hb hown y45 d_M_termHere_57 ?_
  refine zu_ast 8 45 hx' hb hst hK2 (by decide) rfl zsb_45 hf hP hD hS d_M_termHere_60 (fun f H locs hf hP hD hS => ?_)
  refine lv_dup hx' hb d_M_termHere_61 rfl ?_
  refine lv_bipush hx' hb d_M_termHere_62 (v_bip_ok (x := 9) (by decide)) ?_
  have y46 : vk_R "GentleRoadModel" 273 "fill" (sx 46) s := z4 ("GentleRoadModel", 273, "fill", 46) zsr_46
  refine W_ldcSw hx' hb hown y46 d_M_termHere_64 ?_
  refine zu_ast 9 46 hx' hb hst hK2 (by decide) rfl zsb_46 hf hP hD hS d_M_termHere_67 (fun f H locs hf hP hD hS => ?_)
  refine lv_dup hx' hb d_M_termHere_68 rfl ?_
  refine lv_bipush hx' hb d_M_termHere_69 (v_bip_ok (x := 10) (by decide)) ?_
  have y47 : vk_R "GentleRoadModel" 275 "spoil" (sx 47) s := z4 ("GentleRoadModel", 275, "spoil", 47) zsr_47
  refine W_ldcSw hx' hb hown y47 d_M_termHere_71 ?_
  refine zu_ast 10 47 hx' hb hst hK2 (by decide) rfl zsb_47 hf hP hD hS d_M_termHere_74 (fun f H locs hf hP hD hS => ?_)
  exact s_M_termEnd cx rt hqn hK2 hf h' hl hP hD hS hr
set_option maxRecDepth 20000 in
set_option maxHeartbeats 100000 in
theorem s_M_termHere {Ω : zO} {ad : Nat → Nat} {K : Int → zS → Prop} {σ : zS} (h : q_M_termHere K σ) : zMi Ω y_M_termHere (.code y_M_termHere c_M_termHere 3 (some .int)) rm_M_termHere zLy ad [.ref (ad 41)] σ K := by
  obtain ⟨l, D, dA, A, sx⟩ := Ω
  refine z_ofi0 (lv := [(0, .ref (ad 41))]) (by decide) rfl (Nat.le_of_ble_eq_true rfl) ?_
  intro p e s m args below meth c Q cx rt ls hl hP hD hr
  obtain ⟨hx', hb, hml, hown, hts, hK, hA, hlk, hst⟩ := id cx
  obtain ⟨z1, z2, z3, z4, z5, z6, z7, z8, z9, z10⟩ := id hst
  have hAA : ∀ q, va_A (zw dA ad zLy σ) s.heap.size q → A q := fun q hq => by
    rcases hq with ⟨k, x, hq⟩ | hq
    · exact hD.2 k _ hq
    · exact hA q hq
  refine lv_bipush hx' hb d_M_termHere_0 (v_bip_ok (x := 11) (by decide)) ?_
  refine va_newq (A := va_A (zw dA ad zLy σ) s.heap.size) (C := "java/lang/String") (N' := 11) hx' hb hown (hts _ zcl_M_228) z10.2 hK hP hD.self va_S.rf (fun q hq => Or.inr hq) (zI_nn ⟨by decide, by decide⟩ (by decide)) (zI_cl (x := 11) ⟨by decide, by decide⟩) (by decide) (Nat.le_of_ble_eq_true rfl) (Nat.le_of_ble_eq_true rfl) d_M_termHere_2 (fun q cA H hK2 hP hD' hS' => ?_)
  have hqn : s.heap.size ≤ q := by
    rcases hD'.2 65 _ zu_get with ⟨k, x, hk⟩ | hk
    · exact absurd rfl (zu_ne hD' hk)
    · exact hk
  replace hD := hD'.weaken (B := A) (fun k x _ hx => hAA _ hx)
  have hS : va_S A s.heap H [] := ⟨hS'.1, fun x h1 h2 => hS'.2.1 x h1 (fun z => h2 (hAA _ z)), fun x hx => by cases hx⟩
  clear hD' hS'
  exact s_M_termRow cx rt hqn hK2 (by rw [List.drop_zero]; unfold q_M_termHere at h; exact h) hl hP hD hS hr

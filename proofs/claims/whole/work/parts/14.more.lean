/-! ===== names for values, calls that make nothing, the JDK's own rows ===== -/
theorem zR_b {x : Int} (h : x = 0 ∨ x = 1) : zR x := by
  rcases h with rfl | rfl <;> exact ⟨by decide, by decide⟩
section ZN
variable {Ω : zO} {Γ : zM} {R rm : Room} {nL k n maxL nA idx : Nat} {Q : State → Prop} {Ls : List zL} {ad : Nat → Nat} {σ : zS} {pc : Nat} {lv lv' : List (Nat × Value)} {st st0 As av : List Value} {cc bytes : ByteArray} {own : String} {o : Nat} {y : MethodName} {ret : Option FieldType} {a b : Int}
theorem v_nm (h : ∀ x : Int, x = a → zV Ω Γ R nL Q k n Ls ad σ pc lv (.int (zI x) :: st)) : zV Ω Γ R nL Q k n Ls ad σ pc lv (.int (zI a) :: st) := h a rfl
theorem v_ns (h : ∀ σ1 : zS, σ1 = σ → zV Ω Γ R nL Q k n Ls ad σ1 pc lv st) : zV Ω Γ R nL Q k n Ls ad σ pc lv st := h σ rfl
theorem v_lookup (cx : zC Ω Γ cc nL own) {dflt : Int} {ps : Array (Int × Int)} {len : Nat} {off : Int} (tgt : Nat) (hd : decode cc pc = .ok (.lookupswitch dflt ps, len)) (hp : (ps.toList.zip (ps.toList.drop 1)).all (fun (a, next) => a.1 < next.1) = true) (ho : Op.lookupswitch.offset ps.toList dflt a = off) (ht : (pc : Int) + off = (tgt : Int)) (ha : zR a) (h : zV Ω Γ R nL Q k n Ls ad σ tgt lv st) : zV Ω Γ R nL Q k n Ls ad σ pc lv (.int (zI a) :: st) := by
  obtain ⟨l, D, dA, A, sx⟩ := Ω
  obtain ⟨p, e, s, m, args, below, meth, c⟩ := Γ
  obtain ⟨hx', hb, hml, hown, hts, hK, hA, hlk, hst⟩ := cx
  intro H locs ls hl hP hD hS hr
  exact lv_lookup hx' hb hd hp (by rw [zI_toInt ha]; exact ho) ht (h H locs ls hl hP hD hS hr)
theorem v_ldcS (cx : zC Ω Γ cc nL own) {tx : String} {j : Nat} (hq : (own, idx, tx, j) ∈ zSR) (hd : decode cc pc = .ok (.ldc idx, 2)) (h : zV Ω Γ R nL Q k n Ls ad σ (pc + 2) lv (.ref (Ω.2.2.2.2 j) :: st)) : zV Ω Γ R nL Q k n Ls ad σ pc lv st := by
  obtain ⟨l, D, dA, A, sx⟩ := Ω
  obtain ⟨p, e, s, m, args, below, meth, c⟩ := Γ
  obtain ⟨hx', hb, hml, hown, hts, hK, hA, hlk, hst⟩ := cx
  intro H locs ls hl hP hD hS hr
  exact va_ldcS hx' hb hown (hst.2.2.2.1 _ hq) hd (h H locs ls hl hP hD hS hr)
theorem v_sb (ks : List Nat) (hs : lv_pick lv ks = lv') (h : zV Ω Γ R nL Q k n Ls ad σ pc lv' st) : zV Ω Γ R nL Q k n Ls ad σ pc lv st := by
  obtain ⟨l, D, dA, A, sx⟩ := Ω
  obtain ⟨p, e, s, m, args, below, meth, c⟩ := Γ
  intro H locs ls hl hP hD hS hr
  exact h H locs ls (lv_sub hl ks hs) hP hD hS hr
theorem v_callVi0 {K : Int → zS → Prop} (cx : zC Ω Γ cc nL own) {ci : Nat} {fs : List (Option (Option Nat))} {T : u_T} {N : Nat} (hM : zMi Ω y (.code y bytes maxL ret) rm Ls ad (.ref (ad o) :: As) σ K) (hY : zYv y bytes maxL ret nA) (hln : Cond.methodLink own idx y ∈ zT) (hy : Ls[o]? = some (zOb ci fs)) (hc : zCl[ci]? = some (y.cls, T, N)) (hn : As.length = nA) (hs : st0 = As.reverse ++ .ref (ad o) :: st) (hw : (st.map fun v => v.category).sum ≤ 8) (hR : rm.frames + 1 ≤ R.frames ∧ 8 + (maxL + 11) + rm.locals ≤ R.locals) (hz : rm.cells = 0 ∧ rm.slots = 0) (hf : k ≤ R.cells ∧ n ≤ R.slots) (hd : decode cc pc = .ok (.invokevirtual idx, 3)) (h : ∀ (x : Int) (σ1 : zS), zR x → K x σ1 → zV Ω Γ R nL Q k n Ls ad σ1 (pc + 3) lv (.int (zI x) :: st)) : zV Ω Γ R nL Q k n Ls ad σ pc lv st0 :=
  v_callVi cx hM hY hln hy hc hn hs hw hR (by rw [hz.1, hz.2]; exact hf) hd (fun x σ1 h1 h2 => by rw [hz.1, hz.2]; exact h x σ1 h1 h2)
theorem v_callSi0 {K : Int → zS → Prop} (cx : zC Ω Γ cc nL own) (hM : zMi Ω y (.code y bytes maxL ret) rm Ls ad As σ K) (hY : zYs y bytes maxL ret nA) (hln : Cond.methodLink own idx y ∈ zT) (hn : As.length = nA) (hs : st0 = As.reverse ++ st) (hw : (st.map fun v => v.category).sum ≤ 8) (hR : rm.frames + 1 ≤ R.frames ∧ 8 + (maxL + 11) + rm.locals ≤ R.locals) (hz : rm.cells = 0 ∧ rm.slots = 0) (hf : k ≤ R.cells ∧ n ≤ R.slots) (hd : decode cc pc = .ok (.invokestatic idx, 3)) (h : ∀ (x : Int) (σ1 : zS), zR x → K x σ1 → zV Ω Γ R nL Q k n Ls ad σ1 (pc + 3) lv (.int (zI x) :: st)) : zV Ω Γ R nL Q k n Ls ad σ pc lv st0 :=
  v_callSi cx hM hY hln hn hs hw hR (by rw [hz.1, hz.2]; exact hf) hd (fun x σ1 h1 h2 => by rw [hz.1, hz.2]; exact h x σ1 h1 h2)
theorem v_callNi0 {K : Int → zS → Prop} (cx : zC Ω Γ cc nL own) {host : String} (hM : zMi Ω y (.code y bytes maxL ret) rm Ls ad As σ K) (hY : zYs y bytes maxL ret nA) (hln : Cond.methodLinkNest own idx y host ∈ zNw) (hn : As.length = nA) (hs : st0 = As.reverse ++ st) (hw : (st.map fun v => v.category).sum ≤ 8) (hR : rm.frames + 1 ≤ R.frames ∧ 8 + (maxL + 11) + rm.locals ≤ R.locals) (hz : rm.cells = 0 ∧ rm.slots = 0) (hf : k ≤ R.cells ∧ n ≤ R.slots) (hd : decode cc pc = .ok (.invokestatic idx, 3)) (h : ∀ (x : Int) (σ1 : zS), zR x → K x σ1 → zV Ω Γ R nL Q k n Ls ad σ1 (pc + 3) lv (.int (zI x) :: st)) : zV Ω Γ R nL Q k n Ls ad σ pc lv st0 :=
  v_callNi cx hM hY hln hn hs hw hR (by rw [hz.1, hz.2]; exact hf) hd (fun x σ1 h1 h2 => by rw [hz.1, hz.2]; exact h x σ1 h1 h2)
theorem v_callVz0 {K : Int → zS → Prop} (cx : zC Ω Γ cc nL own) {ci : Nat} {fs : List (Option (Option Nat))} {T : u_T} {N : Nat} (hM : zMz Ω y (.code y bytes maxL ret) rm Ls ad (.ref (ad o) :: As) σ K) (hY : zYv y bytes maxL ret nA) (hln : Cond.methodLink own idx y ∈ zT) (hy : Ls[o]? = some (zOb ci fs)) (hc : zCl[ci]? = some (y.cls, T, N)) (hn : As.length = nA) (hs : st0 = As.reverse ++ .ref (ad o) :: st) (hw : (st.map fun v => v.category).sum ≤ 8) (hR : rm.frames + 1 ≤ R.frames ∧ 8 + (maxL + 11) + rm.locals ≤ R.locals) (hz : rm.cells = 0 ∧ rm.slots = 0) (hf : k ≤ R.cells ∧ n ≤ R.slots) (hd : decode cc pc = .ok (.invokevirtual idx, 3)) (h : ∀ (x : Int) (σ1 : zS), (x = 0 ∨ x = 1) → K x σ1 → zV Ω Γ R nL Q k n Ls ad σ1 (pc + 3) lv (.int (zI x) :: st)) : zV Ω Γ R nL Q k n Ls ad σ pc lv st0 :=
  v_callVz cx hM hY hln hy hc hn hs hw hR (by rw [hz.1, hz.2]; exact hf) hd (fun x σ1 h1 h2 => by rw [hz.1, hz.2]; exact h x σ1 h1 h2)
theorem v_callSz0 {K : Int → zS → Prop} (cx : zC Ω Γ cc nL own) (hM : zMz Ω y (.code y bytes maxL ret) rm Ls ad As σ K) (hY : zYs y bytes maxL ret nA) (hln : Cond.methodLink own idx y ∈ zT) (hn : As.length = nA) (hs : st0 = As.reverse ++ st) (hw : (st.map fun v => v.category).sum ≤ 8) (hR : rm.frames + 1 ≤ R.frames ∧ 8 + (maxL + 11) + rm.locals ≤ R.locals) (hz : rm.cells = 0 ∧ rm.slots = 0) (hf : k ≤ R.cells ∧ n ≤ R.slots) (hd : decode cc pc = .ok (.invokestatic idx, 3)) (h : ∀ (x : Int) (σ1 : zS), (x = 0 ∨ x = 1) → K x σ1 → zV Ω Γ R nL Q k n Ls ad σ1 (pc + 3) lv (.int (zI x) :: st)) : zV Ω Γ R nL Q k n Ls ad σ pc lv st0 :=
  v_callSz cx hM hY hln hn hs hw hR (by rw [hz.1, hz.2]; exact hf) hd (fun x σ1 h1 h2 => by rw [hz.1, hz.2]; exact h x σ1 h1 h2)
theorem v_callNz0 {K : Int → zS → Prop} (cx : zC Ω Γ cc nL own) {host : String} (hM : zMz Ω y (.code y bytes maxL ret) rm Ls ad As σ K) (hY : zYs y bytes maxL ret nA) (hln : Cond.methodLinkNest own idx y host ∈ zNw) (hn : As.length = nA) (hs : st0 = As.reverse ++ st) (hw : (st.map fun v => v.category).sum ≤ 8) (hR : rm.frames + 1 ≤ R.frames ∧ 8 + (maxL + 11) + rm.locals ≤ R.locals) (hz : rm.cells = 0 ∧ rm.slots = 0) (hf : k ≤ R.cells ∧ n ≤ R.slots) (hd : decode cc pc = .ok (.invokestatic idx, 3)) (h : ∀ (x : Int) (σ1 : zS), (x = 0 ∨ x = 1) → K x σ1 → zV Ω Γ R nL Q k n Ls ad σ1 (pc + 3) lv (.int (zI x) :: st)) : zV Ω Γ R nL Q k n Ls ad σ pc lv st0 :=
  v_callNz cx hM hY hln hn hs hw hR (by rw [hz.1, hz.2]; exact hf) hd (fun x σ1 h1 h2 => by rw [hz.1, hz.2]; exact h x σ1 h1 h2)
theorem v_callVv0 {K : zS → Prop} (cx : zC Ω Γ cc nL own) {ci : Nat} {fs : List (Option (Option Nat))} {T : u_T} {N : Nat} (hM : zMv Ω y (.code y bytes maxL ret) rm Ls ad (.ref (ad o) :: As) σ K) (hY : zYv y bytes maxL ret nA) (hln : Cond.methodLink own idx y ∈ zT) (hy : Ls[o]? = some (zOb ci fs)) (hc : zCl[ci]? = some (y.cls, T, N)) (hn : As.length = nA) (hs : st0 = As.reverse ++ .ref (ad o) :: st) (hw : (st.map fun v => v.category).sum ≤ 8) (hR : rm.frames + 1 ≤ R.frames ∧ 8 + (maxL + 11) + rm.locals ≤ R.locals) (hz : rm.cells = 0 ∧ rm.slots = 0) (hf : k ≤ R.cells ∧ n ≤ R.slots) (hd : decode cc pc = .ok (.invokevirtual idx, 3)) (h : ∀ (σ1 : zS), K σ1 → zV Ω Γ R nL Q k n Ls ad σ1 (pc + 3) lv st) : zV Ω Γ R nL Q k n Ls ad σ pc lv st0 :=
  v_callVv cx hM hY hln hy hc hn hs hw hR (by rw [hz.1, hz.2]; exact hf) hd (fun σ1 h1 => by rw [hz.1, hz.2]; exact h σ1 h1)
theorem v_callSv0 {K : zS → Prop} (cx : zC Ω Γ cc nL own) (hM : zMv Ω y (.code y bytes maxL ret) rm Ls ad As σ K) (hY : zYs y bytes maxL ret nA) (hln : Cond.methodLink own idx y ∈ zT) (hn : As.length = nA) (hs : st0 = As.reverse ++ st) (hw : (st.map fun v => v.category).sum ≤ 8) (hR : rm.frames + 1 ≤ R.frames ∧ 8 + (maxL + 11) + rm.locals ≤ R.locals) (hz : rm.cells = 0 ∧ rm.slots = 0) (hf : k ≤ R.cells ∧ n ≤ R.slots) (hd : decode cc pc = .ok (.invokestatic idx, 3)) (h : ∀ (σ1 : zS), K σ1 → zV Ω Γ R nL Q k n Ls ad σ1 (pc + 3) lv st) : zV Ω Γ R nL Q k n Ls ad σ pc lv st0 :=
  v_callSv cx hM hY hln hn hs hw hR (by rw [hz.1, hz.2]; exact hf) hd (fun σ1 h1 => by rw [hz.1, hz.2]; exact h σ1 h1)
theorem v_callNv0 {K : zS → Prop} (cx : zC Ω Γ cc nL own) {host : String} (hM : zMv Ω y (.code y bytes maxL ret) rm Ls ad As σ K) (hY : zYs y bytes maxL ret nA) (hln : Cond.methodLinkNest own idx y host ∈ zNw) (hn : As.length = nA) (hs : st0 = As.reverse ++ st) (hw : (st.map fun v => v.category).sum ≤ 8) (hR : rm.frames + 1 ≤ R.frames ∧ 8 + (maxL + 11) + rm.locals ≤ R.locals) (hz : rm.cells = 0 ∧ rm.slots = 0) (hf : k ≤ R.cells ∧ n ≤ R.slots) (hd : decode cc pc = .ok (.invokestatic idx, 3)) (h : ∀ (σ1 : zS), K σ1 → zV Ω Γ R nL Q k n Ls ad σ1 (pc + 3) lv st) : zV Ω Γ R nL Q k n Ls ad σ pc lv st0 :=
  v_callNv cx hM hY hln hn hs hw hR (by rw [hz.1, hz.2]; exact hf) hd (fun σ1 h1 => by rw [hz.1, hz.2]; exact h σ1 h1)
theorem v_callVr0 {K : Nat → zS → Prop} (cx : zC Ω Γ cc nL own) {ci : Nat} {fs : List (Option (Option Nat))} {T : u_T} {N : Nat} (hM : zMr Ω y (.code y bytes maxL ret) rm Ls ad (.ref (ad o) :: As) σ K) (hY : zYv y bytes maxL ret nA) (hln : Cond.methodLink own idx y ∈ zT) (hy : Ls[o]? = some (zOb ci fs)) (hc : zCl[ci]? = some (y.cls, T, N)) (hn : As.length = nA) (hs : st0 = As.reverse ++ .ref (ad o) :: st) (hw : (st.map fun v => v.category).sum ≤ 8) (hR : rm.frames + 1 ≤ R.frames ∧ 8 + (maxL + 11) + rm.locals ≤ R.locals) (hz : rm.cells = 0 ∧ rm.slots = 0) (hf : k ≤ R.cells ∧ n ≤ R.slots) (hd : decode cc pc = .ok (.invokevirtual idx, 3)) (h : ∀ (x : Nat) (σ1 : zS), K x σ1 → zV Ω Γ R nL Q k n Ls ad σ1 (pc + 3) lv (.ref x :: st)) : zV Ω Γ R nL Q k n Ls ad σ pc lv st0 :=
  v_callVr cx hM hY hln hy hc hn hs hw hR (by rw [hz.1, hz.2]; exact hf) hd (fun x σ1 h1 => by rw [hz.1, hz.2]; exact h x σ1 h1)
theorem v_callSr0 {K : Nat → zS → Prop} (cx : zC Ω Γ cc nL own) (hM : zMr Ω y (.code y bytes maxL ret) rm Ls ad As σ K) (hY : zYs y bytes maxL ret nA) (hln : Cond.methodLink own idx y ∈ zT) (hn : As.length = nA) (hs : st0 = As.reverse ++ st) (hw : (st.map fun v => v.category).sum ≤ 8) (hR : rm.frames + 1 ≤ R.frames ∧ 8 + (maxL + 11) + rm.locals ≤ R.locals) (hz : rm.cells = 0 ∧ rm.slots = 0) (hf : k ≤ R.cells ∧ n ≤ R.slots) (hd : decode cc pc = .ok (.invokestatic idx, 3)) (h : ∀ (x : Nat) (σ1 : zS), K x σ1 → zV Ω Γ R nL Q k n Ls ad σ1 (pc + 3) lv (.ref x :: st)) : zV Ω Γ R nL Q k n Ls ad σ pc lv st0 :=
  v_callSr cx hM hY hln hn hs hw hR (by rw [hz.1, hz.2]; exact hf) hd (fun x σ1 h1 => by rw [hz.1, hz.2]; exact h x σ1 h1)
theorem v_callNr0 {K : Nat → zS → Prop} (cx : zC Ω Γ cc nL own) {host : String} (hM : zMr Ω y (.code y bytes maxL ret) rm Ls ad As σ K) (hY : zYs y bytes maxL ret nA) (hln : Cond.methodLinkNest own idx y host ∈ zNw) (hn : As.length = nA) (hs : st0 = As.reverse ++ st) (hw : (st.map fun v => v.category).sum ≤ 8) (hR : rm.frames + 1 ≤ R.frames ∧ 8 + (maxL + 11) + rm.locals ≤ R.locals) (hz : rm.cells = 0 ∧ rm.slots = 0) (hf : k ≤ R.cells ∧ n ≤ R.slots) (hd : decode cc pc = .ok (.invokestatic idx, 3)) (h : ∀ (x : Nat) (σ1 : zS), K x σ1 → zV Ω Γ R nL Q k n Ls ad σ1 (pc + 3) lv (.ref x :: st)) : zV Ω Γ R nL Q k n Ls ad σ pc lv st0 :=
  v_callNr cx hM hY hln hn hs hw hR (by rw [hz.1, hz.2]; exact hf) hd (fun x σ1 h1 => by rw [hz.1, hz.2]; exact h x σ1 h1)
end ZN
abbrev c_J_fill2 : ByteArray := prog_37_method_103_code
def y_J_fill2 : MethodName := ⟨"java/util/Arrays", "fill", "([II)V"⟩
abbrev c_J_fill4 : ByteArray := prog_37_method_104_code
def y_J_fill4 : MethodName := ⟨"java/util/Arrays", "fill", "([IIII)V"⟩
abbrev c_J_rc : ByteArray := prog_37_method_30_code
def y_J_rc : MethodName := ⟨"java/util/Arrays", "rangeCheck", "(III)V"⟩
theorem yk_J_fill2 : zYs y_J_fill2 c_J_fill2 4 none 2 := ⟨ztc1 63 rfl rfl, ztc1 62 (by decide +kernel) rfl, ztc1 4 (by decide +kernel) rfl, by decide +kernel⟩
theorem yk_J_fill4 : zYs y_J_fill4 c_J_fill4 5 none 4 := ⟨ztc4 167 rfl rfl, ztc4 166 (by decide +kernel) rfl, ztc1 4 (by decide +kernel) rfl, by decide +kernel⟩
theorem yk_J_rc : zYs y_J_rc c_J_rc 3 none 3 := ⟨ztc4 170 rfl rfl, ztc4 169 (by decide +kernel) rfl, ztc1 4 (by decide +kernel) rfl, by decide +kernel⟩
theorem lk_J_13 : Cond.methodLink "java/util/Arrays" 13 y_J_rc ∈ zT := ztc4 168 (by decide +kernel) rfl
theorem zcopy : Cond.native arraycopyName ∈ zT ∧ Cond.static arraycopyName ∈ zT ∧ Cond.initialized "java/lang/System" ∈ zT := ⟨ztc1 68 (by decide +kernel) rfl, ztc1 67 (by decide +kernel) rfl, ztc1 5 (by decide +kernel) rfl⟩
theorem zmath_max : Cond.static Lib.Math.max.name ∈ zT ∧ Cond.initialized "java/lang/Math" ∈ zT ∧ Cond.code Lib.Math.max.name Lib.Math.max.code 2 (some .int) ∈ zT := ⟨ztc4 226 (by decide +kernel) rfl, ztc1 28 (by decide +kernel) rfl, ztc4 227 (by decide +kernel) rfl⟩
theorem zmath_min : Cond.static Lib.Math.min.name ∈ zT ∧ Cond.initialized "java/lang/Math" ∈ zT ∧ Cond.code Lib.Math.min.name Lib.Math.min.code 2 (some .int) ∈ zT := ⟨ztc5 4 (by decide +kernel) rfl, ztc1 28 (by decide +kernel) rfl, ztc5 5 (by decide +kernel) rfl⟩
theorem zmath_abs : Cond.static Lib.Math.abs.name ∈ zT ∧ Cond.initialized "java/lang/Math" ∈ zT ∧ Cond.code Lib.Math.abs.name Lib.Math.abs.code 1 (some .int) ∈ zT := ⟨ztc7 81 (by decide +kernel) rfl, ztc1 28 (by decide +kernel) rfl, ztc7 82 (by decide +kernel) rfl⟩
theorem lk_G_87 : Cond.methodLink "GentleRoad$Grader" 87 Lib.Math.max.name ∈ zT := ztc6 65 (by decide +kernel) rfl
theorem lk_G_92 : Cond.methodLink "GentleRoad$Grader" 92 Lib.Math.min.name ∈ zT := ztc6 52 (by decide +kernel) rfl
theorem lk_H_26 : Cond.methodLink "GentleRoad$Heap" 26 y_J_fill4 ∈ zT := ztc4 165 (by decide +kernel) rfl
theorem lk_L_18 : Cond.methodLink "GentleRoad$Land" 18 y_J_fill2 ∈ zT := ztc1 61 (by decide +kernel) rfl
theorem lk_L_27 : Cond.methodLink "GentleRoad$Land" 27 arraycopyName ∈ zT := ztc1 66 (by decide +kernel) rfl
theorem lk_L_60 : Cond.methodLink "GentleRoad$Land" 60 y_J_fill4 ∈ zT := ztc6 15 (by decide +kernel) rfl
theorem lk_N_83 : Cond.methodLink "GentleRoad$Planner" 83 y_J_fill2 ∈ zT := ztc6 171 (by decide +kernel) rfl
theorem lk_N_127 : Cond.methodLink "GentleRoad$Planner" 127 Lib.Math.min.name ∈ zT := ztc7 9 (by decide +kernel) rfl
theorem lk_S_42 : Cond.methodLink "GentleRoad$Streams" 42 y_J_fill2 ∈ zT := ztc7 136 (by decide +kernel) rfl
theorem lk_S_51 : Cond.methodLink "GentleRoad$Streams" 51 Lib.Math.max.name ∈ zT := ztc7 141 (by decide +kernel) rfl
theorem lk_U_87 : Cond.methodLink "GentleRoad$Survey" 87 Lib.Math.max.name ∈ zT := ztc7 38 (by decide +kernel) rfl
theorem lk_U_121 : Cond.methodLink "GentleRoad$Survey" 121 Lib.Math.abs.name ∈ zT := ztc7 80 (by decide +kernel) rfl
theorem lk_U_133 : Cond.methodLink "GentleRoad$Survey" 133 y_J_fill2 ∈ zT := ztc7 162 (by decide +kernel) rfl
theorem lk_X_37 : Cond.methodLink "GentleRoad$Text" 37 y_J_fill2 ∈ zT := ztc2 217 (by decide +kernel) rfl
theorem lk_X_46 : Cond.methodLink "GentleRoad$Text" 46 arraycopyName ∈ zT := ztc2 219 (by decide +kernel) rfl
theorem lk_W_132 : Cond.methodLink "GentleRoad$Ways" 132 y_J_fill2 ∈ zT := ztc4 115 (by decide +kernel) rfl
theorem lk_W_177 : Cond.methodLink "GentleRoad$Ways" 177 Lib.Math.min.name ∈ zT := ztc5 215 (by decide +kernel) rfl
section
variable {Ω : zO} {Γ : zM} {R : Room} {nL k n : Nat} {Q : State → Prop} {Ls : List zL} {ad : Nat → Nat} {σ : zS} {pc : Nat} {lv : List (Nat × Value)} {st : List Value} {cc : ByteArray}
theorem gs_R_157 (cx : zC Ω Γ cc nL "GentleRoad") (hd : decode cc pc = .ok (.getstatic 157, 3)) (h : zV Ω Γ R nL Q k n Ls ad σ (pc + 3) lv (.ref (Ω.2.2.2.2 0) :: st)) : zV Ω Γ R nL Q k n Ls ad σ pc lv st := v_gets (q := ("TERM_LEAST", 0, [1, 0, 0, 0, 0, 0, 0, 0, 0, 0, 0])) cx (List.mem_of_getElem? (i := 0) rfl) (ztc4 30 (by decide +kernel) rfl) hd h
theorem gs_R_160 (cx : zC Ω Γ cc nL "GentleRoad") (hd : decode cc pc = .ok (.getstatic 160, 3)) (h : zV Ω Γ R nL Q k n Ls ad σ (pc + 3) lv (.ref (Ω.2.2.2.2 1) :: st)) : zV Ω Γ R nL Q k n Ls ad σ pc lv st := v_gets (q := ("TERM_MOST", 1, [99, 4, 99, 9, 9, 99, 99, 3, 9, 9, 30])) cx (List.mem_of_getElem? (i := 1) rfl) (ztc4 31 (by decide +kernel) rfl) hd h
theorem gs_L_24 (cx : zC Ω Γ cc nL "GentleRoad$Land") (hd : decode cc pc = .ok (.getstatic 24, 3)) (h : zV Ω Γ R nL Q k n Ls ad σ (pc + 3) lv (.ref (Ω.2.2.2.2 2) :: st)) : zV Ω Γ R nL Q k n Ls ad σ pc lv st := v_getsN (q := ("TERM_FIRST", 2, [20, 1, 2, 2, 1, 20, 50, 1, 1, 1, 5])) cx (List.mem_of_getElem? (i := 2) rfl) (List.mem_of_getElem? (i := 0) rfl) hd h
theorem gs_L_47 (cx : zC Ω Γ cc nL "GentleRoad$Land") (hd : decode cc pc = .ok (.getstatic 47, 3)) (h : zV Ω Γ R nL Q k n Ls ad σ (pc + 3) lv (.ref (Ω.2.2.2.2 3) :: st)) : zV Ω Γ R nL Q k n Ls ad σ pc lv st := v_getsN (q := ("ROW_MOVE", 3, [-1, -1, 0, 1, 1, 1, 0, -1])) cx (List.mem_of_getElem? (i := 3) rfl) (List.mem_of_getElem? (i := 1) rfl) hd h
theorem gs_L_50 (cx : zC Ω Γ cc nL "GentleRoad$Land") (hd : decode cc pc = .ok (.getstatic 50, 3)) (h : zV Ω Γ R nL Q k n Ls ad σ (pc + 3) lv (.ref (Ω.2.2.2.2 4) :: st)) : zV Ω Γ R nL Q k n Ls ad σ pc lv st := v_getsN (q := ("COLUMN_MOVE", 4, [0, 1, 1, 1, 0, -1, -1, -1])) cx (List.mem_of_getElem? (i := 4) rfl) (List.mem_of_getElem? (i := 2) rfl) hd h
theorem gs_X_43 (cx : zC Ω Γ cc nL "GentleRoad$Text") (hd : decode cc pc = .ok (.getstatic 43, 3)) (h : zV Ω Γ R nL Q k n Ls ad σ (pc + 3) lv (.ref (Ω.2.2.2.2 2) :: st)) : zV Ω Γ R nL Q k n Ls ad σ pc lv st := v_getsN (q := ("TERM_FIRST", 2, [20, 1, 2, 2, 1, 20, 50, 1, 1, 1, 5])) cx (List.mem_of_getElem? (i := 2) rfl) (List.mem_of_getElem? (i := 3) rfl) hd h
theorem gs_X_95 (cx : zC Ω Γ cc nL "GentleRoad$Text") (hd : decode cc pc = .ok (.getstatic 95, 3)) (h : zV Ω Γ R nL Q k n Ls ad σ (pc + 3) lv (.ref (Ω.2.2.2.2 0) :: st)) : zV Ω Γ R nL Q k n Ls ad σ pc lv st := v_getsN (q := ("TERM_LEAST", 0, [1, 0, 0, 0, 0, 0, 0, 0, 0, 0, 0])) cx (List.mem_of_getElem? (i := 0) rfl) (List.mem_of_getElem? (i := 4) rfl) hd h
theorem gs_X_98 (cx : zC Ω Γ cc nL "GentleRoad$Text") (hd : decode cc pc = .ok (.getstatic 98, 3)) (h : zV Ω Γ R nL Q k n Ls ad σ (pc + 3) lv (.ref (Ω.2.2.2.2 1) :: st)) : zV Ω Γ R nL Q k n Ls ad σ pc lv st := v_getsN (q := ("TERM_MOST", 1, [99, 4, 99, 9, 9, 99, 99, 3, 9, 9, 30])) cx (List.mem_of_getElem? (i := 1) rfl) (List.mem_of_getElem? (i := 5) rfl) hd h
end
theorem zsr_10 : ("GentleRoad$Text", 65, "land", 10) ∈ zSR := List.mem_of_getElem? (i := 0) rfl
theorem zsr_11 : ("GentleRoad$Text", 78, "row", 11) ∈ zSR := List.mem_of_getElem? (i := 1) rfl
theorem zsr_12 : ("GentleRoad$Text", 86, "wet", 12) ∈ zSR := List.mem_of_getElem? (i := 2) rfl
theorem zsr_13 : ("GentleRoad$Text", 118, "grade", 13) ∈ zSR := List.mem_of_getElem? (i := 3) rfl
theorem zsr_14 : ("GentleRoad$Text", 120, "bend", 14) ∈ zSR := List.mem_of_getElem? (i := 4) rfl
theorem zsr_15 : ("GentleRoad$Text", 122, "flat", 15) ∈ zSR := List.mem_of_getElem? (i := 5) rfl
theorem zsr_16 : ("GentleRoad$Text", 124, "rise", 16) ∈ zSR := List.mem_of_getElem? (i := 6) rfl
theorem zsr_17 : ("GentleRoad$Text", 126, "turn", 17) ∈ zSR := List.mem_of_getElem? (i := 7) rfl
theorem zsr_18 : ("GentleRoad$Text", 128, "hair", 18) ∈ zSR := List.mem_of_getElem? (i := 8) rfl
theorem zsr_19 : ("GentleRoad$Text", 130, "bore", 19) ∈ zSR := List.mem_of_getElem? (i := 9) rfl
theorem zsr_20 : ("GentleRoad$Text", 132, "depth", 20) ∈ zSR := List.mem_of_getElem? (i := 10) rfl
theorem zsr_21 : ("GentleRoad$Text", 134, "dig", 21) ∈ zSR := List.mem_of_getElem? (i := 11) rfl
theorem zsr_22 : ("GentleRoad$Text", 136, "fill", 22) ∈ zSR := List.mem_of_getElem? (i := 12) rfl
theorem zsr_23 : ("GentleRoad$Text", 137, "spoil", 23) ∈ zSR := List.mem_of_getElem? (i := 13) rfl
theorem zsr_24 : ("GentleRoad", 115, "the text is wrong", 24) ∈ zSR := List.mem_of_getElem? (i := 14) rfl
theorem zsr_25 : ("GentleRoad", 332, "there is no such place", 25) ∈ zSR := List.mem_of_getElem? (i := 15) rfl
theorem zsr_26 : ("GentleRoad", 337, "there is nothing of that number", 26) ∈ zSR := List.mem_of_getElem? (i := 16) rfl
theorem zsr_27 : ("GentleRoad", 340, "the number is out of its bounds", 27) ∈ zSR := List.mem_of_getElem? (i := 17) rfl
theorem zsr_28 : ("GentleRoad", 198, "there is no such road", 28) ∈ zSR := List.mem_of_getElem? (i := 18) rfl
theorem zsr_29 : ("GentleRoad", 342, "both are one", 29) ∈ zSR := List.mem_of_getElem? (i := 19) rfl
theorem zsr_30 : ("GentleRoad", 347, "the road is not built", 30) ∈ zSR := List.mem_of_getElem? (i := 20) rfl
theorem zsr_31 : ("GentleRoad", 221, "there is no grading", 31) ∈ zSR := List.mem_of_getElem? (i := 21) rfl
theorem zsr_32 : ("GentleRoad", 227, "no act is remembered", 32) ∈ zSR := List.mem_of_getElem? (i := 22) rfl
theorem zsr_33 : ("GentleRoad", 263, "the tape tells no places to go round", 33) ∈ zSR := List.mem_of_getElem? (i := 23) rfl
theorem zsr_34 : ("GentleRoadModel", 285, "land", 34) ∈ zSR := List.mem_of_getElem? (i := 24) rfl
theorem zsr_35 : ("GentleRoadModel", 246, "row", 35) ∈ zSR := List.mem_of_getElem? (i := 25) rfl
theorem zsr_36 : ("GentleRoadModel", 277, "wet", 36) ∈ zSR := List.mem_of_getElem? (i := 26) rfl
theorem zsr_37 : ("GentleRoadModel", 255, "grade", 37) ∈ zSR := List.mem_of_getElem? (i := 27) rfl
theorem zsr_38 : ("GentleRoadModel", 257, "bend", 38) ∈ zSR := List.mem_of_getElem? (i := 28) rfl
theorem zsr_39 : ("GentleRoadModel", 259, "flat", 39) ∈ zSR := List.mem_of_getElem? (i := 29) rfl
theorem zsr_40 : ("GentleRoadModel", 261, "rise", 40) ∈ zSR := List.mem_of_getElem? (i := 30) rfl
theorem zsr_41 : ("GentleRoadModel", 263, "turn", 41) ∈ zSR := List.mem_of_getElem? (i := 31) rfl
theorem zsr_42 : ("GentleRoadModel", 265, "hair", 42) ∈ zSR := List.mem_of_getElem? (i := 32) rfl
theorem zsr_43 : ("GentleRoadModel", 267, "bore", 43) ∈ zSR := List.mem_of_getElem? (i := 33) rfl
theorem zsr_44 : ("GentleRoadModel", 269, "depth", 44) ∈ zSR := List.mem_of_getElem? (i := 34) rfl
theorem zsr_45 : ("GentleRoadModel", 271, "dig", 45) ∈ zSR := List.mem_of_getElem? (i := 35) rfl
theorem zsr_46 : ("GentleRoadModel", 273, "fill", 46) ∈ zSR := List.mem_of_getElem? (i := 36) rfl
theorem zsr_47 : ("GentleRoadModel", 275, "spoil", 47) ∈ zSR := List.mem_of_getElem? (i := 37) rfl
theorem zsb_10 : (10, [108, 97, 110, 100]) ∈ zSB := List.mem_of_getElem? (i := 0) rfl
theorem zsb_11 : (11, [114, 111, 119]) ∈ zSB := List.mem_of_getElem? (i := 1) rfl
theorem zsb_12 : (12, [119, 101, 116]) ∈ zSB := List.mem_of_getElem? (i := 2) rfl
theorem zsb_13 : (13, [103, 114, 97, 100, 101]) ∈ zSB := List.mem_of_getElem? (i := 3) rfl
theorem zsb_14 : (14, [98, 101, 110, 100]) ∈ zSB := List.mem_of_getElem? (i := 4) rfl
theorem zsb_15 : (15, [102, 108, 97, 116]) ∈ zSB := List.mem_of_getElem? (i := 5) rfl
theorem zsb_16 : (16, [114, 105, 115, 101]) ∈ zSB := List.mem_of_getElem? (i := 6) rfl
theorem zsb_17 : (17, [116, 117, 114, 110]) ∈ zSB := List.mem_of_getElem? (i := 7) rfl
theorem zsb_18 : (18, [104, 97, 105, 114]) ∈ zSB := List.mem_of_getElem? (i := 8) rfl
theorem zsb_19 : (19, [98, 111, 114, 101]) ∈ zSB := List.mem_of_getElem? (i := 9) rfl
theorem zsb_20 : (20, [100, 101, 112, 116, 104]) ∈ zSB := List.mem_of_getElem? (i := 10) rfl
theorem zsb_21 : (21, [100, 105, 103]) ∈ zSB := List.mem_of_getElem? (i := 11) rfl
theorem zsb_22 : (22, [102, 105, 108, 108]) ∈ zSB := List.mem_of_getElem? (i := 12) rfl
theorem zsb_23 : (23, [115, 112, 111, 105, 108]) ∈ zSB := List.mem_of_getElem? (i := 13) rfl
theorem zsb_34 : (34, [108, 97, 110, 100]) ∈ zSB := List.mem_of_getElem? (i := 14) rfl
theorem zsb_35 : (35, [114, 111, 119]) ∈ zSB := List.mem_of_getElem? (i := 15) rfl
theorem zsb_36 : (36, [119, 101, 116]) ∈ zSB := List.mem_of_getElem? (i := 16) rfl
theorem zsb_37 : (37, [103, 114, 97, 100, 101]) ∈ zSB := List.mem_of_getElem? (i := 17) rfl
theorem zsb_38 : (38, [98, 101, 110, 100]) ∈ zSB := List.mem_of_getElem? (i := 18) rfl
theorem zsb_39 : (39, [102, 108, 97, 116]) ∈ zSB := List.mem_of_getElem? (i := 19) rfl
theorem zsb_40 : (40, [114, 105, 115, 101]) ∈ zSB := List.mem_of_getElem? (i := 20) rfl
theorem zsb_41 : (41, [116, 117, 114, 110]) ∈ zSB := List.mem_of_getElem? (i := 21) rfl
theorem zsb_42 : (42, [104, 97, 105, 114]) ∈ zSB := List.mem_of_getElem? (i := 22) rfl
theorem zsb_43 : (43, [98, 111, 114, 101]) ∈ zSB := List.mem_of_getElem? (i := 23) rfl
theorem zsb_44 : (44, [100, 101, 112, 116, 104]) ∈ zSB := List.mem_of_getElem? (i := 24) rfl
theorem zsb_45 : (45, [100, 105, 103]) ∈ zSB := List.mem_of_getElem? (i := 25) rfl
theorem zsb_46 : (46, [102, 105, 108, 108]) ∈ zSB := List.mem_of_getElem? (i := 26) rfl
theorem zsb_47 : (47, [115, 112, 111, 105, 108]) ∈ zSB := List.mem_of_getElem? (i := 27) rfl
theorem d_J_fill2_0 : decode c_J_fill2 0 = .ok (.iconst 0, 1) := by decide +kernel
theorem d_J_fill2_1 : decode c_J_fill2 1 = .ok (.istore_n 2, 1) := by decide +kernel
theorem d_J_fill2_2 : decode c_J_fill2 2 = .ok (.aload_n 0, 1) := by decide +kernel
theorem d_J_fill2_3 : decode c_J_fill2 3 = .ok (.arraylength, 1) := by decide +kernel
theorem d_J_fill2_4 : decode c_J_fill2 4 = .ok (.istore_n 3, 1) := by decide +kernel
theorem d_J_fill2_5 : decode c_J_fill2 5 = .ok (.iload_n 2, 1) := by decide +kernel
theorem d_J_fill2_6 : decode c_J_fill2 6 = .ok (.iload_n 3, 1) := by decide +kernel
theorem d_J_fill2_7 : decode c_J_fill2 7 = .ok (.if_icmp .ge 13, 3) := by decide +kernel
theorem d_J_fill2_10 : decode c_J_fill2 10 = .ok (.aload_n 0, 1) := by decide +kernel
theorem d_J_fill2_11 : decode c_J_fill2 11 = .ok (.iload_n 2, 1) := by decide +kernel
theorem d_J_fill2_12 : decode c_J_fill2 12 = .ok (.iload_n 1, 1) := by decide +kernel
theorem d_J_fill2_13 : decode c_J_fill2 13 = .ok (.iastore, 1) := by decide +kernel
theorem d_J_fill2_14 : decode c_J_fill2 14 = .ok (.iinc 2 1, 3) := by decide +kernel
theorem d_J_fill2_17 : decode c_J_fill2 17 = .ok (.goto (-12), 3) := by decide +kernel
theorem d_J_fill2_20 : decode c_J_fill2 20 = .ok (.return_, 1) := by decide +kernel
theorem d_J_fill4_0 : decode c_J_fill4 0 = .ok (.aload_n 0, 1) := by decide +kernel
theorem d_J_fill4_1 : decode c_J_fill4 1 = .ok (.arraylength, 1) := by decide +kernel
theorem d_J_fill4_2 : decode c_J_fill4 2 = .ok (.iload_n 1, 1) := by decide +kernel
theorem d_J_fill4_3 : decode c_J_fill4 3 = .ok (.iload_n 2, 1) := by decide +kernel
theorem d_J_fill4_4 : decode c_J_fill4 4 = .ok (.invokestatic 13, 3) := by decide +kernel
theorem d_J_fill4_7 : decode c_J_fill4 7 = .ok (.iload_n 1, 1) := by decide +kernel
theorem d_J_fill4_8 : decode c_J_fill4 8 = .ok (.istore 4, 2) := by decide +kernel
theorem d_J_fill4_10 : decode c_J_fill4 10 = .ok (.iload 4, 2) := by decide +kernel
theorem d_J_fill4_12 : decode c_J_fill4 12 = .ok (.iload_n 2, 1) := by decide +kernel
theorem d_J_fill4_13 : decode c_J_fill4 13 = .ok (.if_icmp .ge 14, 3) := by decide +kernel
theorem d_J_fill4_16 : decode c_J_fill4 16 = .ok (.aload_n 0, 1) := by decide +kernel
theorem d_J_fill4_17 : decode c_J_fill4 17 = .ok (.iload 4, 2) := by decide +kernel
theorem d_J_fill4_19 : decode c_J_fill4 19 = .ok (.iload_n 3, 1) := by decide +kernel
theorem d_J_fill4_20 : decode c_J_fill4 20 = .ok (.iastore, 1) := by decide +kernel
theorem d_J_fill4_21 : decode c_J_fill4 21 = .ok (.iinc 4 1, 3) := by decide +kernel
theorem d_J_fill4_24 : decode c_J_fill4 24 = .ok (.goto (-14), 3) := by decide +kernel
theorem d_J_fill4_27 : decode c_J_fill4 27 = .ok (.return_, 1) := by decide +kernel
theorem d_J_rc_0 : decode c_J_rc 0 = .ok (.iload_n 1, 1) := by decide +kernel
theorem d_J_rc_1 : decode c_J_rc 1 = .ok (.iload_n 2, 1) := by decide +kernel
theorem d_J_rc_2 : decode c_J_rc 2 = .ok (.if_icmp .le 44, 3) := by decide +kernel
theorem d_J_rc_5 : decode c_J_rc 5 = .ok (.new 43, 3) := by decide +kernel
theorem d_J_rc_8 : decode c_J_rc 8 = .ok (.dup, 1) := by decide +kernel
theorem d_J_rc_9 : decode c_J_rc 9 = .ok (.new 45, 3) := by decide +kernel
theorem d_J_rc_12 : decode c_J_rc 12 = .ok (.dup, 1) := by decide +kernel
theorem d_J_rc_13 : decode c_J_rc 13 = .ok (.invokespecial 47, 3) := by decide +kernel
theorem d_J_rc_16 : decode c_J_rc 16 = .ok (.ldc 48, 2) := by decide +kernel
theorem d_J_rc_18 : decode c_J_rc 18 = .ok (.invokevirtual 50, 3) := by decide +kernel
theorem d_J_rc_21 : decode c_J_rc 21 = .ok (.iload_n 1, 1) := by decide +kernel
theorem d_J_rc_22 : decode c_J_rc 22 = .ok (.invokevirtual 54, 3) := by decide +kernel
theorem d_J_rc_25 : decode c_J_rc 25 = .ok (.ldc 57, 2) := by decide +kernel
theorem d_J_rc_27 : decode c_J_rc 27 = .ok (.invokevirtual 50, 3) := by decide +kernel
theorem d_J_rc_30 : decode c_J_rc 30 = .ok (.iload_n 2, 1) := by decide +kernel
theorem d_J_rc_31 : decode c_J_rc 31 = .ok (.invokevirtual 54, 3) := by decide +kernel
theorem d_J_rc_34 : decode c_J_rc 34 = .ok (.ldc 59, 2) := by decide +kernel
theorem d_J_rc_36 : decode c_J_rc 36 = .ok (.invokevirtual 50, 3) := by decide +kernel
theorem d_J_rc_39 : decode c_J_rc 39 = .ok (.invokevirtual 61, 3) := by decide +kernel
theorem d_J_rc_42 : decode c_J_rc 42 = .ok (.invokespecial 65, 3) := by decide +kernel
theorem d_J_rc_45 : decode c_J_rc 45 = .ok (.athrow, 1) := by decide +kernel
theorem d_J_rc_46 : decode c_J_rc 46 = .ok (.iload_n 1, 1) := by decide +kernel
theorem d_J_rc_47 : decode c_J_rc 47 = .ok (.ifCond .ge 12, 3) := by decide +kernel
theorem d_J_rc_50 : decode c_J_rc 50 = .ok (.new 68, 3) := by decide +kernel
theorem d_J_rc_53 : decode c_J_rc 53 = .ok (.dup, 1) := by decide +kernel
theorem d_J_rc_54 : decode c_J_rc 54 = .ok (.iload_n 1, 1) := by decide +kernel
theorem d_J_rc_55 : decode c_J_rc 55 = .ok (.invokespecial 70, 3) := by decide +kernel
theorem d_J_rc_58 : decode c_J_rc 58 = .ok (.athrow, 1) := by decide +kernel
theorem d_J_rc_59 : decode c_J_rc 59 = .ok (.iload_n 2, 1) := by decide +kernel
theorem d_J_rc_60 : decode c_J_rc 60 = .ok (.iload_n 0, 1) := by decide +kernel
theorem d_J_rc_61 : decode c_J_rc 61 = .ok (.if_icmp .le 12, 3) := by decide +kernel
theorem d_J_rc_64 : decode c_J_rc 64 = .ok (.new 68, 3) := by decide +kernel
theorem d_J_rc_67 : decode c_J_rc 67 = .ok (.dup, 1) := by decide +kernel
theorem d_J_rc_68 : decode c_J_rc 68 = .ok (.iload_n 2, 1) := by decide +kernel
theorem d_J_rc_69 : decode c_J_rc 69 = .ok (.invokespecial 70, 3) := by decide +kernel
theorem d_J_rc_72 : decode c_J_rc 72 = .ok (.athrow, 1) := by decide +kernel
theorem d_J_rc_73 : decode c_J_rc 73 = .ok (.return_, 1) := by decide +kernel
/-- places a to b of a row are v -/
def zFill (σ : zS) (o : Nat) (a b v : Int) : zS := zW σ o (fun c => if a ≤ c ∧ c < b then v else σ o c)
theorem zFill_step {σ : zS} {o : Nat} {a i v : Int} (h : a ≤ i) : zU (zFill σ o a i v) o i v = zFill σ o a (i + 1) v := by
  funext x c
  unfold zU zFill zW
  by_cases hx : x = o
  · subst hx
    by_cases hc : c = i
    · subst hc
      simp
      intro q
      omega
    · simp only [true_and, hc, if_false, if_true, and_false]
      have e : (a ≤ c ∧ c < i) ↔ (a ≤ c ∧ c < i + 1) := by omega
      simp only [e]
  · simp [hx]
theorem zFill_0 (σ : zS) (o : Nat) (a v : Int) : zFill σ o a a v = σ := by
  funext x c
  unfold zFill zW
  by_cases hx : x = o
  · subst hx
    have e : ¬ (a ≤ c ∧ c < a) := by omega
    simp [e]
  · simp [hx]
def q_J_fill2 (o N : Nat) (v : Int) (K : zS → Prop) (σ : zS) : Prop := K (zFill σ o 0 N v)
abbrev rm_J_fill2 : Room := { frames := 0, cells := 0, slots := 0, locals := 0 }
set_option maxRecDepth 20000 in
theorem s_J_fill2 {Ω : zO} {ad : Nat → Nat} {o N : Nat} {v : Int} {K : zS → Prop} {σ : zS} (hy : zLy[o]? = some (zAr 1 N)) (hN : N ≤ 2147483647) (hv : zR v) (h : q_J_fill2 o N v K σ) : zMv Ω y_J_fill2 (.code y_J_fill2 c_J_fill2 4 none) rm_J_fill2 zLy ad [.ref (ad o), .int (zI v)] σ K := by
  refine z_ofv (lv := [(0, .ref (ad o)), (1, .int (zI v))]) (by decide) rfl (Nat.le_of_ble_eq_true rfl) ?_
  intro Γ Q cx rt
  refine v_iconst cx d_J_fill2_0 ?_
  refine v_istore_n (lv' := [(0, .ref (ad o)), (1, .int (zI v)), (2, .int (zI 0))]) cx d_J_fill2_1 rfl (by decide) rfl rfl ?_
  refine v_aload_n cx 0 d_J_fill2_2 rfl rfl ?_
  refine v_alen cx hy d_J_fill2_3 ?_
  refine v_istore_n (lv' := [(0, .ref (ad o)), (1, .int (zI v)), (2, .int (zI 0)), (3, .int (zI N))]) cx d_J_fill2_4 rfl (by decide) rfl rfl ?_
  have L : ∀ (m : Nat) (i : Int), 0 ≤ i → i ≤ N → N - i < m → zV Ω Γ rm_J_fill2 4 Q 0 0 zLy ad (zFill σ o 0 i v) 5 [(0, .ref (ad o)), (1, .int (zI v)), (2, .int (zI i)), (3, .int (zI N))] [] := by
    intro m
    induction m with
    | zero => intro i _ _ hm; exact absurd hm (by omega)
    | succ m ih =>
      intro i h0 h1 hm
      refine v_iload_n cx 2 d_J_fill2_5 rfl rfl ?_
      refine v_iload_n cx 3 d_J_fill2_6 rfl rfl ?_
      refine v_icmp_ge cx 20 d_J_fill2_7 (by decide) ⟨by omega, by omega⟩ ⟨by omega, by omega⟩ (fun c => ?_) (fun c => ?_)
      · have e : i = N := by omega
        subst e
        exact rt _ _ _ _ _ (Nat.le_of_ble_eq_true rfl) (Nat.le_of_ble_eq_true rfl) d_J_fill2_20 h
      · refine v_aload_n cx 0 d_J_fill2_10 rfl rfl ?_
        refine v_iload_n cx 2 d_J_fill2_11 rfl rfl ?_
        refine v_iload_n cx 1 d_J_fill2_12 rfl rfl ?_
        refine v_iast cx hy (by omega) h0 c hv d_J_fill2_13 ?_
        rw [zFill_step h0]
        refine v_iinc (lv' := [(0, .ref (ad o)), (1, .int (zI v)), (2, .int (zI (i + 1))), (3, .int (zI N))]) cx 2 d_J_fill2_14 rfl (by decide) rfl rfl ?_
        refine v_goto cx 5 d_J_fill2_17 (by decide) ?_
        exact ih (i + 1) (by omega) (by omega) (by omega)
  have L0 := L (N + 1) 0 (by omega) (by omega) (by omega)
  rw [zFill_0] at L0
  exact L0
def q_J_fill4 (o N : Nat) (a b v : Int) (K : zS → Prop) (σ : zS) : Prop := (0 ≤ a ∧ a ≤ b ∧ b ≤ N) ∧ K (zFill σ o a b v)
abbrev rm_J_rc : Room := { frames := 0, cells := 0, slots := 0, locals := 0 }
abbrev rm_J_fill4 : Room := { frames := 1, cells := 0, slots := 0, locals := 22 }
set_option maxRecDepth 20000 in
theorem s_J_rc {Ω : zO} {ad : Nat → Nat} {n a b : Int} {K : zS → Prop} {σ : zS} (hn : zR n) (ha : zR a) (hb : zR b) (h0 : 0 ≤ a) (h1 : a ≤ b) (h2 : b ≤ n) (h : K σ) : zMv Ω y_J_rc (.code y_J_rc c_J_rc 3 none) rm_J_rc zLy ad [.int (zI n), .int (zI a), .int (zI b)] σ K := by
  refine z_ofv (lv := [(0, .int (zI n)), (1, .int (zI a)), (2, .int (zI b))]) (by decide) rfl (Nat.le_of_ble_eq_true rfl) ?_
  intro Γ Q cx rt
  refine v_iload_n cx 1 d_J_rc_0 rfl rfl ?_
  refine v_iload_n cx 2 d_J_rc_1 rfl rfl ?_
  refine v_icmp_le cx 46 d_J_rc_2 (by decide) ha hb (fun c => ?_) (fun c => absurd c (by omega))
  refine v_iload_n cx 1 d_J_rc_46 rfl rfl ?_
  refine v_if_ge cx 59 d_J_rc_47 (by decide) ha (fun c => ?_) (fun c => absurd c (by omega))
  refine v_iload_n cx 2 d_J_rc_59 rfl rfl ?_
  refine v_iload_n cx 0 d_J_rc_60 rfl rfl ?_
  refine v_icmp_le cx 73 d_J_rc_61 (by decide) hb hn (fun c => ?_) (fun c => absurd c (by omega))
  exact rt _ _ _ _ _ (Nat.le_of_ble_eq_true rfl) (Nat.le_of_ble_eq_true rfl) d_J_rc_73 h
set_option maxRecDepth 20000 in
theorem s_J_fill4 {Ω : zO} {ad : Nat → Nat} {o N : Nat} {a b v : Int} {K : zS → Prop} {σ : zS} (hy : zLy[o]? = some (zAr 1 N)) (hN : N ≤ 2147483647) (ha : zR a) (hb : zR b) (hv : zR v) (h : q_J_fill4 o N a b v K σ) : zMv Ω y_J_fill4 (.code y_J_fill4 c_J_fill4 5 none) rm_J_fill4 zLy ad [.ref (ad o), .int (zI a), .int (zI b), .int (zI v)] σ K := by
  refine z_ofv (lv := [(0, .ref (ad o)), (1, .int (zI a)), (2, .int (zI b)), (3, .int (zI v))]) (by decide) rfl (Nat.le_of_ble_eq_true rfl) ?_
  intro Γ Q cx rt
  obtain ⟨⟨h0, h1, h2⟩, h⟩ := h
  refine v_aload_n cx 0 d_J_fill4_0 rfl rfl ?_
  refine v_alen cx hy d_J_fill4_1 ?_
  refine v_iload_n cx 1 d_J_fill4_2 rfl rfl ?_
  refine v_iload_n cx 2 d_J_fill4_3 rfl rfl ?_
  refine v_callSv0 (st := []) cx (s_J_rc (K := fun u => u = σ) ⟨by omega, by omega⟩ ha hb h0 h1 h2 rfl) yk_J_rc lk_J_13 rfl rfl (Nat.le_of_ble_eq_true rfl) ⟨Nat.le_of_ble_eq_true rfl, Nat.le_of_ble_eq_true rfl⟩ ⟨rfl, rfl⟩ ⟨Nat.le_of_ble_eq_true rfl, Nat.le_of_ble_eq_true rfl⟩ d_J_fill4_4 (fun u hu => ?_)
  subst hu
  refine v_iload_n cx 1 d_J_fill4_7 rfl rfl ?_
  refine v_istore (lv' := [(0, .ref (ad o)), (1, .int (zI a)), (2, .int (zI b)), (3, .int (zI v)), (4, .int (zI a))]) cx d_J_fill4_8 (by decide) rfl rfl ?_
  have L : ∀ (m : Nat) (i : Int), a ≤ i → i ≤ b → b - i < m → zV Ω Γ rm_J_fill4 5 Q 0 0 zLy ad (zFill u o a i v) 10 [(0, .ref (ad o)), (1, .int (zI a)), (2, .int (zI b)), (3, .int (zI v)), (4, .int (zI i))] [] := by
    intro m
    induction m with
    | zero => intro i _ _ hm; exact absurd hm (by omega)
    | succ m ih =>
      intro i h0' h1' hm
      refine v_iload cx 4 d_J_fill4_10 rfl ?_
      refine v_iload_n cx 2 d_J_fill4_12 rfl rfl ?_
      refine v_icmp_ge cx 27 d_J_fill4_13 (by decide) ⟨by omega, by omega⟩ hb (fun c => ?_) (fun c => ?_)
      · have e : i = b := by omega
        subst e
        exact rt _ _ _ _ _ (Nat.le_of_ble_eq_true rfl) (Nat.le_of_ble_eq_true rfl) d_J_fill4_27 h
      · refine v_aload_n cx 0 d_J_fill4_16 rfl rfl ?_
        refine v_iload cx 4 d_J_fill4_17 rfl ?_
        refine v_iload_n cx 3 d_J_fill4_19 rfl rfl ?_
        refine v_iast cx hy (by omega) (by omega) (by omega) hv d_J_fill4_20 ?_
        rw [zFill_step h0']
        refine v_iinc (lv' := [(0, .ref (ad o)), (1, .int (zI a)), (2, .int (zI b)), (3, .int (zI v)), (4, .int (zI (i + 1)))]) cx 4 d_J_fill4_21 rfl (by decide) rfl rfl ?_
        refine v_goto cx 10 d_J_fill4_24 (by decide) ?_
        exact ih (i + 1) (by omega) (by omega) (by omega)
  have L0 := L ((b - a).toNat + 1) a (by omega) h1 (by omega)
  rw [zFill_0] at L0
  exact L0

/-! ===== rows that read and write the world ===== -/
section ZH
variable {Ω : zO} {Γ : zM} {R : Room} {nL k n : Nat} {Q : State → Prop} {Ls : List zL} {ad : Nat → Nat} {σ : zS} {pc : Nat} {lv lv' : List (Nat × Value)} {st : List Value} {cc : ByteArray} {own : String} {a b i : Int} {o : Nat}
theorem zi_cast {x : Int} (h : 0 ≤ x) : ((x.toNat : Nat) : Int) = x := Int.toNat_of_nonneg h
theorem zrow_upd {f : Int → Int} {i x : Int} (h : 0 ≤ i) : upd (fun j => zI (f (j : Nat))) i.toNat (zI x) = fun j : Nat => zI ((fun c : Int => if c = i then x else f c) (j : Nat)) := by
  funext j
  unfold upd
  by_cases e : j = i.toNat
  · have e2 : ((j : Nat) : Int) = i := by rw [e]; exact zi_cast h
    simp [e, zi_cast h]
  · have e2 : ((j : Nat) : Int) ≠ i := by omega
    simp [e, e2]
theorem zU_at (σ : zS) (o : Nat) (i x : Int) : zU σ o i x o = fun c : Int => if c = i then x else σ o c := by funext c; simp [zU]
theorem v_iald (cx : zC Ω Γ cc nL own) {N : Nat} (hy : Ls[o]? = some (zAr 1 N)) (hN : N ≤ 2147483648) (h0 : 0 ≤ i) (h1 : i < N) (hd : decode cc pc = .ok (.iaload, 1)) (h : zV Ω Γ R nL Q k n Ls ad σ (pc + 1) lv (.int (zI (σ o i)) :: st)) : zV Ω Γ R nL Q k n Ls ad σ pc lv (.int (zI i) :: .ref (ad o) :: st) := by
  obtain ⟨l, D, dA, A, sx⟩ := Ω
  obtain ⟨p, e, s, m, args, below, meth, c⟩ := Γ
  obtain ⟨hx', hb, hml, hown, hts, hK, hA, hlk, hst⟩ := cx
  intro H locs ls hl hP hD hS hr
  have hz : zR i := ⟨by omega, by omega⟩
  refine va_iald hx' hb hK hP o 0 (zw_get hy) rfl (zI_in h0 h1 hN) hd ?_
  rw [zI_clamp hz, zi_cast h0]
  exact h H locs ls hl hP hD hS hr
theorem v_zald (cx : zC Ω Γ cc nL own) {N : Nat} (hy : Ls[o]? = some (zAr 2 N)) (hN : N ≤ 2147483648) (h0 : 0 ≤ i) (h1 : i < N) (hd : decode cc pc = .ok (.baload, 1)) (h : zV Ω Γ R nL Q k n Ls ad σ (pc + 1) lv (.int (zI (σ o i)) :: st)) : zV Ω Γ R nL Q k n Ls ad σ pc lv (.int (zI i) :: .ref (ad o) :: st) := by
  obtain ⟨l, D, dA, A, sx⟩ := Ω
  obtain ⟨p, e, s, m, args, below, meth, c⟩ := Γ
  obtain ⟨hx', hb, hml, hown, hts, hK, hA, hlk, hst⟩ := cx
  intro H locs ls hl hP hD hS hr
  have hz : zR i := ⟨by omega, by omega⟩
  refine va_zald hx' hb hK hP o 1 (zw_get hy) rfl (zI_in h0 h1 hN) hd ?_
  rw [zI_clamp hz, zi_cast h0]
  exact h H locs ls hl hP hD hS hr
theorem v_lald (cx : zC Ω Γ cc nL own) {N : Nat} (hy : Ls[o]? = some (zLo N)) (hN : N ≤ 2147483648) (h0 : 0 ≤ i) (h1 : i < N) (hd : decode cc pc = .ok (.laload, 1)) (h : zV Ω Γ R nL Q k n Ls ad σ (pc + 1) lv (.long (zJ (σ o i)) :: st)) : zV Ω Γ R nL Q k n Ls ad σ pc lv (.int (zI i) :: .ref (ad o) :: st) := by
  obtain ⟨l, D, dA, A, sx⟩ := Ω
  obtain ⟨p, e, s, m, args, below, meth, c⟩ := Γ
  obtain ⟨hx', hb, hml, hown, hts, hK, hA, hlk, hst⟩ := cx
  intro H locs ls hl hP hD hS hr
  have hz : zR i := ⟨by omega, by omega⟩
  refine va_lald hx' hb hK hP o 2 (zw_get hy) rfl (zI_in h0 h1 hN) hd ?_
  rw [zI_clamp hz, zi_cast h0]
  exact h H locs ls hl hP hD hS hr
theorem v_alen (cx : zC Ω Γ cc nL own) {N : Nat} (hy : Ls[o]? = some (zAr 1 N)) (hd : decode cc pc = .ok (.arraylength, 1)) (h : zV Ω Γ R nL Q k n Ls ad σ (pc + 1) lv (.int (zI (N : Int)) :: st)) : zV Ω Γ R nL Q k n Ls ad σ pc lv (.ref (ad o) :: st) := by
  obtain ⟨l, D, dA, A, sx⟩ := Ω
  obtain ⟨p, e, s, m, args, below, meth, c⟩ := Γ
  obtain ⟨hx', hb, hml, hown, hts, hK, hA, hlk, hst⟩ := cx
  intro H locs ls hl hP hD hS hr
  exact va_alen hx' hb hK hP o 0 (zw_get hy) rfl (zI_nat N).symm hd (h H locs ls hl hP hD hS hr)
theorem v_iast (cx : zC Ω Γ cc nL own) {N : Nat} (hy : Ls[o]? = some (zAr 1 N)) (hN : N ≤ 2147483648) (h0 : 0 ≤ i) (h1 : i < N) (ha : zR a) (hd : decode cc pc = .ok (.iastore, 1)) (h : zV Ω Γ R nL Q k n Ls ad (zU σ o i a) (pc + 1) lv st) : zV Ω Γ R nL Q k n Ls ad σ pc lv (.int (zI a) :: .int (zI i) :: .ref (ad o) :: st) := by
  obtain ⟨l, D, dA, A, sx⟩ := Ω
  obtain ⟨p, e, s, m, args, below, meth, c⟩ := Γ
  obtain ⟨hx', hb, hml, hown, hts, hK, hA, hlk, hst⟩ := cx
  intro H locs ls hl hP hD hS hr
  have hz : zR i := ⟨by omega, by omega⟩
  refine va_iast hx' hb hK hP hD hS o 0 (zw_get hy) rfl (zI_in h0 h1 hN) hd ?_
  rw [zI_clamp hz, zrow_upd h0]
  intro H1 locs1 hP1 hD1 hS1
  have e : (zw dA ad Ls σ).set o (ad o, .inl (dA 1, N, .inl (fun j : Nat => zI ((fun c : Int => if c = i then a else σ o c) (j : Nat))))) = zw dA ad Ls (zU σ o i a) := zw_put hy (by rw [zU_at]; rfl) (fun q hq => zU_row hq)
  rw [e] at hP1 hD1
  exact h H1 locs1 ls hl hP1 hD1 hS1 (zRG_U hr ha)
theorem z_nar01 {x : Int} (h : x = 0 ∨ x = 1) : vp_nar .boolean (zI x) = zI x := by
  rcases h with rfl | rfl <;> rfl
theorem v_zast (cx : zC Ω Γ cc nL own) {N : Nat} (hy : Ls[o]? = some (zAr 2 N)) (hN : N ≤ 2147483648) (h0 : 0 ≤ i) (h1 : i < N) (ha : a = 0 ∨ a = 1) (hd : decode cc pc = .ok (.bastore, 1)) (h : zV Ω Γ R nL Q k n Ls ad (zU σ o i a) (pc + 1) lv st) : zV Ω Γ R nL Q k n Ls ad σ pc lv (.int (zI a) :: .int (zI i) :: .ref (ad o) :: st) := by
  obtain ⟨l, D, dA, A, sx⟩ := Ω
  obtain ⟨p, e, s, m, args, below, meth, c⟩ := Γ
  obtain ⟨hx', hb, hml, hown, hts, hK, hA, hlk, hst⟩ := cx
  intro H locs ls hl hP hD hS hr
  have hz : zR i := ⟨by omega, by omega⟩
  refine va_zast hx' hb hK hP hD hS o 1 (zw_get hy) rfl (zI_in h0 h1 hN) hd ?_
  rw [zI_clamp hz, z_nar01 ha, zrow_upd h0]
  intro H1 locs1 hP1 hD1 hS1
  have e : (zw dA ad Ls σ).set o (ad o, .inl (dA 2, N, .inl (fun j : Nat => zI ((fun c : Int => if c = i then a else σ o c) (j : Nat))))) = zw dA ad Ls (zU σ o i a) := zw_put hy (by rw [zU_at]; rfl) (fun q hq => zU_row hq)
  rw [e] at hP1 hD1
  exact h H1 locs1 ls hl hP1 hD1 hS1 (zRG_U hr (by rcases ha with rfl | rfl <;> exact ⟨by decide, by decide⟩))
theorem v_last (cx : zC Ω Γ cc nL own) {N : Nat} (hy : Ls[o]? = some (zLo N)) (hN : N ≤ 2147483648) (h0 : 0 ≤ i) (h1 : i < N) (ha : zR a) (hd : decode cc pc = .ok (.lastore, 1)) (h : zV Ω Γ R nL Q k n Ls ad (zU σ o i a) (pc + 1) lv st) : zV Ω Γ R nL Q k n Ls ad σ pc lv (.long (zJ a) :: .int (zI i) :: .ref (ad o) :: st) := by
  obtain ⟨l, D, dA, A, sx⟩ := Ω
  obtain ⟨p, e, s, m, args, below, meth, c⟩ := Γ
  obtain ⟨hx', hb, hml, hown, hts, hK, hA, hlk, hst⟩ := cx
  intro H locs ls hl hP hD hS hr
  have hz : zR i := ⟨by omega, by omega⟩
  refine va_last hx' hb hK hP hD hS o 2 (zw_get hy) rfl (zI_in h0 h1 hN) hd ?_
  have e0 : vp_updL (fun j : Nat => zJ (σ o (j : Nat))) i.toNat (zJ a) = fun j : Nat => zJ ((fun c : Int => if c = i then a else σ o c) (j : Nat)) := by
    funext j
    unfold vp_updL
    by_cases e : j = i.toNat
    · simp [e, zi_cast h0]
    · have e2 : ((j : Nat) : Int) ≠ i := by omega
      simp [e, e2]
  rw [zI_clamp hz, e0]
  intro H1 locs1 hP1 hD1 hS1
  have e : (zw dA ad Ls σ).set o (ad o, .inl (dA 3, N, .inr (.inl (fun j : Nat => zJ ((fun c : Int => if c = i then a else σ o c) (j : Nat)))))) = zw dA ad Ls (zU σ o i a) := zw_put hy (by rw [zU_at]; rfl) (fun q hq => zU_row hq)
  rw [e] at hP1 hD1
  exact h H1 locs1 ls hl hP1 hD1 hS1 (zRG_U hr ha)
/-- a field: the class by its number, its place j -/
theorem v_geti (cx : zC Ω Γ cc nL own) {ci idx : Nat} {fs : List (Option (Option Nat))} {C : String} {T : u_T} {N : Nat} (j : Nat) (hy : Ls[o]? = some (zOb ci fs)) (hj : fs[j]? = some none) (hc : zCl[ci]? = some (C, T, N)) (hk : j < N) (hin : ∀ w ∈ u_ws C T N, w ∈ zT) (hw : Cond.fieldLink own idx (T j).1 (T j).2.1 (T j).2.2.1 ∈ zT) (hd : decode cc pc = .ok (.getfield idx, 3)) (h : zV Ω Γ R nL Q k n Ls ad σ (pc + 3) lv (.int (zI (σ o (j : Int))) :: st)) : zV Ω Γ R nL Q k n Ls ad σ pc lv (.ref (ad o) :: st) := by
  obtain ⟨l, D, dA, A, sx⟩ := Ω
  obtain ⟨p, e, s, m, args, below, meth, c⟩ := Γ
  obtain ⟨hx', hb, hml, hown, hts, hK, hA, hlk, hst⟩ := cx
  intro H locs ls hl hP hD hS hr
  exact va_get hx' hb hts hin hown hK hP o (zw_get hy) hc j hk (hts _ hw) (fun _ q => q) (by rw [zF_get, hj]; simp) hd (h H locs ls hl hP hD hS hr)
theorem v_getr (cx : zC Ω Γ cc nL own) {ci idx r : Nat} {fs : List (Option (Option Nat))} {C : String} {T : u_T} {N : Nat} (j : Nat) (hy : Ls[o]? = some (zOb ci fs)) (hj : fs[j]? = some (some (some r))) (hc : zCl[ci]? = some (C, T, N)) (hk : j < N) (hin : ∀ w ∈ u_ws C T N, w ∈ zT) (hw : Cond.fieldLink own idx (T j).1 (T j).2.1 (T j).2.2.1 ∈ zT) (hd : decode cc pc = .ok (.getfield idx, 3)) (h : zV Ω Γ R nL Q k n Ls ad σ (pc + 3) lv (.ref (ad r) :: st)) : zV Ω Γ R nL Q k n Ls ad σ pc lv (.ref (ad o) :: st) := by
  obtain ⟨l, D, dA, A, sx⟩ := Ω
  obtain ⟨p, e, s, m, args, below, meth, c⟩ := Γ
  obtain ⟨hx', hb, hml, hown, hts, hK, hA, hlk, hst⟩ := cx
  intro H locs ls hl hP hD hS hr
  exact va_get hx' hb hts hin hown hK hP o (zw_get hy) hc j hk (hts _ hw) (fun _ q => q) (by rw [zF_get, hj]; simp) hd (h H locs ls hl hP hD hS hr)
theorem v_puti (cx : zC Ω Γ cc nL own) {ci idx : Nat} {fs : List (Option (Option Nat))} {C : String} {T : u_T} {N : Nat} (j : Nat) (ty0 : Nat → FieldType) (hty : ∀ x, x < N → parseFieldDescriptor (T x).2.2.1 = some (ty0 x)) (hnm : ∀ x, x < N → ∀ y, y < N → x ≠ y → (T x).2.1 ≠ (T y).2.1) (hy : Ls[o]? = some (zOb ci fs)) (hj : fs[j]? = some none) (hc : zCl[ci]? = some (C, T, N)) (hk : j < N) (hin : ∀ w ∈ u_ws C T N, w ∈ zT) (hw : Cond.fieldLink own idx (T j).1 (T j).2.1 (T j).2.2.1 ∈ zT) (hf : (T j).2.2.2 = false) {ty : FieldType} (ht : parseFieldDescriptor (T j).2.2.1 = some ty) (hn : narrow ty (.int (zI a)) = .int (zI a)) (hfit : fits ty (.int (zI a)) = true) (ha : zR a) (hd : decode cc pc = .ok (.putfield idx, 3)) (h : zV Ω Γ R nL Q k n Ls ad (zU σ o (j : Int) a) (pc + 3) lv st) : zV Ω Γ R nL Q k n Ls ad σ pc lv (.int (zI a) :: .ref (ad o) :: st) := by
  obtain ⟨l, D, dA, A, sx⟩ := Ω
  obtain ⟨p, e, s, m, args, below, meth, c⟩ := Γ
  obtain ⟨hx', hb, hml, hown, hts, hK, hA, hlk, hst⟩ := cx
  intro H locs ls hl hP hD hS hr
  have hlen : j < (zF ad (σ o) 0 fs).length := by
    have q := zF_get ad (σ o) fs 0 j
    rw [hj] at q
    exact (List.getElem?_eq_some_iff.mp q).1
  refine va_put hx' hb hts hin ty0 hty hnm hown hK hP hD hS o (zw_get hy) hc j hk (hts _ hw) (fun _ q => q) hf ht hn hfit hlen hd ?_
  intro H1 locs1 hP1 hD1 hS1
  have e2 : (zF ad (σ o) 0 fs).set j (.int (zI a)) = zF ad (zU σ o (j : Int) a o) 0 fs := zF_put hj (by rw [zU_s]) (fun x hx => zU_k (by omega))
  have e : (zw dA ad Ls σ).set o (ad o, .inr (ci, (zF ad (σ o) 0 fs).set j (.int (zI a)))) = zw dA ad Ls (zU σ o (j : Int) a) := zw_put hy (by rw [e2]; rfl) (fun q hq => zU_row hq)
  rw [e] at hP1 hD1
  exact h H1 locs1 ls hl hP1 hD1 hS1 (zRG_U hr ha)
/-- a static row of the class -/
theorem v_gets (cx : zC Ω Γ cc nL own) {idx : Nat} {q : String × Nat × List Int} (hq : q ∈ zSA) (hw : Cond.fieldLink own idx "GentleRoad" q.1 "[I" ∈ zT) (hd : decode cc pc = .ok (.getstatic idx, 3)) (h : zV Ω Γ R nL Q k n Ls ad σ (pc + 3) lv (.ref (Ω.2.2.2.2 q.2.1) :: st)) : zV Ω Γ R nL Q k n Ls ad σ pc lv st := by
  obtain ⟨l, D, dA, A, sx⟩ := Ω
  obtain ⟨p, e, s, m, args, below, meth, c⟩ := Γ
  obtain ⟨hx', hb, hml, hown, hts, hK, hA, hlk, hst⟩ := cx
  intro H locs ls hl hP hD hS hr
  exact va_gets hx' hb (hst.2.2.1 q hq).1 hS hown (hts _ hw) (fun _ q => q) hd (h H locs ls hl hP hD hS hr)
theorem v_getsN (cx : zC Ω Γ cc nL own) {idx : Nat} {q : String × Nat × List Int} (hq : q ∈ zSA) (hw : Cond.fieldLinkNest own idx "GentleRoad" q.1 "[I" "GentleRoad" ∈ zNw) (hd : decode cc pc = .ok (.getstatic idx, 3)) (h : zV Ω Γ R nL Q k n Ls ad σ (pc + 3) lv (.ref (Ω.2.2.2.2 q.2.1) :: st)) : zV Ω Γ R nL Q k n Ls ad σ pc lv st := by
  obtain ⟨l, D, dA, A, sx⟩ := Ω
  obtain ⟨p, e, s, m, args, below, meth, c⟩ := Γ
  obtain ⟨hx', hb, hml, hown, hts, hK, hA, hlk, hst⟩ := cx
  intro H locs ls hl hP hD hS hr
  exact va_getsN hx' hb (hst.2.2.1 q hq).1 hS hown ((hst.2.1 _ hw).use (zNw_k _ hw).2) (fun _ q => q) hd (h H locs ls hl hP hD hS hr)
theorem v_sald (cx : zC Ω Γ cc nL own) {q : String × Nat × List Int} (hq : q ∈ zSA) (hN : q.2.2.length ≤ 2147483648) (h0 : 0 ≤ i) (h1 : i < q.2.2.length) (hd : decode cc pc = .ok (.iaload, 1)) (h : zV Ω Γ R nL Q k n Ls ad σ (pc + 1) lv (.int (zI (q.2.2.getD i.toNat 0)) :: st)) : zV Ω Γ R nL Q k n Ls ad σ pc lv (.int (zI i) :: .ref (Ω.2.2.2.2 q.2.1) :: st) := by
  obtain ⟨l, D, dA, A, sx⟩ := Ω
  obtain ⟨p, e, s, m, args, below, meth, c⟩ := Γ
  obtain ⟨hx', hb, hml, hown, hts, hK, hA, hlk, hst⟩ := cx
  intro H locs ls hl hP hD hS hr
  have hz : zR i := ⟨by omega, by omega⟩
  obtain ⟨-, a2, a3, a4⟩ := hst.2.2.1 q hq
  refine va_sld hx' hb a2 a3 a4 hS (zI_in h0 h1 hN) hd ?_
  rw [zI_clamp hz]
  exact h H locs ls hl hP hD hS hr
end ZH

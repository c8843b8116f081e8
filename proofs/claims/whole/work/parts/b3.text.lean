/-! ===== the text: the class reads rows, size, all ===== -/
section TX
variable {t : Int → Int} {N a : Int} {σ : zS}
theorem emod_s {i W : Int} (hW : 0 < W) : (i + 1) % W = if i % W + 1 = W then 0 else i % W + 1 := by
  have e := Int.emod_add_emod i W 1
  have b0 := Int.emod_nonneg i (show W ≠ 0 by omega)
  have b1 := Int.emod_lt_of_pos i hW
  rw [← e]
  by_cases c : i % W + 1 = W
  · rw [if_pos c, c]
    exact Int.emod_self
  · rw [if_neg c]
    exact Int.emod_eq_of_lt (by omega) (by omega)
theorem CX_q {S : List Nat} {τ : zS} (h : CX t N a σ) (hq : zQ S σ τ) (h1 : 2 ∉ S ∧ 6 ∉ S) : CX t N a τ := by
  unfold CX
  rw [hq 2 h1.1, hq 6 h1.2]
  exact h
theorem t_X_readRows {K : Int → zS → Prop} {c : Int → Int} {T : Int → Prop} {W D : Int} {k : Int → (Int → Int) → Out} (hx : CS t N a c T σ) (hl : LW c) (e0 : c 0 = W) (e1 : c 1 = D) (hW : 2 ≤ W ∧ W ≤ 9) (hD : 2 ≤ D ∧ D ≤ 9) (h1 : ∀ τ a2 c2, zQ [6, 7] σ τ → CS t N a2 c2 T τ → LW c2 → c2 0 = W → sRows t N W k (W * D).toNat 0 a c = k a2 c2 → K 1 τ) (h0 : ∀ τ b, zQ [6, 7] σ τ → τ 6 5 = b → 0 ≤ b → sRows t N W k (W * D).toNat 0 a c = er b → K 0 τ) : q_X_readRows K σ := by
  have hG := LW_GW hl (by omega)
  have dn := hG.n
  rw [e0, e1] at dn
  unfold q_X_readRows
  generalize eO : sRows t N W k (W * D).toNat 0 a c = O at *
  intro x2 e2 x4 e4
  rw [hx.2.1 0 (by decide) (by decide), e0] at e2
  rw [hx.2.1 1 (by decide) (by decide), e1, e2] at e4
  rw [e2, e4]
  refine ⟨fun r i s => zQ [6, 7] σ s ∧ 0 ≤ i ∧ i ≤ W * D ∧ r = i % W ∧ ∃ a c, CS t N a c T s ∧ LW c ∧ c 0 = W ∧ c 1 = D ∧ sRows t N W k (W * D - i).toNat i a c = O, fun _ i _ => (81 - i).toNat, ⟨zQ_r _ _, by decide, by omega, by rw [Int.zero_emod], a, c, hx, hl, e0, e1, by rw [show W * D - 0 = W * D by omega]; exact eO⟩, ?_⟩
  clear hx hl e0 e1 eO hG
  rintro r i s ⟨qs, i0, i1, er', a, c, ⟨hx, h7, h8⟩, hl, e0, e1, eO⟩ - -
  have hG := LW_GW hl (by omega)
  have b0 := Int.emod_nonneg i (show W ≠ 0 by omega)
  have b1 := Int.emod_lt_of_pos i (show 0 < W by omega)
  refine ⟨zRi (by omega) (by omega), fun ge => ?_, fun lt => ?_⟩
  · rw [show (W * D - i).toNat = 0 by omega] at eO
    exact h1 s a c qs ⟨hx, h7, h8⟩ hl e0 eO.symm
  have a0 := hx.2.2.2.1
  have sb := sk_b (t := t) hx.2.2.2.2.1
  rw [show (W * D - i).toNat = (W * D - (i + 1)).toNat + 1 by omega] at eO
  have eO1 : O = sHead t N (i % W = 0) a (fun a1 => sNum t N 0 99 a1 (fun v a2 => sRows t N W k (W * D - (i + 1)).toNat (i + 1) a2 (up c (13 + i) v))) := eO.symm
  have es := emod_s (i := i) (W := W) (by omega)
  refine ⟨fun s' => zQ [6, 7] σ s' ∧ s' 7 = s 7 ∧ s' 8 = s 8 ∧ ∃ a1, CX t N a1 s' ∧ O = sNum t N 0 99 a1 (fun v a2 => sRows t N W k (W * D - (i + 1)).toNat (i + 1) a2 (up c (13 + i) v)), fun s' hs' => ?_, fun ne => ⟨qs, rfl, rfl, a, hx, eO1.trans (oif_f (by rw [← er']; exact ne))⟩, fun e => ?_⟩
  · obtain ⟨q', f7, f8, a1, hx1, eO2⟩ := hs'
    have sb1 := sk_b (t := t) hx1.2.2.2.2.1
    have a10 := hx1.2.2.2.1
    refine ⟨zRi (by omega) (by omega), t_X_readNumber hx1 (by decide) (by omega) (fun ok τ q hx2 e7 => n1b ⟨zRi (by omega) (by omega), ?_⟩) (fun no τ q h5 => n0b (h0 τ _ (zQ_t q' (zQ_m q (by decide))) h5 (by omega) (eO2.trans (oif_f no))))⟩
    have nxt : ∀ r', r' = (i + 1) % W → (zQ [6, 7] σ τ ∧ 0 ≤ i + 1 ∧ i + 1 ≤ W * D ∧ r' = (i + 1) % W ∧ ∃ a c, CS t N a c T τ ∧ LW c ∧ c 0 = W ∧ c 1 = D ∧ sRows t N W k (W * D - (i + 1)).toNat (i + 1) a c = O) ∧ zR (i + 1) ∧ (81 - (i + 1)).toNat < (81 - i).toNat := fun r' e' => by
      refine ⟨⟨zQ_t q' q, by omega, by omega, e', _, up c (13 + i) _, ⟨hx2, ?_, ?_⟩, LW_height hl ⟨i0, by rw [e0, e1]; exact lt⟩ ok.2.1 ok.2.2, by rw [up_o (by omega)]; exact e0, by rw [up_o (by omega)]; exact e1, (eO2.trans (oif_t ok)).symm⟩, zRi (by omega) (by omega), by omega⟩
      · rw [e7, f7]; exact up_row h7
      · intro j j0 j1
        rw [q 8 (by decide), f8]
        exact h8 j j0 j1
    refine ⟨fun ne x17 e17 => nxt x17 (by rw [es, if_neg (by omega)]; omega), fun eq => nxt 0 (by rw [es, if_pos (by omega)])⟩
  · have eO2 := eO1.trans (oif_t (by rw [← er']; exact e))
    refine t_X_readMark hx (fun mk τ q hx1 => n1a ?_) (fun nm τ q h5 => n0a (h0 τ _ (zQ_t qs (zQ_m q (by decide))) h5 (by omega) (eO2.trans (oif_f nm))))
    have eO3 := eO2.trans (oif_t mk)
    have sb1 := sk_b (t := t) hx1.2.2.2.2.1
    refine t_X_readWord hx1 lt_row (by decide) (fun hP τ2 q2 hx2 => n1b ⟨zQ_t qs (zQ_t (zQ_m q (by decide)) (zQ_m q2 (by decide))), by rw [q2 7 (by decide), q 7 (by decide)], by rw [q2 8 (by decide), q 8 (by decide)], _, hx2, eO3.trans (oif_t hP)⟩) (fun nP τ2 q2 _ h52 => n0b (h0 τ2 _ (zQ_t qs (zQ_t (zQ_m q (by decide)) (zQ_m q2 (by decide)))) h52 (by omega) (eO3.trans (oif_f nP))))
theorem LW_first {w d : Int} (hw : 2 ≤ w ∧ w ≤ 9) (hd : 2 ≤ d ∧ d ≤ 9) : LW (up (up c0L 0 w) 1 d) := by
  have e : ∀ j, j ≠ 0 → j ≠ 1 → up (up c0L 0 w) 1 d j = c0L j := fun j j0 j1 => by rw [up_o j1, up_o j0]
  have z : ∀ j, 13 ≤ j → c0L j = 0 := fun j hj => by
    unfold c0L
    rw [if_neg (by omega)]
  refine Or.inl ⟨⟨?_, ?_, fun p p0 p1 => ?_, fun p p0 p1 => ?_⟩, fun r r0 r1 => Or.inl ?_⟩
  · rw [up_s, up_o (by decide), up_s]
    omega
  · rw [e 2 (by decide) (by decide), e 3 (by decide) (by decide), e 4 (by decide) (by decide), e 5 (by decide) (by decide), e 6 (by decide) (by decide), e 7 (by decide) (by decide), e 8 (by decide) (by decide), e 9 (by decide) (by decide), e 10 (by decide) (by decide), e 11 (by decide) (by decide), e 12 (by decide) (by decide)]
    decide
  · rw [e _ (by omega) (by omega), z _ (by omega)]
    decide
  · rw [e _ (by omega) (by omega), z _ (by omega)]
    exact Or.inl rfl
  · rw [e _ (by omega) (by omega), z _ (by omega)]
theorem t_X_read {K : Int → zS → Prop} (h2 : ∀ i, 0 ≤ i → i < 400 → σ 2 i = t i) (h11 : σ 1 1 = N) (hN : 0 ≤ N ∧ N ≤ 400) (h1 : ∀ τ c, zQ [6, 7, 8] σ τ → sLand t N = (-1, c) → LW c → (∀ j, 0 ≤ j → j < 499 → τ 7 j = c j) → K (-1) τ) (h0 : ∀ τ b, zQ [6, 7, 8] σ τ → 0 ≤ b → sLand t N = er b → K b τ) : q_X_read K σ := by
  unfold q_X_read q_T_size
  intro s3 e3 s4 e4
  refine t_J_fill2 (M := 499) rfl (fun s6 e6 => ?_)
  have q6 : zQ [6, 7, 8] σ s6 := by
    rw [e6, e4, e3]
    exact zQ_t (zQ_U (by decide)) (zQ_t (zQ_U (by decide)) (zQ_t (zQ_F (by decide)) (zQ_W (by decide))))
  have x6 : CX t N 0 s6 := by
    refine ⟨by rw [q6 2 (by decide)]; exact h2, ?_, ?_, by omega⟩
    · rw [e6, zW_o (by decide), zFill_o (by decide), e4, zU_k (by decide), e3, zU_s]; exact h11
    · rw [e6, zW_o (by decide), zFill_o (by decide), e4, zU_s]
  have c6 : ∀ j, 0 ≤ j → j < 499 → s6 7 j = c0L j := fun j j0 j1 => by
    rw [e6, zW_s]
    unfold zCpy c0L
    by_cases q : 2 ≤ j ∧ j < 13
    · rw [if_pos (by omega), if_pos q]
      congr 1
      omega
    · rw [if_neg (by omega), if_neg q]
      unfold zFill
      rw [zW_s, if_pos ⟨j0, j1⟩]
  refine ⟨fun y s => zQ [8] s6 s ∧ 0 ≤ y ∧ y ≤ 11 ∧ ∀ k, 0 ≤ k → k < y → s 8 k = 0, fun y _ => (11 - y).toNat, ⟨zQ_r _ _, by decide, by decide, fun k a b => by omega⟩, ?_⟩
  rintro y s ⟨qs, y0, y1, hI⟩ -
  refine ⟨fun c => ?_, fun c => ⟨by omega, fun s1 e1 => ⟨⟨by rw [e1]; exact zQ_t qs (zQ_U (by decide)), by omega, by omega, fun k k0 k1 => ?_⟩, zRi (by omega) (by omega), by dsimp only; omega⟩⟩⟩
  · have hx : CX t N 0 s := CX_q x6 qs (by decide)
    have qs' : zQ [6, 7, 8] σ s := zQ_t q6 (zQ_m qs (by decide))
    have s7 : ∀ j, 0 ≤ j → j < 499 → s 7 j = c0L j := fun j j0 j1 => by rw [qs 7 (by decide)]; exact c6 j j0 j1
    have s8 : ∀ k, 0 ≤ k → k < 11 → (s 8 k ≠ 0 ↔ False) := fun k k0 k1 => by
      rw [hI k k0 (by omega)]
      exact ⟨fun z => z rfl, fun z => z.elim⟩
    generalize eO : sLand t N = O at *
    have eO0 : O = sWord t N [108, 97, 110, 100] 0 (fun a => sNum t N 2 9 a (fun w a1 => sNum t N 2 9 a1 (fun d a2 => sRows t N w (fun a3 c => sCl t N 15 a3 c (fun _ => False)) (w * d).toNat 0 a2 (up (up c0L 0 w) 1 d)))) := eO.symm
    unfold q_X_readSize
    have sb0 := sk_b (t := t) hx.2.2.2.2.1
    have a00 := hx.2.2.2.1
    have bad : ∀ τ b, zQ [6, 7, 8] σ τ → τ 6 5 = b → 0 ≤ b → O = er b → K (τ 6 5) τ := fun τ b q h5 b0 e => by rw [h5]; exact h0 τ b q b0 e
    refine t_X_readWord hx lt_land (by decide) (fun hP τ1 q1 hx1 => n1a ?_) (fun nP τ1 q1 _ h51 => n0a (n0a (bad τ1 _ (zQ_t qs' (zQ_m q1 (by decide))) h51 (by omega) (eO0.trans (oif_f nP)))))
    have eO1 := eO0.trans (oif_t hP)
    have sb1 := sk_b (t := t) hx1.2.2.2.2.1
    have a10 := hx1.2.2.2.1
    refine t_X_readNumber hx1 (by decide) (by decide) (fun ok2 τ2 q2 hx2 e72 => n1a ?_) (fun no2 τ2 q2 h52 => n0a (n0a (bad τ2 _ (zQ_t qs' (zQ_t (zQ_m q1 (by decide)) (zQ_m q2 (by decide)))) h52 (by omega) (eO1.trans (oif_f no2)))))
    have eO2 := eO1.trans (oif_t ok2)
    have sb2 := sk_b (t := t) hx2.2.2.2.2.1
    have a20 := hx2.2.2.2.1
    have hw := ok2.2
    generalize vl t (sk t N (sk t N 0 + ([108, 97, 110, 100] : List Int).length)) (nd t N (sk t N (sk t N 0 + ([108, 97, 110, 100] : List Int).length))) = w at *
    refine t_X_readNumber hx2 (by decide) (by decide) (fun ok3 τ3 q3 hx3 e73 => n1a (n1a ?_)) (fun no3 τ3 q3 h53 => n0a (n0a (bad τ3 _ (zQ_t qs' (zQ_t (zQ_m q1 (by decide)) (zQ_t (zQ_m q2 (by decide)) (zQ_m q3 (by decide))))) h53 (by omega) (eO2.trans (oif_f no3)))))
    have eO3 := eO2.trans (oif_t ok3)
    have hd := ok3.2
    generalize vl t _ _ = d at *
    have q13 : zQ [6, 7, 8] σ τ3 := zQ_t qs' (zQ_t (zQ_m q1 (by decide)) (zQ_t (zQ_m q2 (by decide)) (zQ_m q3 (by decide))))
    have t7 : ∀ j, 0 ≤ j → j < 499 → τ3 7 j = up (up c0L 0 w) 1 d j := by
      rw [e73, e72, q1 7 (by decide)]
      exact up_row (up_row s7)
    have t8 : ∀ k, 0 ≤ k → k < 11 → (τ3 8 k ≠ 0 ↔ (fun _ => False : Int → Prop) k) := fun k k0 k1 => by
      rw [q3 8 (by decide), q2 8 (by decide), q1 8 (by decide)]
      exact s8 k k0 k1
    refine t_X_readRows (W := w) (D := d) (k := fun a3 c => sCl t N 15 a3 c (fun _ => False)) ⟨hx3, t7, t8⟩ (LW_first hw hd) (by rw [up_o (by decide), up_s]) (up_s _ _ _) hw hd (fun τ4 a2 c2 q4 hx4 hl4 e4 er4 => n1a ?_) (fun τ4 b q4 h54 b0 e4 => n0a (bad τ4 b (zQ_t q13 (zQ_m q4 (by decide))) h54 b0 (eO3.trans e4)))
    have eO4 := eO3.trans er4
    refine t_X_readClauses hx4 hl4 (by omega) (fun τ5 c5 q5 e5 hl5 h75 => n1a (h1 τ5 c5 (zQ_t q13 (zQ_t (zQ_m q4 (by decide)) q5)) (eO4.trans e5) hl5 h75)) (fun τ5 b q5 h55 b0 e5 => n0a (bad τ5 b (zQ_t q13 (zQ_t (zQ_m q4 (by decide)) q5)) h55 b0 (eO4.trans e5)))
  · rw [e1, zU_if]
    by_cases e : k = y
    · rw [if_pos e]
    · rw [if_neg e]; exact hI k k0 (by omega)
end TX

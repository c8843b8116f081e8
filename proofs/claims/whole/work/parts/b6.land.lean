/-! ===== land agrees ===== -/
section TL2
variable {t : Int → Int} {N : Int} {σ : zS} {O : Out}
theorem sMark_i {a : Int} {f : Int → Out} (ha : a ≤ N) : sMark t N (sk t N a) f = sMark t N a f := by
  unfold sMark
  rw [sk_i ha]
theorem t_M_landLoop {K : Int → zS → Prop} (hSa : SaO σ) (hv : LT t N O (fun a c T => O = sCl t N 15 a c T) σ) (h1 : ∀ τ c, zQ [41, 42, 50] σ τ → O = (-1, c) → LW c → 2 ≤ c 0 → τ 41 0 = 0 → τ 41 3 = 0 → τ 41 14 = -1 → (∀ j, j ≠ 0 → j ≠ 3 → j ≠ 13 → j ≠ 14 → j ≠ 34 → τ 41 j = σ 41 j) → τ 42 = frm (σ 42) c → K (c 0 * c 1) τ) (h0 : ∀ τ b, zQ [41, 50] σ τ → O = er b → 0 ≤ b → τ 41 0 = 1 → τ 41 14 = b → (∀ j, j ≠ 0 → j ≠ 13 → j ≠ 14 → j ≠ 34 → τ 41 j = σ 41 j) → K 0 τ) : ∃ (I129 : Int → zS → Prop) (μ129 : Int → zS → Nat), (I129 0 σ) ∧ ∀ (y21 : Int) (σ22 : zS), I129 y21 σ22 → zR y21 → 
                (0 ≤ y21 ∧ y21 < 16) ∧ (∃ J192 : zS → Prop, (∀ (σ24 : zS), J192 σ24 → 
                    ∃ J206 : Int → Prop, (∀ (w26 : Int), J206 w26 → zR w26 → 
                      ∀ σ27 : zS, σ27 = zU σ24 41 0 w26 → ((σ27 41 0) ≤ 0 →
                        ∃ (I220 : Int → zS → Prop) (μ220 : Int → zS → Nat), (I220 0 σ27) ∧ ∀ (y30 : Int) (σ31 : zS), I220 y30 σ31 → zR y30 → 
                        (499 ≤ y30 →
                          ∀ σ33 : zS, σ33 = zU σ31 41 3 0 → q_M_places (fun r35 σ34 =>
                            K r35 σ34) σ33) ∧ (y30 < 499 →
                          (0 ≤ y30 ∧ y30 < 499) ∧ (∀ σ38 : zS, σ38 = zU σ31 42 y30 (σ31 50 y30) → I220 (y30 + 1) σ38 ∧ zR (y30 + 1) ∧ μ220 (y30 + 1) σ38 < μ220 y30 σ31))) ∧ (0 < (σ27 41 0) →
                        K 0 σ27)) ∧
                    (((σ24 41 14) ≠ (-1) →
                        J206 1) ∧ ((σ24 41 14) = (-1) →
                        J206 0))) ∧
                  (((σ22 41 14) ≠ (-1) →
                      J192 σ22) ∧ ((σ22 41 14) = (-1) →
                      q_M_here (fun r44 σ43 =>
                        ((σ43 41 12) ≤ r44 →
                          J192 σ43) ∧ (r44 < (σ43 41 12) →
                          q_M_mustSign (fun σ47 =>
                            ∃ J174 : zS → Prop, (∀ (σ49 : zS), J174 σ49 → 
                              ((σ49 41 14) ≠ (-1) →
                                I129 (y21 + 1) σ49 ∧ zR (y21 + 1) ∧ μ129 (y21 + 1) σ49 < μ129 y21 σ22) ∧ ((σ49 41 14) = (-1) →
                                q_M_moreLine (fun σ54 =>
                                  I129 (y21 + 1) σ54 ∧ zR (y21 + 1) ∧ μ129 (y21 + 1) σ54 < μ129 y21 σ22) σ49)) ∧
                            (((σ47 41 14) ≠ (-1) →
                                J174 σ47) ∧ ((σ47 41 14) = (-1) →
                                (y21 ≠ 14 →
                                  J174 σ47) ∧ (y21 = 14 →
                                  q_M_here (fun r60 σ59 =>
                                    q_M_wrong r60 (fun σ61 =>
                                      J174 σ61) σ59) σ47)))) σ43)) σ22))) := by
  refine ⟨fun y s => zQ [41, 50] σ s ∧ (∀ j, j ≠ 13 → j ≠ 14 → j ≠ 34 → s 41 j = σ 41 j) ∧ 0 ≤ y ∧ y ≤ 15 ∧ LT t N O (fun a c T => y ≤ 14 ∧ O = sCl t N (14 - y).toNat.succ a c T) s, fun y _ => (16 - y).toNat, ⟨zQ_r _ _, fun _ _ _ _ => rfl, by decide, by decide, ?_⟩, ?_⟩
  · rcases hv with ⟨z1, a, c, T, z2, z3, z4, z5, z6, z7⟩ | z
    · exact Or.inl ⟨z1, a, c, T, z2, z3, z4, z5, z6, by decide, z7⟩
    · exact Or.inr z
  clear hv
  rintro y s ⟨qs, fs, y0, y1, hv⟩ -
  refine ⟨by omega, fun u => zQ [41, 50] σ u ∧ (∀ j, j ≠ 13 → j ≠ 14 → j ≠ 34 → u 41 j = σ 41 j) ∧ ((0 ≤ u 41 14 ∧ O = er (u 41 14)) ∨ (u 41 14 = -1 ∧ ∃ c, O = (-1, c) ∧ R5 c u ∧ LW c ∧ 2 ≤ c 0)), fun u hu => ?_, fun d => ⟨qs, fs, Or.inl (hv.resolve_left (fun z => d z.1))⟩, fun l => ?_⟩
  · -- the end
    obtain ⟨qu, fu, hu⟩ := hu
    refine ⟨fun w => (w = 1 ∧ u 41 14 ≠ -1) ∨ (w = 0 ∧ u 41 14 = -1), fun w hw _ s27 e27 => ?_, fun d => Or.inl ⟨rfl, d⟩, fun l => Or.inr ⟨rfl, l⟩⟩
    have z27 : s27 41 0 = w := by rw [e27, zU_s]
    rw [z27]
    refine ⟨fun le => ?_, fun gt => ?_⟩
    · obtain ⟨ew, l⟩ := hw.resolve_left (fun z => by omega)
      obtain ⟨-, c, eO, h5, hl, h2⟩ := hu.resolve_left (fun z => by omega)
      refine ⟨fun i v => zQ [42] s27 v ∧ 0 ≤ i ∧ i ≤ 499 ∧ ∀ j, v 42 j = if 0 ≤ j ∧ j < i then c j else σ 42 j, fun i _ => (499 - i).toNat, ⟨zQ_r _ _, by decide, by decide, fun j => by rw [if_neg (by omega), e27, zU_row (by decide), qu 42 (by decide)]⟩, ?_⟩
      rintro i v ⟨qv, i0, i1, hI⟩ -
      refine ⟨fun e s33 e33 => ?_, fun e => ⟨⟨i0, e⟩, fun s38 e38 => ⟨⟨by rw [e38]; exact zQ_t qv (zQ_U (by decide)), by omega, by omega, fun j => ?_⟩, zRi (by omega) (by omega), by dsimp only; omega⟩⟩⟩
      · have w42 : s33 42 = frm (σ 42) c := by
          rw [e33, zU_row (by decide)]
          funext j
          rw [hI j, show i = 499 by omega]
          rfl
        have hG := LW_GW hl h2
        have dn := hG.n
        have c0 : s33 42 0 = c 0 := by rw [w42]; exact if_pos (by decide)
        have c1 : s33 42 1 = c 1 := by rw [w42]; exact if_pos (by decide)
        unfold q_M_places
        rw [c0, c1]
        refine ⟨zRi (by omega) (by omega), h1 s33 c ?_ eO hl h2 ?_ ?_ ?_ (fun j j1 j2 j3 j4 j5 => ?_) w42⟩
        · rw [e33]; exact zQ_t (zQ_m qu (by decide)) (zQ_t (by rw [e27]; exact zQ_U (by decide)) (zQ_t (zQ_m qv (by decide)) (zQ_U (by decide))))
        · rw [e33, zU_k (by decide), qv 41 (by decide), z27]; exact ew
        · rw [e33, zU_s]
        · rw [e33, zU_k (by decide), qv 41 (by decide), e27, zU_k (by decide)]; exact l
        · rw [e33, zU_k j2, qv 41 (by decide), e27, zU_k j1]; exact fu j j3 j4 j5
      · have v50 : v 50 i = c i := by rw [qv 50 (by decide), e27, zU_row (by decide)]; exact h5 i i0 e
        rw [e38, zU_if, hI j]
        by_cases ej : j = i
        · rw [if_pos ej, if_pos (by omega), ej, v50]
        · rw [if_neg ej]
          by_cases e2 : 0 ≤ j ∧ j < i
          · rw [if_pos e2, if_pos (by omega)]
          · rw [if_neg e2, if_neg (by omega)]
    · obtain ⟨ew, d⟩ := hw.resolve_right (fun z => by omega)
      obtain ⟨b0, eO⟩ := hu.resolve_right (fun z => d z.1)
      refine h0 s27 (u 41 14) (by rw [e27]; exact zQ_t qu (zQ_U (by decide))) eO b0 (by rw [z27]; exact ew) (by rw [e27, zU_k (by decide)]) (fun j j1 j2 j3 j4 => by rw [e27, zU_k j1]; exact fu j j2 j3 j4)
  · -- a clause
    obtain ⟨-, a, c, T, hx, h5, h34, hl, h2, y14, eO⟩ := hv.resolve_right (fun z => by omega)
    have sb := sk_b (t := t) hx.2.2.2.2.1
    have a0 := hx.2.2.2.1
    refine t_M_here hx (fun τ q f41 hx1 => ?_)
    have q0 : zQ [41, 50] σ τ := zQ_t qs (zQ_m q (by decide))
    have f0 : ∀ j, j ≠ 13 → j ≠ 14 → j ≠ 34 → τ 41 j = σ 41 j := fun j j1 j2 j3 => by rw [f41 j j1]; exact fs j j1 j2 j3
    have l0 : τ 41 14 = -1 := by rw [f41 14 (by decide)]; exact l
    have r5 : R5 c τ := fun j j0 j1 => by rw [q 50 (by decide)]; exact h5 j j0 j1
    rw [hx1.2.1]
    refine ⟨fun ge => ⟨q0, f0, Or.inr ⟨l0, c, eO.trans (oif_t (by omega)), r5, hl, h2⟩⟩, fun lt => ?_⟩
    have eO1 := eO.trans (oif_f (by omega))
    rw [← sMark_i hx.2.2.2.2.1] at eO1
    refine t_M_mustSign (O := O) (Or.inl ⟨l0, _, hx1, eO1⟩) (fun τ1 q1 f1 hv1 => ?_)
    have q01 : zQ [41, 50] σ τ1 := zQ_t q0 (zQ_m q1 (by decide))
    have f01 : ∀ j, j ≠ 13 → j ≠ 14 → j ≠ 34 → τ1 41 j = σ 41 j := fun j j1 j2 j3 => by rw [f1 j j1 j2]; exact f0 j j1 j2 j3
    refine ⟨fun u => zQ [41, 50] σ u ∧ (∀ j, j ≠ 13 → j ≠ 14 → j ≠ 34 → u 41 j = σ 41 j) ∧ ((0 ≤ u 41 14 ∧ O = er (u 41 14)) ∨ (u = τ1 ∧ u 41 14 = -1 ∧ y ≠ 14)), fun u hu => ?_, fun d => ⟨q01, f01, Or.inl (hv1.resolve_left (fun z => d z.1))⟩, fun l1 => ⟨fun ne => ⟨q01, f01, Or.inr ⟨rfl, l1, ne⟩⟩, fun e14 => ?_⟩⟩
    · obtain ⟨qu, fu, hu⟩ := hu
      refine ⟨fun d => ⟨⟨qu, fu, by omega, by omega, Or.inr (hu.resolve_right (fun z => d z.2.1))⟩, zRi (by omega) (by omega), by dsimp only; omega⟩, fun lu => ?_⟩
      obtain ⟨rfl, -, ne⟩ := hu.resolve_left (fun z => by omega)
      obtain ⟨-, a1, hx2, eO2⟩ := hv1.resolve_right (fun z => by omega)
      have eO3 := eO2.trans (oif_f (show ¬ (14 - y).toNat = 0 by omega))
      have Su : SaO u := by
        unfold SaO
        rw [qu 45 (by decide), qu 46 (by decide)]
        exact hSa
      refine t_M_moreLine (k := fun a2 c2 T2 => sCl t N (14 - y).toNat a2 c2 T2) hx2 lu (fun j j0 j1 => by rw [q1 50 (by decide)]; exact r5 j j0 j1) (fun k k0 k1 => by rw [f1 34 (by decide) (by decide), f41 34 (by decide)]; exact h34 k k0 k1) hl h2 Su eO3 (fun τ2 q2 f2 hv2 => ⟨⟨zQ_t qu q2, fun j j1 j2 j3 => by rw [f2 j j1 j2 j3]; exact fu j j1 j2 j3, by omega, by omega, ?_⟩, zRi (by omega) (by omega), by dsimp only; omega⟩)
      rcases hv2 with ⟨z1, a2, c2, T2, z2, z3, z4, z5, z6, z7⟩ | z
      · refine Or.inl ⟨z1, a2, c2, T2, z2, z3, z4, z5, z6, by omega, ?_⟩
        rw [show (14 - (y + 1)).toNat.succ = (14 - y).toNat by omega]
        exact z7
      · exact Or.inr z
    · obtain ⟨-, a1, hx2, eO2⟩ := hv1.resolve_right (fun z => by omega)
      have eO3 := eO2.trans (oif_t (show (14 - y).toNat = 0 by omega))
      have sb1 := sk_b (t := t) hx2.2.2.2.2.1
      have a10 := hx2.2.2.2.1
      refine t_M_here hx2 (fun τ2 q2 f2 hx3 => ?_)
      exact wrong_dead (t := t) (N := N) (f := fun _ => O) (by rw [f2 14 (by decide)]; exact l1) (by omega) eO3 (fun τ4 q4 f4 hv4 d4 => ⟨zQ_t q01 (zQ_t (zQ_m q2 (by decide)) (zQ_m q4 (by decide))), fun j j1 j2 j3 => by rw [f4 j j2, f2 j j1]; exact f01 j j1 j2 j3, Or.inl (hv4.resolve_left (fun z => d4 z.1))⟩)
end TL2
theorem t_M_land {K : Int → zS → Prop} {σ : zS} {t : Int → Int} {N : Int} (hSa : SaO σ) (h49 : σ 49 = t) (h11 : σ 41 11 = N) (hN : 0 ≤ N ∧ N ≤ 400) (h1 : ∀ τ c, zQ [41, 42, 50] σ τ → sLand t N = (-1, c) → LW c → 2 ≤ c 0 → τ 41 0 = 0 → τ 41 3 = 0 → τ 41 11 = 0 → τ 41 14 = -1 → (∀ j, j ∈ ([5, 28, 29] : List Int) → τ 41 j = σ 41 j) → τ 42 = frm (σ 42) c → K (c 0 * c 1) τ) (h0 : ∀ τ b, zQ [41, 50] σ τ → sLand t N = er b → 0 ≤ b → τ 41 0 = 1 → τ 41 11 = 0 → τ 41 14 = b → (∀ j, j ∈ ([3, 5, 28, 29] : List Int) → τ 41 j = σ 41 j) → K 0 τ) : q_M_land K σ := by
  unfold q_M_land
  intro s1 e1 s3 e3 s4 e4 s5 e5 s6 e6
  have q6 : zQ [41, 50] σ s6 := by
    rw [e6, e5, e4, e3, e1]
    exact zQ_t (zQ_U (by decide)) (zQ_t (zQ_U (by decide)) (zQ_t (zQ_U (by decide)) (zQ_t (zQ_U (by decide)) (zQ_U (by decide)))))
  have f6 : ∀ j, j ≠ 11 → j ≠ 12 → j ≠ 13 → j ≠ 14 → j ≠ 34 → s6 41 j = σ 41 j := fun j j1 j2 j3 j4 j5 => by rw [e6, zU_k j5, e5, zU_k j3, e4, zU_k j1, e3, zU_k j2, e1, zU_k j4]
  have v11 : s6 41 11 = 0 := by rw [e6, zU_k (by decide), e5, zU_k (by decide), e4, zU_s]
  have v12 : s6 41 12 = N := by rw [e6, zU_k (by decide), e5, zU_k (by decide), e4, zU_k (by decide), e3, zU_s, e1, zU_k (by decide)]; exact h11
  have v13 : s6 41 13 = 0 := by rw [e6, zU_k (by decide), e5, zU_s]
  have v14 : s6 41 14 = -1 := by rw [e6, zU_k (by decide), e5, zU_k (by decide), e4, zU_k (by decide), e3, zU_k (by decide), e1, zU_s]
  have v34 : s6 41 34 = 0 := by rw [e6, zU_s]
  refine ⟨fun y s => zQ [50] s6 s ∧ 0 ≤ y ∧ y ≤ 499 ∧ ∀ j, 0 ≤ j → j < y → s 50 j = 0, fun y _ => (499 - y).toNat, ⟨zQ_r _ _, by decide, by decide, fun j a b => by omega⟩, ?_⟩
  rintro y s ⟨qs, y0, y1, hI⟩ -
  refine ⟨fun c => ?_, fun c => ⟨⟨y0, c⟩, fun u eu => ⟨⟨by rw [eu]; exact zQ_t qs (zQ_U (by decide)), by omega, by omega, fun j j0 j1 => ?_⟩, zRi (by omega) (by omega), by dsimp only; omega⟩⟩⟩
  · refine ⟨fun y u => zQ [50] s6 u ∧ 0 ≤ y ∧ y ≤ 11 ∧ ∀ j, 0 ≤ j → j < 499 → u 50 j = if 2 ≤ j ∧ j < 2 + y then zSV 2 (j - 2) else 0, fun y _ => (11 - y).toNat, ⟨qs, by decide, by decide, fun j j0 j1 => by rw [if_neg (by omega)]; exact hI j j0 (by omega)⟩, ?_⟩
    rintro z u ⟨qu, z0, z1, hJ⟩ -
    refine ⟨fun d => ?_, fun d => ⟨⟨z0, d⟩, by omega, fun w ew => ⟨⟨by rw [ew]; exact zQ_t qu (zQ_U (by decide)), by omega, by omega, fun j j0 j1 => ?_⟩, zRi (by omega) (by omega), by dsimp only; omega⟩⟩⟩
    · have u5 : R5 c0L u := fun j j0 j1 => by
        rw [hJ j j0 j1, show z = 11 by omega]
        rfl
      have q0u : zQ [41, 50] σ u := zQ_t q6 (zQ_m qu (by decide))
      have u41 : u 41 = s6 41 := qu 41 (by decide)
      generalize eO : sLand t N = O at *
      have eO0 : O = sWord t N [108, 97, 110, 100] 0 (fun a => sNum t N 2 9 a (fun w a1 => sNum t N 2 9 a1 (fun d a2 => sRows t N w (fun a3 c => sCl t N 15 a3 c (fun _ => False)) (w * d).toNat 0 a2 (up (up c0L 0 w) 1 d)))) := eO.symm
      refine t_M_expects (O := O) (t := t) (N := N) (Or.inl ⟨by rw [u41]; exact v14, 0, ⟨by rw [q0u 49 (by decide)]; exact h49, by rw [u41]; exact v12, by rw [u41]; exact v13, by omega⟩, eO0⟩) lt_land (by decide) (fun τ1 q1 f1 hv1 => t_M_number hv1 (fun w τ2 q2 f2 hv2 hb2 _ => t_M_number hv2 (fun dp τ3 q3 f3 hv3 hb3 hd3 => ?_)))
      have q03 : zQ [41] u τ3 := zQ_t q1 (zQ_t q2 q3)
      have f03 : ∀ j, j ≠ 13 → j ≠ 14 → τ3 41 j = s6 41 j := fun j j1 j2 => by rw [f3 j j1 j2, f2 j j1 j2, f1 j j1 j2, u41]
      -- behind the heights
      have fin : ∀ τ4 W D, zQ [41, 50] u τ4 → (∀ j, j ≠ 13 → j ≠ 14 → τ4 41 j = s6 41 j) → LC t N O W D (fun a c => O = sCl t N 15 a c (fun _ => False)) τ4 → (τ4 41 14 = -1 → 2 ≤ W) → _ := fun τ4 W D q4 f4 hv4 hW => t_M_landLoop (K := K) (t := t) (N := N) (O := O) (σ := τ4) (by
          unfold SaO
          rw [q4 45 (by decide), q4 46 (by decide), q0u 45 (by decide), q0u 46 (by decide)]
          exact hSa) (by
          rcases hv4 with ⟨z1, a, c, z2, z3, z4, z5, z6, z7⟩ | z
          · refine Or.inl ⟨z1, a, c, (fun _ => False), z2, z3, fun k k0 k1 => ?_, z4, by have := hW z1; omega, z7⟩
            rw [f4 34 (by decide) (by decide), v34, bit_zero (by omega)]
            exact ⟨(fun q => by cases q), fun (q : False) => q.elim⟩
          · exact Or.inr z) (fun τ c q e hl h2 g0 g3 g14 gf g42 => h1 τ c (zQ_t (zQ_m q0u (by decide)) (zQ_t (zQ_m q4 (by decide)) q)) e hl h2 g0 g3 (by rw [gf 11 (by decide) (by decide) (by decide) (by decide) (by decide), f4 11 (by decide) (by decide)]; exact v11) g14 (fun j hj => by
            have hj' : j ≠ 0 ∧ j ≠ 3 ∧ j ≠ 11 ∧ j ≠ 12 ∧ j ≠ 13 ∧ j ≠ 14 ∧ j ≠ 34 := by revert hj; revert j; decide
            rw [gf j hj'.1 hj'.2.1 hj'.2.2.2.2.1 hj'.2.2.2.2.2.1 hj'.2.2.2.2.2.2, f4 j hj'.2.2.2.2.1 hj'.2.2.2.2.2.1]
            exact f6 j hj'.2.2.1 hj'.2.2.2.1 hj'.2.2.2.2.1 hj'.2.2.2.2.2.1 hj'.2.2.2.2.2.2) (by rw [g42, q4 42 (by decide), q0u 42 (by decide)])) (fun τ b q e b0 g0 g14 gf => h0 τ b (zQ_t q0u (zQ_t q4 q)) e b0 g0 (by rw [gf 11 (by decide) (by decide) (by decide) (by decide), f4 11 (by decide) (by decide)]; exact v11) g14 (fun j hj => by
            have hj' : j ≠ 0 ∧ j ≠ 11 ∧ j ≠ 12 ∧ j ≠ 13 ∧ j ≠ 14 ∧ j ≠ 34 := by revert hj; revert j; decide
            rw [gf j hj'.1 hj'.2.2.2.1 hj'.2.2.2.2.1 hj'.2.2.2.2.2, f4 j hj'.2.2.2.1 hj'.2.2.2.2.1]
            exact f6 j hj'.2.1 hj'.2.2.1 hj'.2.2.2.1 hj'.2.2.2.2.1 hj'.2.2.2.2.2))
      refine ⟨fun dd => ?_, fun ll s62 e62 s63 e63 => ?_⟩
      · refine t_M_heights (t := t) (N := N) (O := O) (W := 2) (D := 2) (k := fun a3 c => sCl t N 15 a3 c (fun _ => False)) (by decide) (Or.inr (hv3.resolve_left (fun z => dd z.1))) (fun τ4 q4 f4 hv4 => ?_)
        exact fin τ4 2 2 (zQ_t (zQ_m q03 (by decide)) q4) (fun j j1 j2 => by rw [f4 j j1 j2]; exact f03 j j1 j2) hv4 (fun _ => by decide)
      · obtain ⟨-, a3, hx3, eO3⟩ := hv3.resolve_right (fun z => by omega)
        have hw := hb2 (hd3 ll)
        have hd := hb3 ll
        have q63 : zQ [50] τ3 s63 := by rw [e63, e62]; exact zQ_t (zQ_U (by decide)) (zQ_U (by decide))
        refine t_M_heights (t := t) (N := N) (O := O) (W := w) (D := dp) (k := fun a3 c => sCl t N 15 a3 c (fun _ => False)) ⟨hw, hd⟩ (Or.inl ⟨by rw [q63 41 (by decide)]; exact ll, a3, up (up c0L 0 w) 1 dp, RX_q hx3 q63 (by decide), ?_, LW_first hw hd, by rw [up_o (by decide), up_s], up_s _ _ _, eO3⟩) (fun τ4 q4 f4 hv4 => ?_)
        · rw [R5, e63, zU_up, e62, zU_up]
          exact up_row (up_row (fun j j0 j1 => by rw [q03 50 (by decide)]; exact u5 j j0 j1))
        · exact fin τ4 w dp (zQ_t (zQ_m q03 (by decide)) (zQ_t (zQ_m q63 (by decide)) q4)) (fun j j1 j2 => by rw [f4 j j1 j2, q63 41 (by decide)]; exact f03 j j1 j2) hv4 (fun _ => hw.1)
    · have u45 : u 45 z = zSV 2 z := by rw [qu 45 (by decide), q6 45 (by decide)]; exact (hSa z z0 d).1
      rw [ew, zU_if, hJ j j0 j1]
      by_cases ej : j = 2 + z
      · rw [if_pos ej, if_pos (by omega), u45, ej, show 2 + z - 2 = z by omega]
      · rw [if_neg ej]
        by_cases e2 : 2 ≤ j ∧ j < 2 + z
        · rw [if_pos e2, if_pos (by omega)]
        · rw [if_neg e2, if_neg (by omega)]
  · rw [eu, zU_if]
    by_cases ej : j = y
    · rw [if_pos ej]
    · rw [if_neg ej]; exact hI j j0 (by omega)

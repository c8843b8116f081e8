/-! ===== the text: the reference reads rows and clauses ===== -/
section TZ
variable {t : Int → Int} {N a : Int} {σ : zS} {O : Out}
def R5 (c : Int → Int) (σ : zS) : Prop := ∀ j, 0 ≤ j → j < 499 → σ 50 j = c j
theorem RX_q {S : List Nat} {τ : zS} (h : RX t N a σ) (hq : zQ S σ τ) (h1 : 49 ∉ S ∧ 41 ∉ S) : RX t N a τ := by
  unfold RX
  rw [hq 49 h1.1, hq 41 h1.2]
  exact h
theorem LV_q {S : List Nat} {τ : zS} {f : Int → Out} (h : LV t N O f σ) (hq : zQ S σ τ) (h1 : 49 ∉ S ∧ 41 ∉ S) : LV t N O f τ := by
  unfold LV
  rw [hq 41 h1.2]
  rcases h with ⟨h14, a, hx, e⟩ | z
  · exact Or.inl ⟨h14, a, RX_q hx hq h1, e⟩
  · exact Or.inr z
/-- goes on, with the cells c -/
def LC (t : Int → Int) (N : Int) (O : Out) (W D : Int) (P : Int → (Int → Int) → Prop) (σ : zS) : Prop := (σ 41 14 = -1 ∧ ∃ a c, RX t N a σ ∧ R5 c σ ∧ LW c ∧ c 0 = W ∧ c 1 = D ∧ P a c) ∨ (0 ≤ σ 41 14 ∧ O = er (σ 41 14))
theorem t_M_heights {K : zS → Prop} {W D : Int} {k : Int → (Int → Int) → Out} (hWD : (2 ≤ W ∧ W ≤ 9) ∧ (2 ≤ D ∧ D ≤ 9)) (hv : LC t N O W D (fun a c => O = sRows t N W k (W * D).toNat 0 a c) σ) (h : ∀ τ, zQ [41, 50] σ τ → (∀ j, j ≠ 13 → j ≠ 14 → τ 41 j = σ 41 j) → LC t N O W D (fun a c => O = k a c) τ → K τ) : q_M_heights K σ := by
  have dn : 4 ≤ W * D ∧ W * D ≤ 81 := by
    have h1 := Int.mul_le_mul hWD.1.1 hWD.2.1 (by decide) (by omega)
    have h2 := Int.mul_le_mul hWD.1.2 hWD.2.2 (by omega) (by decide)
    omega
  unfold q_M_heights
  by_cases hd : σ 41 14 = -1
  · refine ⟨fun r s => zQ [41, 50] σ s ∧ (∀ j, j ≠ 13 → j ≠ 14 → s 41 j = σ 41 j) ∧ 0 ≤ r ∧ r ≤ D ∧ (s 50 0 = W ∧ s 50 1 = D) ∧ LC t N O W D (fun a c => O = sRows t N W k (W * D - r * W).toNat (r * W) a c) s, fun r _ => (9 - r).toNat, ⟨zQ_r _ _, fun _ _ _ => rfl, by decide, by omega, ?_, ?_⟩, ?_⟩
    · rcases hv with ⟨-, a, c, -, h5, -, e0, e1, -⟩ | z
      · rw [h5 0 (by decide) (by decide), h5 1 (by decide) (by decide)]; exact ⟨e0, e1⟩
      · omega
    · rw [show W * D - 0 * W = W * D by omega, show (0 : Int) * W = 0 by omega]; exact hv
    rintro r s ⟨qs, fs, r0, r1, s50, hv⟩ -
    rw [s50.2]
    refine ⟨fun c => ?_, fun c => ⟨fun dead => ?_, fun live => ?_⟩⟩
    · have er' : r = D := by omega
      rw [er', show W * D - D * W = 0 by rw [Int.mul_comm D W]; omega] at hv
      exact h s qs fs hv
    · refine h s qs fs ?_
      rcases hv with z | z
      · exact absurd z.1 dead
      · exact Or.inr z
    -- a row
    obtain ⟨-, a, c', hx, h5, hl, e0, e1, eO⟩ := hv.resolve_right (fun z => by omega)
    have hrW : r * W + W ≤ W * D := by
      have := Int.mul_le_mul_of_nonneg_right (show r + 1 ≤ D by omega) (show 0 ≤ W by omega)
      rw [Int.add_mul, Int.mul_comm D W] at this
      omega
    have hr0 : 0 ≤ r * W := Int.mul_nonneg r0 (by omega)
    have i0 : (r * W) % W = 0 := Int.mul_emod_left r W
    rw [show (W * D - r * W).toNat = (W * D - (r * W + 1)).toNat + 1 by omega] at eO
    have eO1 := eO.trans (oif_t i0)
    refine t_M_mustSign (O := O) (Or.inl ⟨live, a, hx, eO1⟩) (fun τ1 q1 f1 hv1 => t_M_expects hv1 lt_row (by decide) (fun τ2 q2 f2 hv2 => ?_))
    have q12 : zQ [41] s τ2 := zQ_t q1 q2
    have f12 : ∀ j, j ≠ 13 → j ≠ 14 → τ2 41 j = s 41 j := fun j j1 j2 => by rw [f2 j j1 j2]; exact f1 j j1 j2
    refine ⟨fun y u => zQ [41, 50] s u ∧ (∀ j, j ≠ 13 → j ≠ 14 → u 41 j = s 41 j) ∧ 0 ≤ y ∧ y ≤ W ∧ (u 50 0 = W ∧ u 50 1 = D) ∧ LC t N O W D (fun a c => (y < W → O = sNum t N 0 99 a (fun v a2 => sRows t N W k (W * D - (r * W + y + 1)).toNat (r * W + y + 1) a2 (up c (13 + (r * W + y)) v))) ∧ (y = W → O = sRows t N W k (W * D - (r + 1) * W).toNat ((r + 1) * W) a c)) u, fun y _ => (9 - y).toNat, ⟨zQ_m q12 (by decide), f12, by decide, by omega, by rw [q12 50 (by decide)]; exact s50, ?_⟩, ?_⟩
    · rcases hv2 with ⟨z1, a1, hx1, eO2⟩ | z
      · refine Or.inl ⟨z1, a1, c', hx1, fun j j0 j1 => by rw [q12 50 (by decide)]; exact h5 j j0 j1, hl, e0, e1, fun _ => ?_, fun z => by omega⟩
        rw [show r * W + 0 = r * W by omega]
        exact eO2
      · exact Or.inr z
    rintro y u ⟨qu, fu, y0, y1, u50, hvu⟩ -
    rw [u50.1]
    refine ⟨fun g => ⟨⟨zQ_t qs (zQ_m qu (by decide)), fun j j1 j2 => by rw [fu j j1 j2]; exact fs j j1 j2, by omega, by omega, u50, ?_⟩, zRi (by omega) (by omega), by dsimp only; omega⟩, fun g => ?_⟩
    · rcases hvu with ⟨z1, a1, c1, z2, z3, z4, z5, z6, z7⟩ | z
      · exact Or.inl ⟨z1, a1, c1, z2, z3, z4, z5, z6, z7.2 (by omega)⟩
      · exact Or.inr z
    · by_cases du : u 41 14 = -1
      · obtain ⟨-, a1, c1, hx1, h51, hl1, e01, e11, eO2⟩ := hvu.resolve_right (fun z => by omega)
        refine t_M_number (O := O) (Or.inl ⟨du, a1, hx1, eO2.1 g⟩) (fun v τ3 q3 f3 hv3 hb _ => ?_)
        have nx : ∀ s1, zQ [50] τ3 s1 → (s1 50 0 = W ∧ s1 50 1 = D) → LC t N O W D (fun a c => (y + 1 < W → O = sNum t N 0 99 a (fun v a2 => sRows t N W k (W * D - (r * W + (y + 1) + 1)).toNat (r * W + (y + 1) + 1) a2 (up c (13 + (r * W + (y + 1))) v))) ∧ (y + 1 = W → O = sRows t N W k (W * D - (r + 1) * W).toNat ((r + 1) * W) a c)) s1 → (zQ [41, 50] s s1 ∧ (∀ j, j ≠ 13 → j ≠ 14 → s1 41 j = s 41 j) ∧ 0 ≤ y + 1 ∧ y + 1 ≤ W ∧ (s1 50 0 = W ∧ s1 50 1 = D) ∧ LC t N O W D (fun a c => (y + 1 < W → O = sNum t N 0 99 a (fun v a2 => sRows t N W k (W * D - (r * W + (y + 1) + 1)).toNat (r * W + (y + 1) + 1) a2 (up c (13 + (r * W + (y + 1))) v))) ∧ (y + 1 = W → O = sRows t N W k (W * D - (r + 1) * W).toNat ((r + 1) * W) a c)) s1) ∧ zR (y + 1) ∧ (9 - (y + 1)).toNat < (9 - y).toNat := fun s1 qq w50 hc => ⟨⟨zQ_t qu (zQ_t (zQ_m q3 (by decide)) (zQ_m qq (by decide))), fun j j1 j2 => by rw [qq 41 (by decide), f3 j j1 j2]; exact fu j j1 j2, by omega, by omega, w50, hc⟩, zRi (by omega) (by omega), by omega⟩
        have t50 : τ3 50 = u 50 := q3 50 (by decide)
        refine ⟨fun d3 => nx τ3 (zQ_r _ _) (by rw [t50]; exact u50) (Or.inr (hv3.resolve_left (fun z => d3 z.1))), fun l3 => ?_⟩
        obtain ⟨-, a3, hx3, eO3⟩ := hv3.resolve_right (fun z => by omega)
        rw [t50, u50.1]
        refine ⟨by omega, fun s23 e23 => nx s23 (by rw [e23]; exact zQ_U (by decide)) ?_ (Or.inl ⟨by rw [e23, zU_row (by decide)]; exact l3, a3, up c1 (13 + (r * W + y)) v, ?_, ?_, LW_height hl1 ⟨by omega, by rw [e01, e11]; omega⟩ (hb l3).1 (hb l3).2, by rw [up_o (by omega)]; exact e01, by rw [up_o (by omega)]; exact e11, fun lt => ?_, fun eq => ?_⟩)⟩
        · rw [e23, zU_if, zU_if, if_neg (by omega), if_neg (by omega), t50]; exact u50
        · exact RX_q hx3 (S := [50]) (by rw [e23]; exact zQ_U (by decide)) (by decide)
        · intro j j0 j1
          rw [e23, zU_up, t50, show 13 + r * W + y = 13 + (r * W + y) by omega]
          exact up_row h51 j j0 j1
        · rw [show (W * D - (r * W + y + 1)).toNat = (W * D - (r * W + (y + 1) + 1)).toNat + 1 by omega, show r * W + y + 1 = r * W + (y + 1) by omega] at eO3
          refine eO3.trans (oif_f ?_)
          rw [Int.add_comm (r * W), Int.add_mul_emod_self_right, Int.emod_eq_of_lt (by omega) lt]
          omega
        · rw [show (r + 1) * W = r * W + y + 1 by rw [Int.add_mul]; omega]
          exact eO3
      · have hdd := hvu.resolve_left (fun z => du z.1)
        unfold q_M_number
        exact ⟨fun z => absurd z du, fun _ => ⟨fun _ => ⟨⟨qu, fu, by omega, by omega, u50, Or.inr hdd⟩, zRi (by omega) (by omega), by dsimp only; omega⟩, fun z => absurd z du⟩⟩
  · have hdd := hv.resolve_left (fun z => hd z.1)
    refine ⟨fun _ s => s = σ, fun _ _ => 0, rfl, ?_⟩
    rintro y s rfl -
    exact ⟨fun _ => h s (zQ_r _ _) (fun _ _ _ => rfl) (Or.inr hdd), fun _ => ⟨fun _ => h s (zQ_r _ _) (fun _ _ _ => rfl) (Or.inr hdd), fun z => absurd z hd⟩⟩
theorem t_M_termAt {K : Int → zS → Prop} : ∀ (l : List (Int × List Int)) {σ : zS} {a : Int}, RX t N a σ → σ 41 14 = -1 → (∀ p ∈ l, (∀ x ∈ p.2, ltr x) ∧ p.2.length ≤ 400) → (∀ p ∈ l, tmF t N (sk t N a) l = p.1 → WdP t N (sk t N a) p.2 → ∀ τ, zQ [41] σ τ → (∀ k, k ≠ 13 → τ 41 k = σ 41 k) → RX t N (sk t N a + p.2.length) τ → K p.1 τ) → (tmF t N (sk t N a) l = -1 → ∀ τ, zQ [41] σ τ → (∀ k, k ≠ 13 → τ 41 k = σ 41 k) → RX t N (sk t N a) τ → K (-1) τ) → (l = [] → sk t N a = a) → q_M_termAt l K σ
  | [], σ, a, hx, hf, _, _, h0, he => h0 rfl σ (zQ_r _ _) (fun _ _ => rfl) (by rw [he rfl]; exact hx)
  | (k, w) :: r, σ, a, hx, hf, hw, h1, h0, _ => by
    have hw0 := hw (k, w) List.mem_cons_self
    show q_M_has w (fun b σ1 => (b ≠ 0 → K k σ1) ∧ (b = 0 → q_M_termAt r K σ1)) σ
    refine t_M_has hx hf hw0.1 hw0.2 (fun hP τ q f41 hx1 => n1b (h1 (k, w) List.mem_cons_self (cif_t hP) hP τ q f41 hx1)) (fun nP τ q f41 hx1 => n0b ?_)
    have e : tmF t N (sk t N a) ((k, w) :: r) = tmF t N (sk t N a) r := cif_f nP
    have ski := sk_i (t := t) (N := N) hx.2.2.2.2.1
    rw [e] at h1 h0
    refine t_M_termAt r hx1 (by rw [f41 14 (by decide)]; exact hf) (fun p hp => hw p (List.mem_cons_of_mem _ hp)) ?_ ?_ (fun _ => ski)
    · rw [ski]
      exact fun p hp e1 e2 τ2 q2 f2 hx2 => h1 p (List.mem_cons_of_mem _ hp) e1 e2 τ2 (zQ_t q q2) (fun k hk => by rw [f2 k hk]; exact f41 k hk) hx2
    · rw [ski]
      exact fun e1 τ2 q2 f2 hx2 => h0 e1 τ2 (zQ_t q q2) (fun k hk => by rw [f2 k hk]; exact f41 k hk) hx2
/-- goes on, with cells and terms told -/
def LT (t : Int → Int) (N : Int) (O : Out) (P : Int → (Int → Int) → (Int → Prop) → Prop) (σ : zS) : Prop := (σ 41 14 = -1 ∧ ∃ a c T, RX t N a σ ∧ R5 c σ ∧ (∀ k, 0 ≤ k → k < 11 → (bit (σ 41 34) k.toNat = true ↔ T k)) ∧ LW c ∧ 2 ≤ c 0 ∧ P a c T) ∨ (0 ≤ σ 41 14 ∧ O = er (σ 41 14))
theorem t_M_moreLine {K : zS → Prop} {c : Int → Int} {T : Int → Prop} {k : Int → (Int → Int) → (Int → Prop) → Out} (hx : RX t N a σ) (h14 : σ 41 14 = -1) (h5 : R5 c σ) (h34 : ∀ k, 0 ≤ k → k < 11 → (bit (σ 41 34) k.toNat = true ↔ T k)) (hl : LW c) (h2 : 2 ≤ c 0) (hSa : SaO σ) (eO : O = sClause t N a c T k) (h : ∀ τ, zQ [41, 50] σ τ → (∀ j, j ≠ 13 → j ≠ 14 → j ≠ 34 → τ 41 j = σ 41 j) → LT t N O (fun a2 c2 T2 => O = k a2 c2 T2) τ → K τ) : q_M_moreLine K σ := by
  have hG := LW_GW hl h2
  have dn := hG.n
  have sb := sk_b (t := t) hx.2.2.2.2.1
  have a0 := hx.2.2.2.1
  have ski := sk_i (t := t) (N := N) hx.2.2.2.2.1
  unfold q_M_moreLine
  refine t_M_here hx (fun τ0 q0 f0 hx0 => ?_)
  have t14 : τ0 41 14 = -1 := by rw [f0 14 (by decide)]; exact h14
  refine t_M_has hx0 t14 lt_wet (by decide) (fun hP τ q f41 hx1 => n1a ?_) (fun nP τ q f41 hx1 => n0a ?_)
  · rw [ski] at hP hx1
    have eO1 : O = sNum t N 0 (c 0 * c 1 - 1) (sk t N a + 3) (fun v a2 => oif (c (94 + v) = 0) (k a2 (up c (94 + v) 1) T) (er (sk t N (sk t N a + 3)))) := eO.trans (oif_t hP)
    have hx1' : RX t N (sk t N a + 3) τ := hx1
    have sb1 := sk_b (t := t) hx1'.2.2.2.2.1
    have ski1 := sk_i (t := t) (N := N) hx1'.2.2.2.2.1
    refine t_M_here hx1' (fun τ1 q1 f1 hx2 => ?_)
    have q01 : zQ [41] σ τ1 := zQ_t q0 (zQ_t q q1)
    have f01 : ∀ j, j ≠ 13 → τ1 41 j = σ 41 j := fun j hj => by rw [f1 j hj, f41 j hj]; exact f0 j hj
    have u14 : τ1 41 14 = -1 := by rw [f01 14 (by decide)]; exact h14
    have r5 : R5 c τ1 := fun j j0 j1 => by rw [q01 50 (by decide)]; exact h5 j j0 j1
    rw [r5 0 (by decide) (by decide), r5 1 (by decide) (by decide)]
    have eO2 : O = sNum t N 0 (c 0 * c 1 - 1) (sk t N (sk t N a + 3)) (fun v a2 => oif (c (94 + v) = 0) (k a2 (up c (94 + v) 1) T) (er (sk t N (sk t N a + 3)))) := by
      rw [eO1]
      unfold sNum
      rw [ski1]
    refine ⟨zRi (by omega) (by omega), t_M_number (O := O) (Or.inl ⟨u14, _, hx2, eO2⟩) (fun v τ3 q3 f3 hv3 hb _ => ?_)⟩
    have q03 : zQ [41, 50] σ τ3 := zQ_t (zQ_m q01 (by decide)) (zQ_m q3 (by decide))
    have f03 : ∀ j, j ≠ 13 → j ≠ 14 → j ≠ 34 → τ3 41 j = σ 41 j := fun j j1 j2 _ => by rw [f3 j j1 j2]; exact f01 j j1
    have r53 : R5 c τ3 := fun j j0 j1 => by rw [q3 50 (by decide)]; exact r5 j j0 j1
    refine ⟨fun s => (s 41 14 ≠ -1 ∧ K s) ∨ (s = τ3 ∧ s 41 14 = -1 ∧ c (94 + v) = 0), fun s hs => ?_, fun d => ?_, fun l => ?_⟩
    · rcases hs with ⟨z1, z2⟩ | ⟨rfl, z1, z2⟩
      · exact ⟨fun _ => z2, fun z => absurd z z1⟩
      · refine ⟨fun z => absurd z1 z, fun _ => ?_⟩
        obtain ⟨v0, v1⟩ := hb z1
        have hp : inP c v := ⟨v0, by omega⟩
        have hpb := hp.b hG
        obtain ⟨-, a3, hx3, eO3⟩ := hv3.resolve_right (fun z => by omega)
        refine ⟨by omega, fun s35 e35 => h s35 (by rw [e35]; exact zQ_t q03 (zQ_U (by decide))) (fun j j1 j2 j3 => by rw [e35, zU_row (by decide)]; exact f03 j j1 j2 j3) (Or.inl ⟨by rw [e35, zU_row (by decide)]; exact z1, a3, up c (94 + v) 1, T, ?_, ?_, ?_, LW_wet hl hp (Or.inr rfl), by rw [up_o (by omega)]; exact h2, eO3.trans (oif_t z2)⟩)⟩
        · exact RX_q hx3 (S := [50]) (by rw [e35]; exact zQ_U (by decide)) (by decide)
        · intro j j0 j1
          rw [e35, zU_up]
          exact up_row r53 j j0 j1
        · rw [e35, zU_row (by decide), f3 34 (by decide) (by decide), f01 34 (by decide)]; exact h34
    · refine Or.inl ⟨d, h τ3 q03 f03 (Or.inr (hv3.resolve_left (fun z => d z.1)))⟩
    · obtain ⟨v0, v1⟩ := hb l
      have hp : inP c v := ⟨v0, by omega⟩
      have hpb := hp.b hG
      have w01 := hG.2.2.2 v hpb.1 hpb.2
      obtain ⟨-, a3, hx3, eO3⟩ := hv3.resolve_right (fun z => by omega)
      rw [r53 (94 + v) (by omega) (by omega)]
      refine ⟨by omega, fun ne => Or.inr ⟨rfl, l, by omega⟩, fun e => ?_⟩
      exact wrong_dead (t := t) (N := N) (f := fun _ => O) l (by omega) (eO3.trans (oif_f (by omega))) (fun τ4 q4 f4 hv4 d4 => Or.inl ⟨d4, h τ4 (zQ_t q03 (zQ_m q4 (by decide))) (fun j j1 j2 j3 => by rw [f4 j j2]; exact f03 j j1 j2 j3) (Or.inr (hv4.resolve_left (fun z => d4 z.1)))⟩)
  · rw [ski] at nP hx1
    have eO1 := eO.trans (oif_f nP)
    have q01 : zQ [41] σ τ := zQ_t q0 q
    have f01 : ∀ j, j ≠ 13 → τ 41 j = σ 41 j := fun j hj => by rw [f41 j hj]; exact f0 j hj
    have u14 : τ 41 14 = -1 := by rw [f01 14 (by decide)]; exact h14
    generalize eb : sk t N a = b at *
    have dead : ∀ τ2, zQ [41] σ τ2 → (∀ j, j ≠ 13 → τ2 41 j = σ 41 j) → O = er b → q_M_wrong b (fun σ9 => K σ9) τ2 := fun τ2 q2 f2 e => wrong_dead (t := t) (N := N) (f := fun _ => O) (by rw [f2 14 (by decide)]; exact h14) (by omega) e (fun τ4 q4 f4 hv4 d4 => h τ4 (zQ_t (zQ_m q2 (by decide)) (zQ_m q4 (by decide))) (fun j j1 j2 _ => by rw [f4 j j2]; exact f2 j j1) (Or.inr (hv4.resolve_left (fun z => d4 z.1))))
    unfold q_M_termHere
    refine t_M_termAt zTWs hx1 u14 (fun p hp => ⟨(zTW_in p hp).2.2.1, by have := (zTW_in p hp).2.2.2; omega⟩) ?_ ?_ (fun z => by cases z)
    · rw [ski]
      intro p hp et hW τ2 q2 f2 hx2
      have zp := zTW_in p hp
      have q02 : zQ [41] σ τ2 := zQ_t q01 q2
      have f02 : ∀ j, j ≠ 13 → τ2 41 j = σ 41 j := fun j hj => by rw [f2 j hj]; exact f01 j hj
      rw [et, zp.2.1] at eO1
      generalize p.1 = m at *
      refine ⟨fun z => by omega, fun _ => ?_⟩
      rw [f02 34 (by decide), bit_tbi (σ 41 34) (by omega)]
      have hb := h34 m zp.1.1 zp.1.2
      refine ⟨fun ne => ?_, fun e => dead τ2 q02 f02 (eO1.trans (oif_t (Or.inr (hb.mp ?_))))⟩
      · have nb : ¬ bit (σ 41 34) m.toNat = true := fun z => ne (by rw [if_pos z])
        have eO2 := eO1.trans (oif_f (fun z => by
          rcases z with z | z
          · omega
          · exact nb (hb.mpr z)))
        intro s13 e13
        have q13 : zQ [41] σ s13 := by rw [e13]; exact zQ_t q02 (zQ_U (by decide))
        have f13 : ∀ j, j ≠ 13 → j ≠ 34 → s13 41 j = σ 41 j := fun j j1 j2 => by rw [e13, zU_k j2]; exact f02 j j1
        have s14 : s13 41 14 = -1 := by rw [f13 14 (by decide) (by decide)]; exact h14
        have hx13 : RX t N (b + p.2.length) s13 := by
          obtain ⟨x1, x2, x3, x4⟩ := hx2
          exact ⟨by rw [e13, zU_row (by decide)]; exact x1, by rw [e13, zU_k (by decide)]; exact x2, by rw [e13, zU_k (by decide)]; exact x3, x4⟩
        have e46 : s13 46 m = zSV 1 m := by rw [q13 46 (by decide)]; exact (hSa m zp.1.1 zp.1.2).2
        have lo : zSV 0 m = if m = 0 then 1 else 0 := zSV0 zp.1.1 zp.1.2
        refine ⟨fun w => w = zSV 0 m, fun w hw _ => ⟨zp.1, ?_⟩, fun ne0 => by show 0 = zSV 0 m; rw [lo, if_neg ne0], fun e0 => by show 1 = zSV 0 m; rw [lo, if_pos e0]⟩
        rw [hw, e46]
        refine t_M_number (O := O) (Or.inl ⟨s14, _, hx13, eO2⟩) (fun v τ3 q3 f3 hv3 hbv _ => ⟨by omega, fun s20 e20 => h s20 ?_ ?_ ?_⟩)
        · rw [e20]; exact zQ_t (zQ_m q13 (by decide)) (zQ_t (zQ_m q3 (by decide)) (zQ_U (by decide)))
        · intro j j1 j2 j3
          rw [e20, zU_row (by decide), f3 j j1 j2]
          exact f13 j j1 j3
        · have v14 : s20 41 14 = τ3 41 14 := by rw [e20, zU_row (by decide)]
          by_cases d3 : τ3 41 14 = -1
          · obtain ⟨-, a3, hx3, eO3⟩ := hv3.resolve_right (fun z => by omega)
            refine Or.inl ⟨by rw [v14]; exact d3, a3, up c (2 + m) v, (fun j => j = m ∨ T j), ?_, ?_, ?_, LW_term hl zp.1.1 zp.1.2 (hbv d3).1 (hbv d3).2, by rw [up_o (by omega)]; exact h2, eO3⟩
            · exact RX_q hx3 (S := [50]) (by rw [e20]; exact zQ_U (by decide)) (by decide)
            · intro j j0 j1
              rw [e20, zU_up, q3 50 (by decide), q13 50 (by decide)]
              exact up_row h5 j j0 j1
            · intro j j0 j1
              rw [e20, zU_row (by decide), f3 34 (by decide) (by decide), e13, zU_s, bit_seti (σ 41 34) (by omega) (by omega)]
              have := h34 j j0 j1
              constructor
              · intro z
                rw [Bool.or_eq_true, decide_eq_true_eq] at z
                rcases z with z | z
                · exact Or.inr (this.mp z)
                · exact Or.inl z
              · intro z
                rw [Bool.or_eq_true, decide_eq_true_eq]
                rcases z with z | z
                · exact Or.inr z
                · exact Or.inl (this.mpr z)
          · exact Or.inr (by rw [v14]; exact hv3.resolve_left (fun z => d3 z.1))
      · by_cases q : bit (σ 41 34) m.toNat = true
        · exact q
        · rw [if_neg q] at e
          exact absurd e (by decide)
    · rw [ski]
      intro et τ2 q2 f2 hx2
      exact ⟨fun _ => dead τ2 (zQ_t q01 q2) (fun j hj => by rw [f2 j hj]; exact f01 j hj) (eO1.trans (oif_t (Or.inl et))), fun z => absurd rfl z⟩
end TZ

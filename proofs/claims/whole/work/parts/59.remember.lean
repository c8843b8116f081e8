/-! ===== what is remembered ===== -/
def RemC (L : Int → Int) (σ u : zS) : Prop := (σ 9 2 < 8 → u 9 1 = σ 9 1 ∧ u 9 2 = σ 9 2 + 1) ∧ (σ 9 2 = 8 → u 9 1 = (σ 9 1 + 1) % 8 ∧ u 9 2 = 8) ∧ ∀ i j, 0 ≤ i → i < 8 → 0 ≤ j → j < 499 → u 10 (i * 499 + j) = if i = (σ 9 1 + σ 9 2) % 8 then L j else σ 10 (i * 499 + j)
def RemM (L : Int → Int) (u w : zS) : Prop := (u 41 3 < 8 → w 41 3 = u 41 3 + 1 ∧ ∀ i j, 0 ≤ i → i < 8 → 0 ≤ j → j < 499 → w 43 (499 * i + j) = if i = u 41 3 then L j else u 43 (499 * i + j)) ∧ (u 41 3 = 8 → w 41 3 = 8 ∧ ∀ i j, 0 ≤ i → i < 8 → 0 ≤ j → j < 499 → w 43 (499 * i + j) = if i = 7 then L j else u 43 (499 * (i + 1) + j))
theorem t_P_remember {K : zS → Prop} {σ : zS} {L : Int → Int} (h4 : σ 4 = L) (hs : 0 ≤ σ 9 2 ∧ σ 9 2 ≤ 8) (hf : 0 ≤ σ 9 1 ∧ σ 9 1 < 8) (h : ∀ τ, zQ [9, 10] σ τ → RemC L σ τ → K τ) : q_P_remember K σ := by
  unfold q_P_remember q_P_room
  rw [zAnd_7]
  refine ⟨zRi (by omega) (by omega), ?_⟩
  unfold q_L_copyTo_10
  refine ⟨by omega, by omega, fun s3 e3 => ?_⟩
  have q3 : zQ [9, 10] σ s3 := by rw [e3]; exact zQ_W (by decide)
  have f9 : s3 9 = σ 9 := by rw [e3, zW_o (by decide)]
  have f10 : ∀ i j, 0 ≤ i → i < 8 → 0 ≤ j → j < 499 → s3 10 (i * 499 + j) = if i = (σ 9 1 + σ 9 2) % 8 then L j else σ 10 (i * 499 + j) := by
    intro i j i0 i1 j0 j1
    rw [e3, zW_s, h4]
    unfold zCpy
    by_cases e : i = (σ 9 1 + σ 9 2) % 8
    · rw [if_pos e, if_pos (by omega)]
      congr 1
      omega
    · rw [if_neg e, if_neg (by omega)]
  dsimp only
  rw [f9]
  refine ⟨fun c s7 e7 => h s7 (by rw [e7]; exact zQ_t q3 (zQ_U (by decide))) ⟨fun d => by omega, fun d => ⟨?_, ?_⟩, ?_⟩, fun c => ⟨zRi (by omega) (by omega), fun s7 e7 => h s7 (by rw [e7]; exact zQ_t q3 (zQ_U (by decide))) ⟨fun d => ⟨?_, ?_⟩, fun d => by omega, ?_⟩⟩⟩
  · rw [e7, zU_s, zAnd_7]
  · rw [e7, zU_k (by decide), f9]; exact d
  · rw [e7, zU_row (by decide)]; exact f10
  · rw [e7, zU_k (by decide), f9]
  · rw [e7, zU_s]
  · rw [e7, zU_row (by decide)]; exact f10
def qf_rm (K : zS → Prop) (σ : zS) : Prop :=
  ∃ (I52 : Int → zS → Prop) (μ52 : Int → zS → Nat), (I52 0 σ) ∧ ∀ (y3 : Int) (σ4 : zS), I52 y3 σ4 → zR y3 →
  (499 ≤ y3 →
   zR ((σ4 41 3) + 1) ∧ (∀ σ8 : zS, σ8 = zU σ4 41 3 ((σ4 41 3) + 1) → K σ8)) ∧ (y3 < 499 →
   (0 ≤ y3 ∧ y3 < 499) ∧ ((0 ≤ (499 * (σ4 41 3)) + y3 ∧ (499 * (σ4 41 3)) + y3 < 3992) ∧ (∀ σ13 : zS, σ13 = zU σ4 43 ((499 * (σ4 41 3)) + y3) (σ4 42 y3) → I52 (y3 + 1) σ13 ∧ zR (y3 + 1) ∧ μ52 (y3 + 1) σ13 < μ52 y3 σ4)))
theorem t_M_rmLoop {K : zS → Prop} {σ : zS} {L : Int → Int} (h42 : σ 42 = L) (hu : 0 ≤ σ 41 3 ∧ σ 41 3 < 8) (h : ∀ τ, zQ [41, 43] σ τ → (∀ k, k ≠ 3 → τ 41 k = σ 41 k) → τ 41 3 = σ 41 3 + 1 → (∀ i, τ 43 i = if 499 * σ 41 3 ≤ i ∧ i < 499 * σ 41 3 + 499 then L (i - 499 * σ 41 3) else σ 43 i) → K τ) : qf_rm K σ := by
  unfold qf_rm
  refine ⟨fun y s => zQ [43] σ s ∧ 0 ≤ y ∧ y ≤ 499 ∧ ∀ i, s 43 i = if 499 * σ 41 3 ≤ i ∧ i < 499 * σ 41 3 + y then L (i - 499 * σ 41 3) else σ 43 i, fun y _ => (499 - y).toNat, ⟨zQ_r _ _, by decide, by decide, fun i => by rw [if_neg (by omega)]⟩, ?_⟩
  rintro y s ⟨hq, y0, y1, hI⟩ -
  have e41 : s 41 = σ 41 := hq 41 (by decide)
  have e42 : s 42 = L := by rw [hq 42 (by decide)]; exact h42
  rw [e41, e42]
  refine ⟨fun c => ⟨zRi (by omega) (by omega), fun s8 e8 => h s8 ?_ (fun k hk => ?_) ?_ (fun i => ?_)⟩, fun c => ⟨⟨y0, c⟩, by omega, fun s1 e1 => ⟨⟨?_, by omega, by omega, fun i => ?_⟩, zRi (by omega) (by omega), by dsimp only; omega⟩⟩⟩
  · rw [e8]; exact zQ_t (zQ_m hq (by decide)) (zQ_U (by decide))
  · rw [e8, zU_k hk, e41]
  · rw [e8, zU_s]
  · rw [e8, zU_o (by decide), hI i, show y = 499 by omega]
  · rw [e1]; exact zQ_t hq (zQ_U (by decide))
  · rw [e1, zU_if, hI i]
    by_cases e : i = 499 * σ 41 3 + y
    · rw [if_pos e, if_pos (by omega)]
      congr 1
      omega
    · rw [if_neg e]
      by_cases d : 499 * σ 41 3 ≤ i ∧ i < 499 * σ 41 3 + y
      · rw [if_pos d, if_pos (by omega)]
      · rw [if_neg d, if_neg (by omega)]
theorem t_M_remembers {K : zS → Prop} {σ : zS} {L : Int → Int} (h42 : σ 42 = L) (hu : 0 ≤ σ 41 3 ∧ σ 41 3 ≤ 8) (h : ∀ τ, zQ [41, 43] σ τ → (∀ k, k ≠ 3 → τ 41 k = σ 41 k) → RemM L σ τ → K τ) : q_M_remembers K σ := by
  unfold q_M_remembers
  refine ⟨fun c => ?_, fun c => ?_⟩
  · refine t_M_rmLoop (K := K) h42 (by omega) (fun τ q f41 e3 e43 => h τ q f41 ⟨fun _ => ⟨e3, fun i j i0 i1 j0 j1 => ?_⟩, fun d => absurd d c⟩)
    rw [e43]
    by_cases e : i = σ 41 3
    · rw [if_pos e, if_pos (by omega)]
      congr 1
      omega
    · rw [if_neg e, if_neg (by omega)]
  · refine ⟨fun y s => zQ [43] σ s ∧ 0 ≤ y ∧ y ≤ 3493 ∧ ∀ i, s 43 i = if 0 ≤ i ∧ i < y then σ 43 (i + 499) else σ 43 i, fun y _ => (3493 - y).toNat, ⟨zQ_r _ _, by decide, by decide, fun i => by rw [if_neg (by omega)]⟩, ?_⟩
    rintro y s ⟨hq, y0, y1, hI⟩ -
    have e41 : s 41 = σ 41 := hq 41 (by decide)
    rw [e41]
    refine ⟨fun d => ⟨zRi (by omega) (by omega), fun s21 e21 => ?_⟩, fun d => ⟨by omega, by omega, fun s1 e1 => ⟨⟨?_, by omega, by omega, fun i => ?_⟩, zRi (by omega) (by omega), by dsimp only; omega⟩⟩⟩
    · have f3 : s21 41 3 = 7 := by rw [e21, zU_s, c]; decide
      have f43 : s21 43 = s 43 := by rw [e21, zU_row (by decide)]
      refine t_M_rmLoop (K := K) (L := L) (by rw [e21, zU_row (by decide), hq 42 (by decide)]; exact h42) (by rw [f3]; decide) (fun τ q f41 e3 e43 => h τ ?_ (fun k hk => ?_) ⟨fun x => by omega, fun _ => ⟨by rw [e3, f3]; decide, fun i j i0 i1 j0 j1 => ?_⟩⟩)
      · refine zQ_t (zQ_t (zQ_m hq (by decide)) ?_) q
        rw [e21]
        exact zQ_U (by decide)
      · rw [f41 k hk, e21, zU_k hk, e41]
      · rw [e43, f3, f43]
        by_cases e : i = 7
        · rw [if_pos e, if_pos (by omega)]
          congr 1
          omega
        · rw [if_neg e, if_neg (by omega), hI, if_pos (by omega)]
          congr 1
          omega
    · rw [e1]; exact zQ_t hq (zQ_U (by decide))
    · rw [e1, zU_if, hI i, hI (y + 499)]
      by_cases e : i = y
      · rw [if_pos e, if_neg (by omega), if_pos (by omega), e]
      · rw [if_neg e]
        by_cases d2 : 0 ≤ i ∧ i < y
        · rw [if_pos d2, if_pos (by omega)]
        · rw [if_neg d2, if_neg (by omega)]
theorem Ps_rem {L : Int → Int} {σ u w : zS} (hl : LW L) (h : PsO σ) (hC : RemC L σ u) (hu3 : u 41 3 = σ 41 3) (hu43 : u 43 = σ 43) (hM : RemM L u w) (hw9 : w 9 = u 9) (hw10 : w 10 = u 10) : PsO w := by
  obtain ⟨a1, a2, a3, a4⟩ := h
  obtain ⟨c1, c2, c3⟩ := hC
  obtain ⟨m1, m2⟩ := hM
  rw [hu3] at m1 m2
  rw [hu43] at m1 m2
  unfold PsO
  rw [hw9, hw10]
  have row : ∀ M N : Int → Int, (∀ j, 0 ≤ j → j < 499 → N j = M j) → LW M → LW N := fun M N e => LW_congr e
  by_cases e : σ 9 2 = 8
  · obtain ⟨d1, d2⟩ := c2 e
    obtain ⟨n1, n2⟩ := m2 (by omega)
    rw [d1, d2, n1]
    refine ⟨rfl, by omega, by omega, fun i i0 i1 => ?_⟩
    have hring : ((σ 9 1 + 1) % 8 + i) % 8 = (σ 9 1 + (i + 1)) % 8 := by omega
    rw [hring]
    by_cases e7 : i = 7
    · have hi : (σ 9 1 + (i + 1)) % 8 = (σ 9 1 + σ 9 2) % 8 := by omega
      refine ⟨fun j j0 j1 => ?_, row L _ (fun j j0 j1 => ?_) hl⟩
      · rw [c3 _ j (by omega) (by omega) j0 j1, if_pos hi, n2 i j i0 (by omega) j0 j1, if_pos e7]
      · show w 43 (499 * i + j) = L j
        rw [n2 i j i0 (by omega) j0 j1, if_pos e7]
    · have old := a4 (i + 1) (by omega) (by omega)
      refine ⟨fun j j0 j1 => ?_, row _ _ (fun j j0 j1 => ?_) old.2⟩
      · rw [c3 _ j (by omega) (by omega) j0 j1, if_neg (by omega), n2 i j i0 (by omega) j0 j1, if_neg e7]
        exact old.1 j j0 j1
      · show w 43 (499 * i + j) = σ 43 (499 * (i + 1) + j)
        rw [n2 i j i0 (by omega) j0 j1, if_neg e7]
  · obtain ⟨d1, d2⟩ := c1 (by omega)
    obtain ⟨n1, n2⟩ := m1 (by omega)
    rw [d1, d2, n1]
    refine ⟨by omega, by omega, a3, fun i i0 i1 => ?_⟩
    by_cases e7 : i = σ 9 2
    · refine ⟨fun j j0 j1 => ?_, row L _ (fun j j0 j1 => ?_) hl⟩
      · rw [c3 _ j (by omega) (by omega) j0 j1, if_pos (by rw [e7]), n2 i j i0 (by omega) j0 j1, if_pos (by omega)]
      · show w 43 (499 * i + j) = L j
        rw [n2 i j i0 (by omega) j0 j1, if_pos (by omega)]
    · have old := a4 i i0 (by omega)
      refine ⟨fun j j0 j1 => ?_, row _ _ (fun j j0 j1 => ?_) old.2⟩
      · rw [c3 _ j (by omega) (by omega) j0 j1, if_neg (by omega), n2 i j i0 (by omega) j0 j1, if_neg (by omega)]
        exact old.1 j j0 j1
      · show w 43 (499 * i + j) = σ 43 (499 * i + j)
        rw [n2 i j i0 (by omega) j0 j1, if_neg (by omega)]
/-- behind a call that changed the land -/
theorem INV_chg {L L' : Int → Int} {σ w : zS} (hc : CC L σ) (hm : MM L (-1) (-1) σ) (h1 : TpO σ) (h3 : ImO σ) (h4 : σ 0 11 = σ 41 14) (h5 : SaO σ) (w4 : w 4 = L') (w42 : w 42 = L') (e0 : L' 0 = L 0) (e1 : L' 1 = L 1) (hl : LW L') (w5 : w 5 = σ 5) (fo : ∀ o ∈ [0, 1, 2, 40, 44, 45, 46, 47, 48, 49], w o = σ o) (f41 : ∀ k ∈ ([5, 11, 14, 28, 29] : List Int), w 41 k = σ 41 k) (hp : PsO w) : INV w := by
  refine ⟨L', ⟨w4, fun p g ip g0 g1 => ?_⟩, ⟨w42, fun g g0 g1 => ?_, ?_, ?_⟩, hl, ?_, hp, ?_, ?_, ?_⟩
  · rw [w5]
    have ip' : inP L p := by unfold inP at ip ⊢; rw [e0, e1] at ip; exact ip
    have := hc.2 p g ip' g0 g1
    rw [this]
    show bes _ _ _ _ = bes _ _ _ _
    rw [e0, e1]
  · rw [fo 47 (by decide), fo 48 (by decide)]; exact hm.2.1 g g0 g1
  · rw [f41 28 (by decide)]; exact hm.2.2.1
  · rw [f41 29 (by decide)]; exact hm.2.2.2
  · unfold TpO
    rw [fo 1 (by decide), fo 2 (by decide), fo 49 (by decide), f41 11 (by decide)]
    exact h1
  · unfold ImO
    rw [fo 0 (by decide), fo 40 (by decide), fo 44 (by decide), f41 5 (by decide)]
    exact h3
  · rw [fo 0 (by decide), f41 14 (by decide)]; exact h4
  · unfold SaO
    rw [fo 45 (by decide), fo 46 (by decide)]
    exact h5

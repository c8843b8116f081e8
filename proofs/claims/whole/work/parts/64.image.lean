/-! ===== image, back, feed ===== -/
theorem pr_image {σ : zS} (hi : INV σ) : q_R_image (fun u => q_M_image (fun w => INV w) u) σ := by
  obtain ⟨L, hc, hm, hl, t1, t2, t3, t4, t5⟩ := id hi
  unfold q_R_image q_L_copyTo_40
  refine ⟨by decide, by decide, fun s3 e3 s2 e2 => ?_⟩
  unfold q_M_image
  intro s1 e1
  have all : ∀ o, o ∉ [0, 40, 41] → s1 o = σ o := fun o ho => by
    simp only [List.mem_cons, List.not_mem_nil, or_false, not_or] at ho
    rw [e1, zU_row ho.2.2, e2, zU_row ho.1, e3, zW_o ho.2.1]
  have f40 : ∀ j, 0 ≤ j → j < 499 → s1 40 j = L j := fun j j0 j1 => by
    rw [e1, zU_row (by decide), e2, zU_row (by decide), e3, zW_s, hc.1]
    unfold zCpy
    rw [if_pos (by omega)]
    congr 1
    omega
  have f0 : ∀ k, s1 0 k = if k = 10 then 1 else σ 0 k := fun k => by rw [e1, zU_row (by decide), e2, zU_if, e3, zW_o (by decide)]
  have f41 : ∀ k, k ≠ 0 → s1 41 k = σ 41 k := fun k hk => by rw [e1, zU_k hk, e2, zU_row (by decide), e3, zW_o (by decide)]
  refine ⟨fun y s => zQ [44] s1 s ∧ 0 ≤ y ∧ y ≤ 499 ∧ ∀ c, 0 ≤ c → c < y → s 44 c = L c, fun y _ => (499 - y).toNat, ⟨zQ_r _ _, by decide, by decide, fun c a b => by omega⟩, ?_⟩
  rintro y s ⟨hq, y0, y1, hI⟩ -
  refine ⟨fun c s5 e5 => ?_, fun c => ⟨⟨y0, c⟩, fun s8 e8 => ⟨⟨by rw [e8]; exact zQ_t hq (zQ_U (by decide)), by omega, by omega, fun i i0 i1 => ?_⟩, zRi (by omega) (by omega), by dsimp only; omega⟩⟩⟩
  · have allw : ∀ o, o ∉ [0, 40, 41, 44] → s5 o = σ o := fun o ho => by
      simp only [List.mem_cons, List.not_mem_nil, or_false, not_or] at ho
      rw [e5, zU_row ho.2.2.1, hq o (by simp [ho]), all o (by simp [ho])]
    have w41 : ∀ k, k ≠ 0 → k ≠ 5 → s5 41 k = σ 41 k := fun k k0 k5 => by rw [e5, zU_k k5, hq 41 (by decide), f41 k k0]
    have w0 : ∀ k, s5 0 k = if k = 10 then 1 else σ 0 k := fun k => by rw [e5, zU_row (by decide), hq 0 (by decide), f0 k]
    have w44 : ∀ j, 0 ≤ j → j < 499 → s5 44 j = L j := fun j j0 j1 => by rw [e5, zU_row (by decide)]; exact hI j j0 (by omega)
    refine ⟨L, ⟨?_, ?_⟩, ⟨?_, fun g g0 g1 => ?_, ?_, ?_⟩, hl, ?_, ?_, ?_, ?_, ?_⟩
    · rw [allw 4 (by decide)]; exact hc.1
    · rw [allw 5 (by decide)]; exact hc.2
    · rw [allw 42 (by decide)]; exact hm.1
    · rw [allw 47 (by decide), allw 48 (by decide)]; exact hm.2.1 g g0 g1
    · rw [w41 28 (by decide) (by decide)]; exact hm.2.2.1
    · rw [w41 29 (by decide) (by decide)]; exact hm.2.2.2
    · unfold TpO
      rw [allw 1 (by decide), allw 2 (by decide), allw 49 (by decide), w41 11 (by decide) (by decide)]
      exact t1
    · unfold PsO
      rw [allw 9 (by decide), allw 10 (by decide), allw 43 (by decide), w41 3 (by decide) (by decide)]
      exact t2
    · unfold ImO
      rw [w0 10, if_pos rfl, show s5 41 5 = 1 by rw [e5, zU_s]]
      refine ⟨rfl, Or.inr rfl, fun _ => ⟨fun j j0 j1 => ?_, LW_congr w44 hl⟩⟩
      rw [w44 j j0 j1, e5, zU_row (by decide), hq 40 (by decide)]
      exact f40 j j0 j1
    · rw [w0 11, if_neg (by decide), w41 14 (by decide) (by decide)]; exact t4
    · unfold SaO
      rw [allw 45 (by decide), allw 46 (by decide)]
      exact t5
  · rw [e8, zU_if]
    by_cases e : i = y
    · rw [if_pos e, hq 42 (by decide), all 42 (by decide), hm.1, e]
    · rw [if_neg e]
      exact hI i i0 (by omega)
theorem pr_back {σ : zS} (hi : INV σ) : q_R_back (fun r u => q_M_back (fun v w => r = v ∧ INV w) u) σ := by
  obtain ⟨L, hc, hm, hl, t1, t2, t3, t4, t5⟩ := id hi
  obtain ⟨i1, i2, i3⟩ := id t3
  unfold q_R_back
  refine ⟨fun nz => ?_, fun z => ?_⟩
  · obtain ⟨j1, j2⟩ := i3 nz
    unfold q_L_take_40
    refine ⟨by decide, by decide, fun s3 e3 => ?_⟩
    have f4 : s3 4 = frm L (σ 44) := by
      funext c
      rw [e3, zW_s, hc.1]
      unfold zCpy frm
      by_cases e : 0 ≤ c ∧ c < 499
      · rw [if_pos (by omega), if_pos e, show 0 + (c - 0) = c by omega]
        exact j1 c e.1 e.2
      · rw [if_neg (by omega), if_neg e]
    have hl' := frm_LW (L := L) j2
    refine t_L_layOut f4 (LW_dim hl') (fun τ q hcτ => ?_)
    unfold q_P_forget
    intro s4 e4
    unfold q_M_back
    intro s1 e1
    have all : ∀ o, o ∉ [4, 5, 9, 41] → s1 o = σ o := fun o ho => by
      simp only [List.mem_cons, List.not_mem_nil, or_false, not_or] at ho
      rw [e1, zU_row ho.2.2.2, e4, zU_row ho.2.2.1, q o (by simp [ho]), e3, zW_o ho.1]
    have f41 : ∀ k, k ≠ 0 → s1 41 k = σ 41 k := fun k hk => by rw [e1, zU_k hk, e4, zU_row (by decide), q 41 (by decide), e3, zW_o (by decide)]
    rw [f41 5 (by decide), ← i1]
    refine ⟨fun _ => ?_, fun x => absurd x nz⟩
    refine ⟨fun y s => zQ [42] s1 s ∧ 0 ≤ y ∧ y ≤ 499 ∧ ∀ c, s 42 c = if 0 ≤ c ∧ c < y then σ 44 c else L c, fun y _ => (499 - y).toNat, ⟨zQ_r _ _, by decide, by decide, fun c => by rw [if_neg (by omega), all 42 (by decide), hm.1]⟩, ?_⟩
    rintro y s ⟨hq, y0, y1, hI⟩ -
    refine ⟨fun c s7 e7 => ⟨rfl, ?_⟩, fun c => ⟨⟨y0, c⟩, fun s8 e8 => ⟨⟨by rw [e8]; exact zQ_t hq (zQ_U (by decide)), by omega, by omega, fun i => ?_⟩, zRi (by omega) (by omega), by dsimp only; omega⟩⟩⟩
    · have allw : ∀ o, o ∉ [4, 5, 9, 41, 42] → s7 o = σ o := fun o ho => by
        simp only [List.mem_cons, List.not_mem_nil, or_false, not_or] at ho
        rw [e7, zU_row ho.2.2.2.1, hq o (by simp [ho]), all o (by simp [ho])]
      have w41 : ∀ k, k ≠ 0 → k ≠ 3 → s7 41 k = σ 41 k := fun k k0 k5 => by rw [e7, zU_k k5, hq 41 (by decide), f41 k k0]
      have w42 : s7 42 = frm L (σ 44) := by
        rw [e7, zU_row (by decide)]
        funext i
        rw [hI i, show y = 499 by omega]
        rfl
      have wc : ∀ o ∈ [4, 5], s7 o = τ o := fun o ho => by
        have h1 : o ≠ 42 ∧ o ≠ 41 ∧ o ≠ 9 := by revert ho; revert o; decide
        rw [e7, zU_row h1.2.1, hq o (by simp [h1]), e1, zU_row h1.2.1, e4, zU_row h1.2.2]
      have w92 : s7 9 2 = 0 := by rw [e7, zU_row (by decide), hq 9 (by decide), e1, zU_row (by decide), e4, zU_s]
      have w91 : s7 9 1 = σ 9 1 := by rw [e7, zU_row (by decide), hq 9 (by decide), e1, zU_row (by decide), e4, zU_k (by decide), q 9 (by decide), e3, zW_o (by decide)]
      refine ⟨_, ⟨?_, ?_⟩, ⟨w42, fun g g0 g1 => ?_, ?_, ?_⟩, hl', ?_, ?_, ?_, ?_, ?_⟩
      · rw [wc 4 (by decide)]; exact hcτ.1
      · rw [wc 5 (by decide)]; exact hcτ.2
      · rw [allw 47 (by decide), allw 48 (by decide)]; exact hm.2.1 g g0 g1
      · rw [w41 28 (by decide) (by decide)]; exact hm.2.2.1
      · rw [w41 29 (by decide) (by decide)]; exact hm.2.2.2
      · unfold TpO
        rw [allw 1 (by decide), allw 2 (by decide), allw 49 (by decide), w41 11 (by decide) (by decide)]
        exact t1
      · unfold PsO
        rw [w92, w91, show s7 41 3 = 0 by rw [e7, zU_s]]
        exact ⟨rfl, by decide, t2.2.2.1, fun i i0 i1 => by omega⟩
      · unfold ImO
        rw [allw 0 (by decide), allw 40 (by decide), allw 44 (by decide), w41 5 (by decide) (by decide)]
        exact t3
      · rw [allw 0 (by decide), w41 14 (by decide) (by decide)]; exact t4
      · unfold SaO
        rw [allw 45 (by decide), allw 46 (by decide)]
        exact t5
    · rw [e8, zU_if, hI i, hq 44 (by decide), all 44 (by decide)]
      by_cases e : i = y
      · rw [if_pos e, if_pos (by omega), e]
      · rw [if_neg e]
        by_cases e2 : 0 ≤ i ∧ i < y
        · rw [if_pos e2, if_pos (by omega)]
        · rw [if_neg e2, if_neg (by omega)]
  · unfold q_M_back
    intro s1 e1
    have f5 : s1 41 5 = σ 0 10 := by rw [e1, zU_k (by decide)]; exact i1.symm
    rw [f5]
    exact ⟨fun x => absurd z x, fun _ => ⟨rfl, by rw [e1]; exact INV_FR (FR_F (by decide)) hi⟩⟩
theorem zush_amt : ∀ c : Fin 32, (((zI ((c : Nat) : Int)).toUInt32 &&& Int32.toUInt32 31).toBitVec % (32 : BitVec 32)).toNat = (c : Nat) := by decide +kernel
theorem zUshr_bits (x : Int) {c : Nat} (hc : c < 32) : (zI (zUshr x (c : Int))).toBitVec = (zI x).toBitVec >>> c := by
  have h := zush_amt ⟨c, hc⟩
  simp only at h
  rw [← zI_ushr]
  show ((zI x).toUInt32 >>> ((zI (c : Int)).toUInt32 &&& Int32.toUInt32 31)).toBitVec = _
  rw [UInt32.toBitVec_shiftRight, BitVec.ushiftRight_eq', h]
  rfl
theorem zShr_bits (x : Int) {c : Nat} (hc : c < 32) : (zI (zShr x (c : Int))).toBitVec = (zI x).toBitVec.sshiftRight c := by
  have h := zsh_amt ⟨c, hc⟩
  simp only at h
  rw [← zI_shr, Int32.toBitVec_shiftRight]
  show (zI x).toBitVec.sshiftRight ((zI c &&& 31).toBitVec.smod 32).toNat = _
  rw [h]
theorem byte_eq (x : Int) {c : Nat} (hc : c ≤ 24) : zAnd (zUshr x (c : Int)) 255 = zAnd (zShr x (c : Int)) 255 := by
  have e : zI (zUshr x (c : Int)) &&& zI 255 = zI (zShr x (c : Int)) &&& zI 255 := by
    apply Int32.toBitVec_inj.mp
    rw [Int32.toBitVec_and, Int32.toBitVec_and, zUshr_bits x (by omega), zShr_bits x (by omega)]
    apply BitVec.eq_of_getLsbD_eq
    intro i hi
    rw [BitVec.getLsbD_and, BitVec.getLsbD_and, BitVec.getLsbD_ushiftRight, BitVec.getLsbD_sshiftRight]
    by_cases q : i < 8
    · simp [show c + i < 32 by omega, show ¬ 32 ≤ i by omega]
    · have : (zI 255).toBitVec.getLsbD i = false := by
        have : ∀ j : Fin 32, 8 ≤ (j : Nat) → (zI 255).toBitVec.getLsbD j = false := by decide +kernel
        exact this ⟨i, hi⟩ (by simp; omega)
      rw [this]
      simp
  unfold zAnd
  rw [e]
def sel5 (a b c d e k : Int) : Int := if k < 4 then a else if k < 8 then b else if k < 12 then c else if k < 16 then d else e
def byt (v j : Int) : Int := zAnd (zShr v (24 - 8 * j)) 255
theorem byt_b (v j : Int) : 0 ≤ byt v j ∧ byt v j ≤ 255 := by
  unfold byt
  rw [zAnd_255]
  omega
theorem t_T_add {K : zS → Prop} {σ : zS} {v : Int} (hs : 0 ≤ σ 1 1 ∧ σ 1 1 + 4 ≤ 400) (h : ∀ τ, zQ [1, 2] σ τ → τ 1 1 = σ 1 1 + 4 → (∀ i, τ 2 i = if σ 1 1 ≤ i ∧ i < σ 1 1 + 4 then byt v (i - σ 1 1) else σ 2 i) → K τ) : q_T_add v K σ := by
  unfold q_T_add
  refine ⟨fun y s => ∃ j, y = 24 - 8 * j ∧ 0 ≤ j ∧ j ≤ 4 ∧ zQ [1, 2] σ s ∧ s 1 1 = σ 1 1 + j ∧ ∀ i, s 2 i = if σ 1 1 ≤ i ∧ i < σ 1 1 + j then byt v (i - σ 1 1) else σ 2 i, fun y _ => (y + 8).toNat, ⟨0, by decide, by decide, by decide, zQ_r _ _, by omega, fun i => by rw [if_neg (by omega)]⟩, ?_⟩
  rintro y s ⟨j, rfl, j0, j4, hq, e1, hI⟩ -
  rw [e1]
  refine ⟨fun c => h s hq (by omega) (fun i => by rw [hI i, show j = 4 by omega]), fun c => ⟨fun d => by omega, fun d => ⟨by omega, fun s8 e8 => ?_⟩⟩⟩
  have f1 : s8 1 1 = σ 1 1 + j := by rw [e8, zU_o (by decide), e1]
  rw [f1]
  refine ⟨zRi (by omega) (by omega), fun s11 e11 => ⟨⟨j + 1, by omega, by omega, by omega, ?_, ?_, fun i => ?_⟩, zRi (by omega) (by omega), by dsimp only; omega⟩⟩
  · rw [e11, e8]; exact zQ_t hq (zQ_t (zQ_U (by decide)) (zQ_U (by decide)))
  · rw [e11, zU_s]; omega
  · rw [e11, zU_o (by decide), e8, zU_if, hI i]
    by_cases e : i = σ 1 1 + j
    · rw [if_pos e, if_pos (by omega)]
      unfold byt
      rw [show i - σ 1 1 = j by omega]
    · rw [if_neg e]
      by_cases e2 : σ 1 1 ≤ i ∧ i < σ 1 1 + j
      · rw [if_pos e2, if_pos (by omega)]
      · rw [if_neg e2, if_neg (by omega)]
theorem t_M_feed {K : Int → zS → Prop} {σ : zS} {a b c d e : Int} (ht : 0 ≤ σ 41 11 ∧ σ 41 11 ≤ 400) (h0 : 380 < σ 41 11 → K (-1) (zU σ 41 0 0)) (h1 : σ 41 11 ≤ 380 → ∀ τ, zQ [41, 49] σ τ → (∀ k, k ≠ 0 → k ≠ 11 → τ 41 k = σ 41 k) → τ 41 11 = σ 41 11 + 20 → (∀ i, τ 49 i = if σ 41 11 ≤ i ∧ i < σ 41 11 + 20 then byt (sel5 a b c d e (i - σ 41 11)) ((i - σ 41 11) % 4) else σ 49 i) → K (σ 41 11 + 20) τ) : q_M_feed a b c d e K σ := by
  unfold q_M_feed
  intro s1 e1
  have f11 : s1 41 11 = σ 41 11 := by rw [e1, zU_k (by decide)]
  rw [f11]
  refine ⟨zRi (by omega) (by omega), fun q => ?_, fun q => by rw [e1]; exact h0 (by omega)⟩
  refine ⟨fun y s => zQ [41, 49] σ s ∧ 0 ≤ y ∧ y ≤ 20 ∧ (∀ k, k ≠ 0 → k ≠ 11 → s 41 k = σ 41 k) ∧ s 41 11 = σ 41 11 + y ∧ ∀ i, s 49 i = if σ 41 11 ≤ i ∧ i < σ 41 11 + y then byt (sel5 a b c d e (i - σ 41 11)) ((i - σ 41 11) % 4) else σ 49 i, fun y _ => (20 - y).toNat, ⟨by rw [e1]; exact zQ_U (by decide), by decide, by decide, fun k hk _ => by rw [e1, zU_k hk], by omega, fun i => by rw [if_neg (by omega), e1, zU_o (by decide)]⟩, ?_⟩
  rintro y s ⟨hq, y0, y1, f41, ey, hI⟩ -
  refine ⟨fun x => ?_, fun x => ⟨fun w => w = sel5 a b c d e y, fun w hw _ => ?_, ?_⟩⟩
  · rw [ey, show y = 20 by omega]
    exact h1 (by omega) s hq f41 (by omega) (fun i => by rw [hI i, show y = 20 by omega])
  · rw [ey]
    refine ⟨by omega, fun s12 e12 => ?_⟩
    have g11 : s12 41 11 = σ 41 11 + y := by rw [e12, zU_o (by decide), ey]
    rw [g11]
    refine ⟨zRi (by omega) (by omega), fun s15 e15 => ⟨⟨?_, by omega, by omega, fun k k0 k1 => ?_, ?_, fun i => ?_⟩, zRi (by omega) (by omega), by dsimp only; omega⟩⟩
    · rw [e15, e12]; exact zQ_t hq (zQ_t (zQ_U (by decide)) (zQ_U (by decide)))
    · rw [e15, zU_k k1, e12, zU_o (by decide)]; exact f41 k k0 k1
    · rw [e15, zU_s]; omega
    · rw [e15, zU_o (by decide), e12, zU_if, hI i]
      by_cases ei : i = σ 41 11 + y
      · rw [if_pos ei, if_pos (by omega), show i - σ 41 11 = y by omega, hw, Int.tmod_eq_emod_of_nonneg y0]
        unfold byt
        have hc : ((24 - 8 * (y % 4)).toNat : Nat) ≤ 24 := by omega
        have := byte_eq (sel5 a b c d e y) hc
        rw [Int.toNat_of_nonneg (by omega)] at this
        exact this
      · rw [if_neg ei]
        by_cases e2 : σ 41 11 ≤ i ∧ i < σ 41 11 + y
        · rw [if_pos e2, if_pos (by omega)]
        · rw [if_neg e2, if_neg (by omega)]
  · unfold sel5
    refine ⟨fun c4 => ⟨fun c8 => ⟨fun c12 => ⟨fun c16 => ?_, fun c16 => ?_⟩, fun c12 => ?_⟩, fun c8 => ?_⟩, fun c4 => ?_⟩
    · show e = _
      rw [if_neg (by omega), if_neg (by omega), if_neg (by omega), if_neg (by omega)]
    · show d = _
      rw [if_neg (by omega), if_neg (by omega), if_neg (by omega), if_pos (by omega)]
    · show c = _
      rw [if_neg (by omega), if_neg (by omega), if_pos (by omega)]
    · show b = _
      rw [if_neg (by omega), if_pos (by omega)]
    · show a = _
      rw [if_pos (by omega)]
theorem pr_feed {σ : zS} {a b c d e : Int} (hi : INV σ) : q_R_feed a b c d e (fun r u => q_M_feed a b c d e (fun v w => r = v ∧ INV w) u) σ := by
  obtain ⟨L, hc, hm, hl, t1, t2, t3, t4, t5⟩ := id hi
  obtain ⟨p1, p2, p3⟩ := id t1
  unfold q_R_feed q_T_hasRoom
  refine ⟨zRi (by omega) (by omega), fun q => n0b (t_M_feed (by omega) (fun _ => ⟨rfl, INV_FR (FR_F (by decide)) hi⟩) (fun x => by omega)), fun q => n1b ?_⟩
  refine t_T_add (by omega) (fun s1 q1 e1 g1 => t_T_add (by omega) (fun s2 q2 e2 g2 => t_T_add (by omega) (fun s3 q3 e3 g3 => t_T_add (by omega) (fun s4 q4 e4 g4 => t_T_add (by omega) (fun s5 q5 e5 g5 => ?_)))))
  unfold q_T_size
  have qq : zQ [1, 2] σ s5 := zQ_t q1 (zQ_t q2 (zQ_t q3 (zQ_t q4 q5)))
  have h2 : ∀ i, s5 2 i = if σ 1 1 ≤ i ∧ i < σ 1 1 + 20 then byt (sel5 a b c d e (i - σ 1 1)) ((i - σ 1 1) % 4) else σ 2 i := by
    intro i
    unfold sel5
    rw [g5 i, g4 i, g3 i, g2 i, g1 i]
    by_cases r : σ 1 1 ≤ i ∧ i < σ 1 1 + 20
    · rw [if_pos r]
      by_cases r1 : i < σ 1 1 + 4
      · rw [if_neg (by omega), if_neg (by omega), if_neg (by omega), if_neg (by omega), if_pos (by omega), if_pos (by omega)]
        congr 1
        omega
      · by_cases r2 : i < σ 1 1 + 8
        · rw [if_neg (by omega), if_neg (by omega), if_neg (by omega), if_pos (by omega), if_neg (by omega), if_pos (by omega)]
          congr 1
          omega
        · by_cases r3 : i < σ 1 1 + 12
          · rw [if_neg (by omega), if_neg (by omega), if_pos (by omega), if_neg (by omega), if_neg (by omega), if_pos (by omega)]
            congr 1
            omega
          · by_cases r4 : i < σ 1 1 + 16
            · rw [if_neg (by omega), if_pos (by omega), if_neg (by omega), if_neg (by omega), if_neg (by omega), if_pos (by omega)]
              congr 1
              omega
            · rw [if_pos (by omega), if_neg (by omega), if_neg (by omega), if_neg (by omega), if_neg (by omega)]
              congr 1
              omega
    · rw [if_neg r, if_neg (by omega), if_neg (by omega), if_neg (by omega), if_neg (by omega), if_neg (by omega)]
  have f41 : s5 41 = σ 41 := qq 41 (by decide)
  refine t_M_feed (by rw [f41]; omega) (fun x => by rw [f41] at x; omega) (fun x τ q g41 g11 g49 => ⟨?_, ?_⟩)
  · rw [f41]; omega
  · rw [f41] at g41 g11 g49
    rw [qq 49 (by decide)] at g49
    have all : ∀ o, o ∉ [1, 2, 41, 49] → τ o = σ o := fun o ho => by
      simp only [List.mem_cons, List.not_mem_nil, or_false, not_or] at ho
      rw [q o (by simp [ho]), qq o (by simp [ho])]
    refine ⟨L, ⟨?_, ?_⟩, ⟨?_, fun g g0 g1 => ?_, ?_, ?_⟩, hl, ⟨?_, ?_, fun i i0 i1 => ?_⟩, ?_, ?_, ?_, ?_⟩
    · rw [all 4 (by decide)]; exact hc.1
    · rw [all 5 (by decide)]; exact hc.2
    · rw [all 42 (by decide)]; exact hm.1
    · rw [all 47 (by decide), all 48 (by decide)]; exact hm.2.1 g g0 g1
    · rw [g41 28 (by decide) (by decide)]; exact hm.2.2.1
    · rw [g41 29 (by decide) (by decide)]; exact hm.2.2.2
    · rw [g11, q 1 (by decide)]; omega
    · rw [q 1 (by decide)]; omega
    · rw [q 2 (by decide), h2 i, g49 i, ← p1]
      by_cases r : σ 1 1 ≤ i ∧ i < σ 1 1 + 20
      · rw [if_pos r, if_pos r]
        exact ⟨rfl, byt_b _ _⟩
      · rw [if_neg r, if_neg r]
        exact p3 i i0 i1
    · unfold PsO
      rw [all 9 (by decide), all 10 (by decide), all 43 (by decide), g41 3 (by decide) (by decide)]
      exact t2
    · unfold ImO
      rw [all 0 (by decide), all 40 (by decide), all 44 (by decide), g41 5 (by decide) (by decide)]
      exact t3
    · rw [all 0 (by decide), g41 14 (by decide) (by decide)]; exact t4
    · unfold SaO
      rw [all 45 (by decide), all 46 (by decide)]
      exact t5

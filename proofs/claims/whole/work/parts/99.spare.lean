/-! ===== spare agrees ===== -/
/-- the first of the greatest -/
def FMx (f : Int → Int) (n d c : Int) : Prop := (n ≤ 0 ∧ d = -1 ∧ c = -1) ∨ (0 ≤ d ∧ d < n ∧ c = f d ∧ (∀ j, 0 ≤ j → j < n → f j ≤ c) ∧ ∀ j, 0 ≤ j → j < d → f j < c)
theorem FMx_uniq {f : Int → Int} {n d c d' c' : Int} (h : FMx f n d c) (h' : FMx f n d' c') : d = d' ∧ c = c' := by
  rcases h with ⟨a, b, e⟩ | ⟨a1, a2, a3, a4, a5⟩
  · rcases h' with ⟨x, y, z⟩ | ⟨x1, x2, -⟩
    · omega
    · omega
  · rcases h' with ⟨x, y, z⟩ | ⟨x1, x2, x3, x4, x5⟩
    · omega
    · have u := a4 d' x1 x2
      have v := x4 d a1 a2
      have ec : c = c' := by omega
      refine ⟨?_, ec⟩
      by_cases q : d < d'
      · have := x5 d a1 q
        omega
      · by_cases q2 : d' < d
        · have := a5 d' x1 q2
          omega
        · omega
theorem FMx_s {f : Int → Int} {n d c : Int} (h : FMx f n d c) (n0 : 0 ≤ n) (hf : 0 ≤ f n) : (c < f n → FMx f (n + 1) n (f n)) ∧ (f n ≤ c → FMx f (n + 1) d c) := by
  refine ⟨fun q => Or.inr ⟨n0, by omega, rfl, fun j j0 j1 => ?_, fun j j0 j1 => ?_⟩, fun q => ?_⟩
  · by_cases e : j = n
    · rw [e]; exact Int.le_refl _
    · rcases h with z | z
      · omega
      · have := z.2.2.2.1 j j0 (by omega)
        omega
  · rcases h with z | z
    · omega
    · have := z.2.2.2.1 j j0 (by omega)
      omega
  · rcases h with z | ⟨a1, a2, a3, a4, a5⟩
    · omega
    · refine Or.inr ⟨a1, by omega, a3, fun j j0 j1 => ?_, a5⟩
      by_cases e : j = n
      · rw [e]; exact q
      · exact a4 j j0 (by omega)
theorem FMx_top {f : Int → Int} {n d c k M : Int} (h : FMx f k d c) (k0 : 0 ≤ k) (k1 : k < n) (hM : ∀ j, 0 ≤ j → j < n → f j ≤ M) (hc : c < M) (hk : f k = M) : FMx f n k M := by
  refine Or.inr ⟨k0, k1, hk.symm, hM, fun j j0 j1 => ?_⟩
  rcases h with z | z
  · omega
  · have := z.2.2.2.1 j j0 j1
    omega
/-- what the best way costs without its step k -/
noncomputable def SpF (L P : Int → Int) (from_ to_ k : Int) : Int := CoF L (P k) (P (k + 1)) from_ to_
theorem SpF_b {L P : Int → Int} {from_ to_ k : Int} (hL : GW L) (ifr : inP L from_) (ito : inP L to_) : 0 ≤ SpF L P from_ to_ k ∧ SpF L P from_ to_ k ≤ 1000000000 := by
  obtain ⟨F, hF⟩ := fLab_ex (A := P k) (B := P (k + 1)) hL ifr
  have ibb := ito.b hL
  obtain ⟨m, hm⟩ := ca_ex (d := F) (p := to_) (fun h h0 h1 => hF.2.2 (8 * to_ + h) ⟨by omega, by omega⟩)
  unfold SpF
  rw [CoF_eq hL ito ⟨F, hF, hm⟩]
  exact ⟨hm.1, hm.2.1⟩
theorem WayC_adj {L bw bw' wt lf D P : Int → Int} {from_ to_ n : Int} (hB : WB L bw wt lf 1) (ifr : inP L from_) (hway : WayP L (CnC L wt D) (cvC bw' D) from_ to_ n P) : Adj L P (n + 1) := by
  have cnb : ∀ p h g, inP L p → CnC L wt D p h g → (0 ≤ g ∧ g < 8) → bs L p g ≠ -1 := fun p h g ip c hg => ((hB.2.2 p g ip hg.1 hg.2).resolve_left c.1).1
  have hway' : WayP L (fun p h g => CnC L wt D p h g ∧ (0 ≤ g ∧ g < 8)) (cvC bw' D) from_ to_ n P := by
    obtain ⟨w1, w2, w3, w4, H, w5, w6⟩ := hway
    refine ⟨w1, w2, w3, w4, H, w5, fun k k0 k1 => ⟨⟨(w6 k k0 k1).1.1, ⟨(w6 k k0 k1).1.2.1, (w6 k k0 k1).1.1⟩, fun g g0 g1 hg => (w6 k k0 k1).1.2.2 g g0 g1 hg.1⟩, (w6 k k0 k1).2⟩⟩
  exact (Way_adj ifr (fun p h g ip c => cnb p h g ip c.1 c.2) hway').1
theorem t_N_dearestStep {K : Int → zS → Prop} {σ : zS} {L : Int → Int} {from_ to_ : Int} (hc : CC L σ) (hL : GW L) (hW : RWs L) (ifr : inP L from_) (ito : inP L to_) (h : ∀ d τ, zQ [12, 13, 15, 16, 17, 18, 19, 20, 21, 22, 23, 24, 25, 28] σ τ → ((∃ m : Int, m = 1000000000 ∧ d = -1 ∧ τ 28 9 = -1 ∧ FndP L 0 from_ to_ m τ) ∨ ∃ m c wt lf, m ≠ 1000000000 ∧ FMx (SpF L (τ 25) from_ to_) (τ 15 13 - 1) d c ∧ τ 28 9 = (if c = 1000000000 then -1 else c) ∧ (∃ τf, FndP L 0 from_ to_ m τf) ∧ WtS L (catL L) (-1) (-1) 0 wt lf ∧ WkP L (bwk L 0) wt lf from_ to_ (τ 15 13) (τ 25)) → K d τ) : q_N_dearestStep from_ to_ K σ := by
  unfold q_N_dearestStep
  intro s1 e1
  have q1 : zQ [28] σ s1 := by rw [e1]; exact zQ_U (by decide)
  refine t_W_find (CC_Q hc q1 (by decide)) hL hW (by decide) ifr ito (fun m τ q hf hsz hin hwk => ?_)
  have q2 : zQ [12, 13, 15, 16, 17, 18, 19, 20, 21, 22, 23, 24, 25, 28] σ τ := zQ_t (zQ_m q1 (by decide)) (zQ_m q (by decide))
  have t28 : τ 28 9 = -1 := by rw [q 28 (by decide), e1, zU_s]
  have m1 := hf.2.2.2.1.1
  by_cases em : m = 1000000000
  · rw [if_pos em]
    refine ⟨fun z => absurd rfl z, fun _ => h (-1) τ q2 (Or.inl ⟨m, em, rfl, t28, hf⟩)⟩
  · rw [if_neg em]
    refine ⟨fun _ => ?_, fun z => by omega⟩
    unfold q_W_pathSize
    intro x7 e7
    have hB := WtS_WB hL (catL_CB hL) hf.2.1
    obtain ⟨D, hD⟩ := cLab_ex (N := 648) (goal := to_) (ly := 1) rfl hL hB.1
    have hA : Adj L (τ 25) (τ 15 13) := by
      rcases hwk D hD with ⟨z, -⟩ | ⟨hn, hway⟩
      · intro k k0 k1
        omega
      · have a := WayC_adj hB.1 ifr hway
        rw [show τ 15 13 - 1 + 1 = τ 15 13 by omega] at a
        exact a
    refine ⟨fun d k s => zQ [16, 21, 22, 23, 24, 28] τ s ∧ s 16 = τ 16 ∧ 0 ≤ k ∧ (k ≤ x7 ∨ k = 0) ∧ ∃ c, c < 1000000000 ∧ FMx (SpF L (τ 25) from_ to_) k d c ∧ s 28 9 = c, fun _ k _ => (700 - k).toNat, ⟨zQ_r _ _, rfl, by decide, Or.inr rfl, -1, by decide, Or.inl ⟨by decide, rfl, rfl⟩, t28⟩, ?_⟩
    rintro d k s ⟨qs, s16, k0, k1, c, hc1, hM, hs⟩ - -
    have s25 : s 25 = τ 25 := qs 25 (by decide)
    have s15 : s 15 = τ 15 := qs 15 (by decide)
    refine ⟨zRi (by omega) (by omega), fun g1 => ?_, fun g1 => ?_⟩
    · refine h d s (zQ_t q2 (zQ_m qs (by decide))) (Or.inr ⟨m, c, _, _, em, ?_, ?_, ⟨τ, hf⟩, hf.2.1, ?_⟩)
      · rw [s25, s15]
        rcases hM with z | z
        · exact Or.inl ⟨by omega, z.2⟩
        · rw [show τ 15 13 - 1 = k by omega]
          exact Or.inr z
      · rw [if_neg (by omega)]; exact hs
      · rw [s25, s15]; exact hwk
    · have ak := hA k k0 (by omega)
      have hGs : GS L (bwk L 0) (s 16) (s 17) 1 s := by
        obtain ⟨a1, a2, a3, a4, a5, a6, a7⟩ := hf.1
        refine ⟨CC_Q a1 qs (by decide), ?_, ?_, ?_, ?_, rfl, rfl⟩
        · rw [s15]; exact a2
        · rw [s15]; exact a3
        · rw [qs 19 (by decide)]; exact a4
        · rw [qs 18 (by decide)]; exact a5
      refine t_N_costWithout (g := hg L (τ 25) k) hL hGs (by rw [s16, qs 17 (by decide)]; exact hf.2.1) ⟨k0, by omega⟩ ifr ito (by rw [s25]; exact ak.1) ak.2.2.1 (by rw [s25]; exact ak.2.2.2) (by rw [s25]; exact ak.2.1) (fun τ2 qt t16 hb => ?_)
      have t28' : τ2 28 9 = c := by rw [qt 28 (by decide)]; exact hs
      have q3 : zQ [16, 21, 22, 23, 24, 28] τ τ2 := zQ_t qs (zQ_m qt (by decide))
      have u16 : τ2 16 = τ 16 := by rw [t16]; exact s16
      rw [s25] at hb ⊢
      have ef : CoF L (τ 25 k) (τ 25 (k + 1)) from_ to_ = SpF L (τ 25) from_ to_ k := rfl
      rw [ef] at hb ⊢
      have st := FMx_s hM k0 hb.1
      by_cases z : SpF L (τ 25) from_ to_ k = 1000000000
      · rw [if_pos z]
        refine ⟨fun w => absurd rfl w, fun _ s23 e23 => ?_⟩
        have q4 : zQ [12, 13, 15, 16, 17, 18, 19, 20, 21, 22, 23, 24, 25, 28] τ s23 := by rw [e23]; exact zQ_t (zQ_m q3 (by decide)) (zQ_U (by decide))
        have w25 : s23 25 = τ 25 := by rw [e23, zU_row (by decide), q3 25 (by decide)]
        have w15 : s23 15 = τ 15 := by rw [e23, zU_row (by decide), q3 15 (by decide)]
        refine h k s23 (zQ_t q2 q4) (Or.inr ⟨m, 1000000000, _, _, em, ?_, ?_, ⟨τ, hf⟩, hf.2.1, ?_⟩)
        · rw [w25, w15]
          exact FMx_top hM k0 (by omega) (fun j _ _ => (SpF_b hL ifr ito).2) hc1 z
        · rw [if_pos rfl, e23, zU_s]
        · rw [w25, w15]; exact hwk
      · rw [if_neg z, t28']
        refine ⟨fun _ => ⟨fun w => ⟨⟨q3, u16, by omega, by omega, c, hc1, st.2 w, t28'⟩, zRi (by omega) (by omega), by dsimp only; omega⟩, fun w s20 e20 => ⟨⟨?_, ?_, by omega, by omega, _, ?_, st.1 w, ?_⟩, zRi (by omega) (by omega), by dsimp only; omega⟩⟩, fun w => by omega⟩
        · rw [e20]; exact zQ_t q3 (zQ_U (by decide))
        · rw [e20, zU_row (by decide)]; exact u16
        · omega
        · rw [e20, zU_s]
theorem FMx_congr {f f' : Int → Int} {n d c : Int} (e : ∀ j, 0 ≤ j → j < n → f j = f' j) (h : FMx f n d c) : FMx f' n d c := by
  rcases h with z | ⟨a1, a2, a3, a4, a5⟩
  · exact Or.inl z
  · exact Or.inr ⟨a1, a2, by rw [a3]; exact e d a1 a2, fun j j0 j1 => by rw [← e j j0 j1]; exact a4 j j0 j1, fun j j0 j1 => by rw [← e j j0 (by omega)]; exact a5 j j0 j1⟩
theorem MM_41S {L : Int → Int} {A B : Int} {σ s : zS} {S : List Nat} (hm : MM L A B σ) (hq : zQ S σ s) (hS : 42 ∉ S ∧ 47 ∉ S ∧ 48 ∉ S) (h41 : ∀ k, k ≠ 20 → s 41 k = σ 41 k) : MM L A B s := by
  refine ⟨by rw [hq 42 hS.1]; exact hm.1, fun g g0 g1 => ?_, by rw [h41 28 (by decide)]; exact hm.2.2.1, by rw [h41 29 (by decide)]; exact hm.2.2.2⟩
  rw [hq 47 hS.2.1, hq 48 hS.2.2]
  exact hm.2.1 g g0 g1
theorem MM_bar {L : Int → Int} {A B A' B' : Int} {σ s : zS} (h : MM L A B σ) (e : s = zU (zU σ 41 28 A') 41 29 B') : MM L A' B' s := by
  rw [e]
  refine ⟨by rw [zU_row (by decide), zU_row (by decide)]; exact h.1, fun g g0 g1 => ?_, ?_, ?_⟩
  · rw [zU_row (by decide), zU_row (by decide), zU_row (by decide), zU_row (by decide)]; exact h.2.1 g g0 g1
  · rw [zU_k (by decide), zU_s]
  · rw [zU_s]
/-- the reference's search, behind its guard: the answer, and the bars are none again -/
theorem t_M_spareBody {K : Int → zS → Prop} {σ : zS} {L : Int → Int} {from_ to_ what : Int} (hm : MM L (-1) (-1) σ) (hL : GW L) (hW : RWs L) (ifr : inP L from_) (ito : inP L to_) (hno : ∀ τ, zQ [41, 51, 52, 54, 60, 62] σ τ → (∀ k, k ≠ 20 → τ 41 k = σ 41 k) → WayV L (-1) (-1) 0 from_ to_ (-1) → K (-1) τ) (hok : ∀ τ d c n P, zQ [41, 51, 52, 54, 60, 62] σ τ → (∀ k, k ≠ 20 → τ 41 k = σ 41 k) → WayR L (-1) (-1) 0 from_ to_ n P → (1 ≤ n ∧ n ≤ 649) → (from_ ≠ to_ → ∃ v, 0 ≤ v ∧ WayV L (-1) (-1) 0 from_ to_ v) → FMx (SpF L P from_ to_) (n - 1) d c → K (if what = 0 then d else if c = 1000000000 then -1 else c) τ) : q_M_isWay from_ to_ 0 (fun r9 σ8 => (r9 ≠ 0 → ∀ x12 : Int, x12 = σ8 41 20 → ∃ (I77 : Int → zS → Prop) (μ77 : Int → zS → Nat), (I77 0 σ8) ∧ ∀ (y13 : Int) (σ14 : zS), I77 y13 σ14 → zR y13 → 
            (x12 ≤ y13 →
              ∃ (I113 : Int → Int → Int → zS → Prop) (μ113 : Int → Int → Int → zS → Nat), (I113 (-1) (-1) 0 σ14) ∧ ∀ (y16 y17 y18 : Int) (σ19 : zS), I113 y16 y17 y18 σ19 → zR y16 → zR y17 → zR y18 → 
              zR (x12 - 1) ∧ (((x12 - 1) ≤ y18 →
                  ∀ σ22 : zS, σ22 = zU σ19 41 28 (-1) → ∀ σ23 : zS, σ23 = zU σ22 41 29 (-1) → (what ≠ 0 →
                    (y17 ≠ 1000000000 →
                      K y17 σ23) ∧ (y17 = 1000000000 →
                      K (-1) σ23)) ∧ (what = 0 →
                    K y16 σ23)) ∧ (y18 < (x12 - 1) →
                  (0 ≤ y18 ∧ y18 < 700) ∧ (∀ σ28 : zS, σ28 = zU σ19 41 28 (σ19 60 y18) → (0 ≤ y18 + 1 ∧ y18 + 1 < 700) ∧ (∀ σ31 : zS, σ31 = zU σ28 41 29 (σ28 60 (y18 + 1)) → q_M_goesFrom from_ (fun σ32 =>
                        q_M_costAt to_ (fun r34 σ33 =>
                          (y17 < r34 →
                            I113 y18 r34 (y18 + 1) σ33 ∧ zR (y18 + 1) ∧ μ113 y18 r34 (y18 + 1) σ33 < μ113 y16 y17 y18 σ19) ∧ (r34 ≤ y17 →
                            I113 y16 y17 (y18 + 1) σ33 ∧ zR (y18 + 1) ∧ μ113 y16 y17 (y18 + 1) σ33 < μ113 y16 y17 y18 σ19)) σ32) σ31))))) ∧ (y13 < x12 →
              (0 ≤ y13 ∧ y13 < 700) ∧ (∀ σ42 : zS, σ42 = zU σ14 60 y13 (σ14 54 y13) → I77 (y13 + 1) σ42 ∧ zR (y13 + 1) ∧ μ77 (y13 + 1) σ42 < μ77 y13 σ14))) ∧ (r9 = 0 →
            K (-1) σ8)) σ := by
  refine t_M_wayR hm hL hW (by decide) ifr ito (fun τ q f41 _ hn2 hway hv hvv => n1b ?_) (fun τ q f41 hv hvv => n0b (hno τ (zQ_m q (by decide)) f41 hvv))
  intro x12 e12
  have hmτ := MM_41S hm q (by decide) f41
  obtain ⟨Cn, cv, hcn, hwp⟩ := hway
  obtain ⟨hA, -, -⟩ := Way_adj ifr hcn hwp
  rw [show τ 41 20 - 1 + 1 = τ 41 20 by omega] at hA
  have nng : 0 ≤ smI (mtm L (catL L) 0 (τ 54)) (τ 41 20 - 1).toNat := by
    have := (smI_bd (f := mtm L (catL L) 0 (τ 54)) (a := 0) (b := 1085) (τ 41 20 - 1).toNat (fun i hi => mtm_b hL (catL_CB hL) hA (by omega))).1
    omega
  refine ⟨fun y s => zQ [60] τ s ∧ 0 ≤ y ∧ y ≤ x12 ∧ ∀ j, 0 ≤ j → j < y → s 60 j = τ 54 j, fun y _ => (700 - y).toNat, ⟨zQ_r _ _, by decide, by omega, fun j a b => by omega⟩, ?_⟩
  rintro y s ⟨qs, y0, y1, hI⟩ -
  refine ⟨fun c1 => ?_, fun c1 => ⟨by omega, fun s1 e1 => ⟨⟨by rw [e1]; exact zQ_t qs (zQ_U (by decide)), by omega, by omega, fun j j0 j1 => ?_⟩, zRi (by omega) (by omega), by dsimp only; omega⟩⟩⟩
  · have hms := MM_Q hmτ qs (by decide)
    refine ⟨fun d c k t => zQ [41, 51] s t ∧ (∀ j, j ≠ 28 → j ≠ 29 → t 41 j = s 41 j) ∧ (∃ A B, MM L A B t) ∧ 0 ≤ k ∧ k ≤ x12 - 1 ∧ FMx (SpF L (τ 54) from_ to_) k d c, fun _ _ k _ => (700 - k).toNat, ⟨zQ_r _ _, fun _ _ _ => rfl, ⟨_, _, hms⟩, by decide, by omega, Or.inl ⟨by decide, rfl, rfl⟩⟩, ?_⟩
    rintro d c k t ⟨qt, f41t, ⟨A, B, hmt⟩, k0, k1, hM⟩ - - -
    refine ⟨zRi (by omega) (by omega), fun c2 s22 e22 s23 e23 => ?_, fun c2 => ⟨by omega, fun s28 e28 => ⟨by omega, fun s31 e31 => ?_⟩⟩⟩
    · have q23 : zQ [41, 51, 52, 54, 60, 62] σ s23 := by
        rw [e23, e22]
        exact zQ_t (zQ_m q (by decide)) (zQ_t (zQ_m qs (by decide)) (zQ_t (zQ_m qt (by decide)) (zQ_t (zQ_U (by decide)) (zQ_U (by decide)))))
      have f23 : ∀ j, j ≠ 20 → s23 41 j = σ 41 j := fun j hj => by
        rw [e23, e22]
        by_cases j9 : j = 29
        · rw [j9, zU_s]; exact hm.2.2.2.symm
        · rw [zU_k j9]
          by_cases j8 : j = 28
          · rw [j8, zU_s]; exact hm.2.2.1.symm
          · rw [zU_k j8, f41t j j8 j9, qs 41 (by decide)]; exact f41 j hj
      rw [show k = x12 - 1 by omega, e12] at hM
      have fin := hok s23 d c (τ 41 20) (τ 54) q23 f23 hv hn2 (fun ne => ⟨_, nng, hvv ne⟩) hM
      refine ⟨fun w => ?_, fun w => ?_⟩
      · rw [if_neg w] at fin
        refine ⟨fun z => ?_, fun z => ?_⟩
        · rw [if_neg z] at fin; exact fin
        · rw [if_pos z] at fin; exact fin
      · rw [if_pos w] at fin; exact fin
    · have t60 : ∀ j, 0 ≤ j → j < x12 → t 60 j = τ 54 j := fun j j0 j1 => by rw [qt 60 (by decide)]; exact hI j j0 (by omega)
      have a28 : s28 60 (k + 1) = τ 54 (k + 1) := by rw [e28, zU_row (by decide)]; exact t60 _ (by omega) (by omega)
      have hm31 : MM L (τ 54 k) (τ 54 (k + 1)) s31 := MM_bar hmt (by rw [e31, a28, e28, t60 k k0 (by omega)])
      refine t_M_goesFrom hm31 hL hW.rb ifr (fun τ2 q2 hb hLab => t_M_costOf hL ito ⟨hb, hLab⟩ (fun bb => ?_))
      have ef : CoF L (τ 54 k) (τ 54 (k + 1)) from_ to_ = SpF L (τ 54) from_ to_ k := rfl
      rw [ef] at bb ⊢
      have st := FMx_s hM k0 bb.1
      have qq : zQ [41, 51] s τ2 := zQ_t qt (zQ_t (by rw [e31, e28]; exact zQ_t (zQ_U (by decide)) (zQ_U (by decide))) (zQ_m q2 (by decide)))
      have ff : ∀ j, j ≠ 28 → j ≠ 29 → τ2 41 j = s 41 j := fun j h8 h9 => by
        rw [q2 41 (by decide), e31, zU_k h9, e28, zU_k h8]; exact f41t j h8 h9
      have mm : ∃ A B, MM L A B τ2 := ⟨_, _, MM_Q hm31 q2 (by decide)⟩
      exact ⟨fun w => ⟨⟨qq, ff, mm, by omega, by omega, st.1 w⟩, zRi (by omega) (by omega), by dsimp only; omega⟩, fun w => ⟨⟨qq, ff, mm, by omega, by omega, st.2 w⟩, zRi (by omega) (by omega), by dsimp only; omega⟩⟩
  · rw [e1, zU_if]
    by_cases z : j = y
    · rw [if_pos z, z, qs 54 (by decide)]
    · rw [if_neg z]; exact hI j j0 (by omega)
theorem pr_spare {σ : zS} {a b c : Int} (hi : INV σ) : q_A_spare a b c (fun r u => q_M_spare a b c (fun v w => Agr r v w) u) σ := by
  obtain ⟨L, hc, hm, hl, -⟩ := id hi
  have hn := hl.n
  have ref : ∀ (x : Int) (u : zS), FR σ u → (¬ (inP L a ∧ inP L b) → Agr x 0 (zU u 41 0 1)) → ((inP L a ∧ inP L b) → ¬ (0 ≤ c ∧ c ≤ 1) → Agr x 0 (zU u 41 0 2)) → ((inP L a ∧ inP L b) → (0 ≤ c ∧ c ≤ 1) → a = b → Agr x 0 (zU u 41 0 3)) → ((inP L a ∧ inP L b) → (0 ≤ c ∧ c ≤ 1) → a ≠ b → ∀ τ, zQ [41, 51, 52, 54, 60, 62] (zU u 41 0 0) τ → (∀ k, k ≠ 20 → τ 41 k = (zU u 41 0 0) 41 k) → (WayV L (-1) (-1) 0 a b (-1) → Agr x (-1) τ) ∧ (∀ d e n P, WayR L (-1) (-1) 0 a b n P → (1 ≤ n ∧ n ≤ 649) → (a ≠ b → ∃ v, 0 ≤ v ∧ WayV L (-1) (-1) 0 a b v) → FMx (SpF L P a b) (n - 1) d e → Agr x (if c = 0 then d else if e = 1000000000 then -1 else e) τ)) → q_M_spare a b c (fun v w => Agr x v w) u := by
    intro x u fr a1 a2 a3 a0
    have hmu := FR_MM fr hm
    have main : inP L a → inP L b → (0 ≤ c ∧ c ≤ 1) → a ≠ b → _ := fun i1 i2 hk ne => t_M_spareBody (K := fun v w => Agr x v w) (what := c) (MM_F (k := 0) (v := 0) hmu (by decide)) (hl.gw i1).1 (hl.gw i1).2 i1 i2 (fun τ q f hv => (a0 ⟨i1, i2⟩ hk ne τ q f).1 hv) (fun τ d e n P q f h1 h2 h3 h4 => (a0 ⟨i1, i2⟩ hk ne τ q f).2 d e n P h1 h2 h3 h4)
    have guard := gd3 (σ := u) (K := fun s => Agr x 0 s) (c1 := ¬ (inP L a ∧ inP L b)) (c2 := ¬ (0 ≤ c ∧ c ≤ 1)) (c3 := a = b) a1 (fun p q => a2 (Classical.not_not.mp p) q) (fun p q r => a3 (Classical.not_not.mp p) (Classical.not_not.mp q) r) (fun p q r => main (Classical.not_not.mp p).1 (Classical.not_not.mp p).2 (Classical.not_not.mp q) r)
    unfold q_M_spare
    refine t_M_isPlace hmu hn (fun i1 => ?_) (fun i1 => ?_)
    · refine ⟨fun w s => s = u ∧ GdP (¬ (inP L a ∧ inP L b)) (¬ (0 ≤ c ∧ c ≤ 1)) (a = b) w, fun w s4 hj _ => guard w s4 hj, fun s => s = u ∧ ¬ (inP L a ∧ inP L b), fun s hs => ⟨hs.1, Or.inl ⟨rfl, hs.2⟩⟩, n1a (t_M_isPlace hmu hn (fun i2 => n1b (t_M_isIn (fun p q => n1b ?_) (fun p => n0b ?_))) (fun i2 => n0b ⟨rfl, fun z => i2 z.2⟩))⟩
      · have g1 : ¬ ¬ (inP L a ∧ inP L b) := fun z => z ⟨i1, i2⟩
        have g2 : ¬ ¬ (0 ≤ c ∧ c ≤ 1) := fun z => z ⟨p, q⟩
        exact ⟨fun ne => ⟨rfl, Or.inr ⟨g1, Or.inr ⟨g2, Or.inr ⟨rfl, ne⟩⟩⟩⟩, fun e => ⟨rfl, Or.inr ⟨g1, Or.inr ⟨g2, Or.inl ⟨rfl, e⟩⟩⟩⟩⟩
      · exact ⟨rfl, Or.inr ⟨fun z => z ⟨i1, i2⟩, Or.inl ⟨rfl, p⟩⟩⟩
    · exact ⟨fun w s => s = u ∧ GdP (¬ (inP L a ∧ inP L b)) (¬ (0 ≤ c ∧ c ≤ 1)) (a = b) w, fun w s4 hj _ => guard w s4 hj, fun s => s = u ∧ ¬ (inP L a ∧ inP L b), fun s hs => ⟨hs.1, Or.inl ⟨rfl, hs.2⟩⟩, n0a ⟨rfl, fun z => i1 z.1⟩⟩
  unfold q_A_spare q_R_spare
  refine t_R_needPair hc hn (fun i1 i2 => t_R_needAnswer (fun c0 c1 => t_R_needUnlike (fun ne => ?_) (fun e => Or.inr (Or.inr ⟨rfl, ?_⟩))) (fun nk => Or.inr (Or.inl ⟨rfl, ?_⟩))) (fun ni => Or.inl ⟨rfl, ?_⟩)
  · obtain ⟨hL, hW⟩ := hl.gw i1
    refine t_N_dearestStep hc hL hW i1 i2 (fun d τ q hd => ?_)
    have val : ∀ v, v = (if c = 0 then d else τ 28 9) → q_M_spare a b c (fun v w => Agr 0 v w) (zU τ 64 0 v) := by
      intro v ev
      have fr : FR σ (zU τ 64 0 v) := FR_t (FR_Q q (by decide) (by decide)) (FR_64 v)
      refine ref 0 _ fr (fun w => absurd ⟨i1, i2⟩ w) (fun _ w => absurd ⟨c0, by omega⟩ w) (fun _ _ w => absurd w ne) (fun _ _ _ τ' q' f' => ?_)
      have fin : ∀ w, w = v → Agr 0 w τ' := fun w ew => by
        rw [ew]
        refine Agr_0 hi (FR_t (FR_t fr (FR_F (by decide))) (FR_Qf q' (by decide) (f41_fcor f'))) (by rw [f' 0 (by decide), zU_s]) (by rw [q' 64 (by decide), zU_o (by decide), zU_s])
      refine ⟨fun hv => fin _ ?_, fun d' e' n P hr hn2 hvv hM => fin _ ?_⟩
      · rcases hd with ⟨m, em, d1, d2, -⟩ | ⟨m, e', wt, lf, em, -, -, ⟨τf, hf⟩, -, -⟩
        · rw [ev, d1, d2]
          split <;> rfl
        · have vm := val_match hL i1 i2 hf.2.1 hf.2.2.2.1 hf.2.2.2.2 hv
          rw [if_neg em] at vm
          have := hf.2.2.2.1.1
          omega
      · obtain ⟨w, w0, hw⟩ := hvv ne
        rcases hd with ⟨m, em, d1, d2, hf⟩ | ⟨m, e2, wt, lf, em, hM2, h28, -, hwt, hwk⟩
        · have vm := val_match hL i1 i2 hf.2.1 hf.2.2.2.1 hf.2.2.2.2 hw
          rw [if_pos em] at vm
          omega
        · have pm := path_match hL i1 i2 ne hwt hwk hr
          rw [pm.1] at hM2
          have hM3 := FMx_congr (f' := SpF L P a b) (fun j j0 j1 => by
            unfold SpF
            rw [pm.2 j j0 (by omega), pm.2 (j + 1) (by omega) (by omega)]) hM2
          have u := FMx_uniq hM hM3
          rw [ev, u.1, u.2, h28]
    unfold q_N_dearestCost
    refine ⟨fun w => val _ (by rw [if_neg w]), fun w => val _ (by rw [if_pos w])⟩
  · exact ref 3 σ (FR_r σ) (fun z => absurd ⟨i1, i2⟩ z) (fun _ z => absurd ⟨c0, by omega⟩ z) (fun _ _ _ => Agr_x hi (by decide)) (fun _ _ z => absurd e z)
  · exact ref 2 σ (FR_r σ) (fun z => absurd ⟨i1, i2⟩ z) (fun _ _ => Agr_x hi (by decide)) (fun _ z => absurd ⟨z.1, by omega⟩ nk) (fun _ z => absurd ⟨z.1, by omega⟩ nk)
  · exact ref 1 σ (FR_r σ) (fun _ => Agr_x hi (by decide)) (fun z => absurd z ni) (fun z => absurd z ni) (fun z => absurd z ni)

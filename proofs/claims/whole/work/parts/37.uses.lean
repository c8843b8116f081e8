/-! ===== the class's weights ===== -/
theorem up_up (d : Int → Int) (v x y : Int) : up (up d v x) v y = up d v y := by
  funext i
  unfold up
  split <;> rfl
theorem t_J_fill2 {o N : Nat} {M v : Int} {K : zS → Prop} {σ : zS} (e : (N : Int) = M) (h : K (zFill σ o 0 M v)) : q_J_fill2 o N v K σ := by
  unfold q_J_fill2
  rw [e]
  exact h
theorem zU_up_o (σ : zS) {o a : Nat} (k v : Int) (h : a ≠ o) : zU σ o k v a = σ a := zU_row h
def UsK (L : Int → Int) (r k p h : Int) : Prop := ∃ r' k', 0 ≤ r' ∧ 0 ≤ k' ∧ k' + 1 < L (175 + 81 * r') ∧ (r' < r ∨ (r' = r ∧ k' < k)) ∧ ((L (176 + 81 * r' + k') = p ∧ rhd L r' k' = h) ∨ (L (176 + 81 * r' + (k' + 1)) = p ∧ opp (rhd L r' k') = h))
/-- used holds, of each place, a bit for each heading by which some road goes -/
def UU (L : Int → Int) (σ : zS) : Prop := ∀ p g, inP L p → 0 ≤ g → g < 8 → bs L p g ≠ -1 → zAnd (zShr (σ 20 p) g) 1 = cif (Usd L p (bs L p g)) 1 0
theorem UsK_Usd {L : Int → Int} (hL : GW L) (hW : RWs L) {p h : Int} (hp : inP L p) (h0 : 0 ≤ h) (h1 : h < 8) (hb : bs L p h ≠ -1) : UsK L 4 0 p h ↔ Usd L p (bs L p h) := by
  constructor
  · rintro ⟨r, k, r0, k0, k1, hr, hk⟩
    have hd := (hW r r0 (by omega)).hd k0 k1
    refine ⟨r, r0, by omega, k, k0, by omega, ?_⟩
    rcases hk with ⟨e1, e2⟩ | ⟨e1, e2⟩
    · refine Or.inl ⟨e1, ?_⟩
      rw [← hd.2.1, e1, e2]
    · refine Or.inr ⟨?_, e1⟩
      have := bs_opp hL hd.2.2.1 hd.1.1 hd.1.2 (by rw [hd.2.1]; exact hd.2.2.2.ne)
      rw [hd.2.1, e1, e2] at this
      exact this.symm
  · rintro ⟨r, r0, r1, k, k0, k1, hk⟩
    have hd := (hW r r0 r1).hd k0 (by omega)
    refine ⟨r, k, r0, k0, by omega, Or.inl r1, ?_⟩
    rcases hk with ⟨e1, e2⟩ | ⟨e1, e2⟩
    · refine Or.inl ⟨e1, ?_⟩
      have h3 := hd.2.1
      rw [e1, e2] at h3
      exact bs_inj hd.1.1 hd.1.2 h0 h1 h3 (by rw [h3]; exact hb)
    · refine Or.inr ⟨e2, ?_⟩
      have h3 := hd.2.1
      rw [e1, e2] at h3
      have h4 := bs_opp hL hp h0 h1 hb
      have h5 := bs_inj hd.1.1 hd.1.2 opp_r.1 opp_r.2 (h3.trans h4.symm) (by rw [h3]; exact hp.ne)
      rw [h5]
      exact opp_opp h0 h1
theorem t_W_markUsed {K : zS → Prop} {σ : zS} {L : Int → Int} (hc : CC L σ) (hL : GW L) (hW : RWs L) (h : ∀ τ, zQ [20] σ τ → UU L τ → K τ) : q_W_markUsed K σ := by
  unfold q_W_markUsed
  refine t_J_fill2 (M := 81) rfl ?_
  have hb32 : ∀ {g : Int}, 0 ≤ g ∧ g < 8 → 0 ≤ g ∧ g < 32 := fun h => ⟨h.1, by omega⟩
  refine ⟨fun y s => zQ [20] σ s ∧ 0 ≤ y ∧ y ≤ 4 ∧ ∀ p h, inP L p → 0 ≤ h → h < 8 → (bit (s 20 p) h.toNat = true ↔ UsK L y 0 p h), fun y _ => (4 - y).toNat, ⟨zQ_F (by decide), by decide, by decide, fun p h hp h0 h1 => ?_⟩, ?_⟩
  · have hb := hp.b hL
    rw [zFill_at hb.1 hb.2, bit_zero (by omega)]
    simp only [Bool.false_eq_true, false_iff]
    rintro ⟨r, k, r0, k0, k1, hr, -⟩
    omega
  rintro y s ⟨hq, y0, y4, hI⟩ -
  refine ⟨fun c => h s hq (fun p g hp g0 g1 hb => ?_), fun c => ?_⟩
  · rw [bit_tbi _ (by omega)]
    have e := (hI p g hp g0 g1).trans ((show y = 4 by omega) ▸ UsK_Usd hL hW hp g0 g1 hb)
    by_cases u : Usd L p (bs L p g)
    · rw [cif_t u, if_pos (e.mpr u)]
    · rw [cif_f u, if_neg (fun x => u (e.mp x))]
  have hRB := hW.rb y y0 c
  refine ⟨fun z s' => zQ [20] σ s' ∧ 0 ≤ z ∧ z ≤ 40 ∧ ∀ p h, inP L p → 0 ≤ h → h < 8 → (bit (s' 20 p) h.toNat = true ↔ UsK L y z p h), fun z _ => (40 - z).toNat, ⟨hq, by decide, by decide, hI⟩, ?_⟩
  rintro z s' ⟨hq', z0, z40, hI'⟩ -
  have hc' := CC_Q hc hq' (by decide)
  refine t_L_roadSize hc' ⟨y0, c⟩ ⟨zRi (by omega) (by omega), fun d => ⟨⟨hq', by omega, by omega, fun p h hp h0 h1 => (hI' p h hp h0 h1).trans ?_⟩, zRi (by omega) (by omega), by dsimp only; omega⟩, fun d => ?_⟩
  · constructor
    · rintro ⟨r, k, r0, k0, k1, hr, hk⟩
      exact ⟨r, k, r0, k0, k1, Or.inl (by omega), hk⟩
    · rintro ⟨r, k, r0, k0, k1, hr, hk⟩
      refine ⟨r, k, r0, k0, k1, ?_, hk⟩
      by_cases e : r = y
      · subst e
        exact Or.inr ⟨rfl, by omega⟩
      · exact Or.inl (by omega)
  have hd := (hW y y0 c).hd z0 d
  have hd1 := hd.2.2.1.b hL
  have hd2 := hd.2.2.2.b hL
  refine t_L_roadHeading hc' hL ⟨y0, c⟩ (hW y y0 c) z0 d (by omega) (t_L_roadPlace hc' ⟨y0, c⟩ (by omega) ⟨hd1, fun s1 e1 => t_L_roadPlace (by rw [e1]; exact CC_U hc' (by decide)) ⟨y0, c⟩ (by omega) ⟨hd2, t_R_opposite (fun s2 e2 => ?_)⟩⟩)
  have hq2 : zQ [20] σ s2 := by
    rw [e2, e1]
    exact zQ_t (zQ_t hq' (zQ_U (by decide))) (zQ_U (by decide))
  refine ⟨⟨hq2, by omega, by omega, fun p h hp h0 h1 => ?_⟩, by dsimp only; omega⟩
  have stp : bit (s2 20 p) h.toNat = true ↔ (bit (s' 20 p) h.toNat = true ∨ (L (176 + 81 * y + z) = p ∧ rhd L y z = h) ∨ (L (176 + 81 * y + (z + 1)) = p ∧ opp (rhd L y z) = h)) := by
    have b1 : ∀ p', bit (s1 20 p') h.toNat = true ↔ (bit (s' 20 p') h.toNat = true ∨ (L (176 + 81 * y + z) = p' ∧ rhd L y z = h)) := by
      intro p'
      rw [e1, zU_if]
      by_cases e : p' = L (176 + 81 * y + z)
      · rw [if_pos e, ← e, bit_seti _ (by omega) (hb32 hd.1), Bool.or_eq_true, decide_eq_true_eq]
        constructor
        · rintro (q | q)
          · exact Or.inl q
          · exact Or.inr ⟨rfl, q.symm⟩
        · rintro (q | q)
          · exact Or.inl q
          · exact Or.inr q.2.symm
      · rw [if_neg e]
        constructor
        · exact Or.inl
        · rintro (q | q)
          · exact q
          · exact absurd q.1.symm e
    rw [e2, zU_if]
    by_cases e : p = L (176 + 81 * y + (z + 1))
    · rw [if_pos e, ← e, bit_seti _ (by omega) (hb32 opp_r), Bool.or_eq_true, decide_eq_true_eq, b1 p]
      constructor
      · rintro (q | q)
        · rcases q with q | q
          · exact Or.inl q
          · exact Or.inr (Or.inl q)
        · exact Or.inr (Or.inr ⟨rfl, q.symm⟩)
      · rintro (q | q | q)
        · exact Or.inl (Or.inl q)
        · exact Or.inl (Or.inr q)
        · exact Or.inr q.2.symm
    · rw [if_neg e, b1 p]
      constructor
      · rintro (q | q)
        · exact Or.inl q
        · exact Or.inr (Or.inl q)
      · rintro (q | q | q)
        · exact Or.inl q
        · exact Or.inr q
        · exact absurd q.1.symm e
  rw [stp, hI' p h hp h0 h1]
  constructor
  · rintro (⟨r, k, r0, k0, k1, hr, hk⟩ | q)
    · exact ⟨r, k, r0, k0, k1, by omega, hk⟩
    · exact ⟨y, z, y0, z0, d, Or.inr ⟨rfl, by omega⟩, q⟩
  · rintro ⟨r, k, r0, k0, k1, hr, hk⟩
    by_cases e : r = y ∧ k = z
    · obtain ⟨rfl, rfl⟩ := e
      exact Or.inr hk
    · exact Or.inl ⟨r, k, r0, k0, k1, by omega, hk⟩
theorem t_W_amount {K : Int → zS → Prop} {σ : zS} {L C : Int → Int} {p g kind : Int} (hc : CC L σ) (hL : GW L) (hCB : CB L C) (hU : kind = 4 → UU L σ) (hC : kind = 5 → ∀ p, inP L p → σ 13 p = C p) (hk : 0 ≤ kind ∧ kind ≤ 5) (hp : inP L p) (hg : 0 ≤ g ∧ g < 8) (hb : bs L p g ≠ -1) (h : K (kst L C kind p g) σ) : q_W_amount p g kind K σ := by
  have h1 := cst_b hL hp hb
  have hq := bs_in hb
  have hp2 := hp.b hL
  have hq2 := hq.b hL
  have a1 := hL.2.2.1 p hp2.1 hp2.2
  have a2 := hL.2.2.1 _ hq2.1 hq2.2
  unfold q_W_amount
  refine t_L_besideOf hc hL hp hg (t_L_height hc hL hq (t_L_height hc hL hp (fun x7 e7 => t_R_longOf (t_L_value (v := 5) hc (by decide) rfl ⟨fun w => w = dif L p (bs L p g), fun w ew _ x13 e13 => ?_, zRi (by omega) (by omega), fun d => ?_, fun d => ⟨?_, zRi (by omega) (by omega)⟩⟩))))
  · have e : x13 = cst L p g := by
      rw [e13, ew]
      rfl
    rw [e]
    unfold kst at h
    refine ⟨fun c => t_R_longOf ?_, fun c => ?_, fun c => ?_, fun c => ⟨hp2, ?_⟩, fun c => ?_, fun c => ?_⟩
    · rw [if_neg (by omega), if_pos c] at h
      exact h
    · rw [if_neg (by omega), if_neg (by omega), if_pos c] at h
      unfold clb at h
      refine ⟨zRi (by omega) (by omega), fun d => ?_, fun d => ?_⟩
      · by_cases d2 : L (13 + p) < L (13 + bs L p g)
        · rw [if_pos d2, ← e7] at h
          exact h
        · rw [if_neg d2] at h
          rw [show x7 = 0 by omega]
          exact h
      · rw [if_neg (by omega)] at h
        exact h
    · rw [if_neg (by omega), if_neg (by omega), if_neg (by omega), if_pos c] at h
      exact h
    · rw [if_neg (by omega), if_neg (by omega), if_neg (by omega), if_neg (by omega), if_pos c] at h
      rw [hU c p g hp hg.1 hg.2 hb]
      by_cases u : Usd L p (bs L p g)
      · rw [cif_t u] at h ⊢
        rw [zShr_1 (zRi (by omega) (by omega))]
        exact h
      · rw [cif_f u] at h ⊢
        have e0 := zShr_eq (x := cst L p g) (zRi (by omega) (by omega)) (c := 0) (by decide)
        rw [show ((0 : Nat) : Int) = 0 from rfl] at e0
        rw [e0, show (2 : Int) ^ 0 = 1 from rfl, Int.ediv_one]
        exact h
    · rw [if_neg (by omega), if_neg (by omega), if_neg (by omega), if_neg (by omega), if_neg (by omega)] at h
      have := hCB _ hq
      unfold q_S_catchOf
      rw [hC c _ hq]
      exact ⟨hq2, zRi (by omega) (by omega), h⟩
    · rw [if_pos (by omega)] at h
      exact ⟨zRi (by omega) (by omega), h⟩
  · show x7 = dif L p (bs L p g)
    unfold dif
    split <;> omega
  · show -x7 = dif L p (bs L p g)
    unfold dif
    split <;> omega
noncomputable def wgt (L C : Int → Int) (kind n bo p g : Int) : Int := cif (Opn L (-1) (-1) p g) (cif (StG L n p g) (if bo = 0 then -1 else (kst L C kind p g + L 8) * 1024) (kst L C kind p g * 1024 + (if bo = 0 then 1 else 0))) (-1)
noncomputable def lft (L : Int → Int) (n p g : Int) : Int := cif (Opn L (-1) (-1) p g ∧ StG L n p g) 1 0
theorem t_W_weigh {K : zS → Prop} {σ : zS} {L C : Int → Int} {p g kind n bo : Int} (hc : CC L σ) (hL : GW L) (hCB : CB L C) (hU : kind = 4 → UU L σ) (hC : kind = 5 → ∀ p, inP L p → σ 13 p = C p) (hk : 0 ≤ kind ∧ kind ≤ 5) (hn : 0 ≤ n ∧ n ≤ 99) (hp : inP L p) (hg : 0 ≤ g ∧ g < 8) (h : ∀ τ, zQ [16, 17] σ τ → τ 16 = up (σ 16) (8 * p + g) (wgt L C kind n bo p g) → τ 17 = up (σ 17) (8 * p + g) (lft L n p g) → K τ) : q_W_weigh p g kind n bo K σ := by
  have hp2 := hp.b hL
  have t8 : 0 ≤ L 8 ∧ L 8 ≤ 99 := by have := hL.2.1; omega
  unfold q_W_weigh
  intro x ex
  rw [Int.mul_comm] at ex
  subst ex
  refine ⟨by omega, fun s3 e3 s4 e4 => ?_⟩
  have q4 : zQ [16, 17] σ s4 := by
    rw [e4, e3]
    exact zQ_t (zQ_U (by decide)) (zQ_U (by decide))
  have c4 := CC_Q hc q4 (by decide)
  have r16 : s4 16 = up (σ 16) (8 * p + g) (-1) := by rw [e4, zU_row (by decide), e3, zU_up]
  have r17 : s4 17 = up (σ 17) (8 * p + g) 0 := by rw [e4, zU_up, e3, zU_row (by decide)]
  refine t_L_isOpen c4 hL hp hg (fun o => n1b ?_) (fun o => n0b (h s4 q4 ?_ ?_))
  · have kb := kst_b (kind := kind) hL hCB hp o.1
    have hU4 : ∀ s5 : zS, s5 20 = s4 20 → kind = 4 → UU L s5 := fun s5 e c p g => by
      rw [e, q4 20 (by decide)]
      exact hU c p g
    have hC4 : ∀ s5 : zS, s5 13 = s4 13 → kind = 5 → ∀ p, inP L p → s5 13 p = C p := fun s5 e c p => by
      rw [e, q4 13 (by decide)]
      exact hC c p
    refine t_L_isSteep c4 hL hn hp hg o.1 (fun st => ?_) (fun st => ?_)
    · refine ⟨fun s => s = zU s4 17 (8 * p + g) 1 ∧ bo ≠ 0, fun s es => ?_, n1a ?_⟩
      · obtain ⟨es, hbo⟩ := es
        have c5 : CC L s := by rw [es]; exact CC_U c4 (by decide)
        refine t_W_amount c5 hL hCB (hU4 s (by rw [es, zU_row (by decide)])) (hC4 s (by rw [es, zU_row (by decide)])) hk hp hg o.1 (t_L_value (v := 8) c5 (by decide) rfl (fun x16 e16 => ?_))
        have e17 : s 17 (8 * p + g) = 1 := by rw [es, zU_s]
        rw [e17, Int.one_mul] at e16
        refine ⟨fun d => absurd d hbo, fun _ => ?_⟩
        rw [zShl_10 (by omega) (by omega)]
        refine ⟨zRi (by omega) (by omega), fun s6 e6 => h s6 ?_ ?_ ?_⟩
        · rw [e6, es]
          exact zQ_t (zQ_t q4 (zQ_U (by decide))) (zQ_U (by decide))
        · rw [e6, zU_up, es, zU_row (by decide), r16, up_up]
          unfold wgt
          rw [cif_t o, cif_t st, if_neg hbo, e16]
          congr 1
          omega
        · rw [e6, zU_row (by decide), es, zU_up, r17, up_up]
          unfold lft
          rw [cif_t ⟨o, st⟩]
      · intro s5 e5
        refine ⟨fun d => ⟨e5, d⟩, fun d => h s5 ?_ ?_ ?_⟩
        · rw [e5]
          exact zQ_t q4 (zQ_U (by decide))
        · rw [e5, zU_row (by decide), r16]
          unfold wgt
          rw [cif_t o, cif_t st, if_pos d]
        · rw [e5, zU_up, r17, up_up]
          unfold lft
          rw [cif_t ⟨o, st⟩]
    · refine ⟨fun s => s = s4, fun s es => ?_, n0a rfl⟩
      subst es
      refine t_W_amount c4 hL hCB (hU4 s rfl) (hC4 s rfl) hk hp hg o.1 (t_L_value (v := 8) c4 (by decide) rfl (fun x16 e16 => ?_))
      have e17 : s 17 (8 * p + g) = 0 := by rw [r17, up_s]
      rw [e17, Int.zero_mul] at e16
      rw [zShl_10 (by omega) (by omega)]
      refine ⟨fun d => ⟨zRi (by omega) (by omega), fun s6 e6 => h s6 ?_ ?_ ?_⟩, fun d => ⟨zRi (by omega) (by omega), fun s6 e6 => h s6 ?_ ?_ ?_⟩⟩
      · rw [e6]
        exact zQ_t q4 (zQ_U (by decide))
      · rw [e6, zU_up, r16, up_up]
        unfold wgt
        rw [cif_t o, cif_f st, if_pos d, e16]
        congr 1
        omega
      · rw [e6, zU_row (by decide), r17]
        unfold lft
        rw [cif_f (fun x => st x.2)]
      · rw [e6]
        exact zQ_t q4 (zQ_U (by decide))
      · rw [e6, zU_up, r16, up_up]
        unfold wgt
        rw [cif_t o, cif_f st, if_neg d, e16]
        congr 1
        omega
      · rw [e6, zU_row (by decide), r17]
        unfold lft
        rw [cif_f (fun x => st x.2)]
  · rw [r16]
    unfold wgt
    rw [cif_f o]
  · rw [r17]
    unfold lft
    rw [cif_f (fun x => o x.1)]

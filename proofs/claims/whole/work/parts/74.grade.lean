/-! ===== grade ===== -/
theorem Thr_up2 {L : Int → Int} {n m fr q : Int} (h : n ≤ m) (ht : Thr (up L 2 n) (-1) (-1) fr q) : Thr (up L 2 m) (-1) (-1) fr q := by
  obtain ⟨p, g, i, hg, ⟨k, hr⟩, e⟩ := ht
  have z0 : up L 2 m 0 = up L 2 n 0 := by rw [up_o (by decide), up_o (by decide)]
  have z1 : up L 2 m 1 = up L 2 n 1 := by rw [up_o (by decide), up_o (by decide)]
  refine ⟨p, g, by unfold inP at i ⊢; rw [z0, z1]; exact i, hg, ⟨k, NRn_mono' z0 z1 (fun p g h p0 b => (Bnd_up2 p0).mpr ((Bnd_up2 p0).mp b)) (fun p g i g0 g1 w => ?_) k p g i hg hr⟩, by rw [up2_bs] at e ⊢; exact e⟩
  have s := (Sty_up2 i.1).mp ((wS_at g0 g1).mp w)
  refine (wS_at g0 g1).mpr ((Sty_up2 i.1).mpr ⟨s.1, fun x => s.2 ?_⟩)
  unfold StG at x ⊢
  rcases lng_or g with e | e <;> rw [e] at x ⊢ <;> omega
def GrV (L : Int → Int) (fr to_ r : Int) : Prop := (r = -1 ∧ ∀ n, 1 ≤ n → n ≤ 99 → ¬ Thr (up L 2 n) (-1) (-1) fr to_) ∨ ((1 ≤ r ∧ r ≤ 99) ∧ Thr (up L 2 r) (-1) (-1) fr to_ ∧ ∀ n, 1 ≤ n → n < r → ¬ Thr (up L 2 n) (-1) (-1) fr to_)
theorem GrV_uniq {L : Int → Int} {fr to_ r s : Int} (hr : GrV L fr to_ r) (hs : GrV L fr to_ s) : r = s := by
  rcases hr with ⟨a, b⟩ | ⟨a, b, c⟩
  · rcases hs with ⟨d, e⟩ | ⟨d, e, f⟩
    · omega
    · exact absurd e (b s d.1 d.2)
  · rcases hs with ⟨d, e⟩ | ⟨d, e, f⟩
    · exact absurd b (e r a.1 a.2)
    · by_cases q : r < s
      · exact absurd b (f r a.1 q)
      · by_cases q2 : s < r
        · exact absurd e (c s d.1 q2)
        · omega
/-- the guard of two unlike places -/
theorem t_M_two' {K body : zS → Prop} {u : zS} {L : Int → Int} {a b : Int} (hm : MM L (-1) (-1) u) (hn : 0 ≤ L 0 * L 1 ∧ L 0 * L 1 ≤ 81) (h1 : ¬ (inP L a ∧ inP L b) → K (zU u 41 0 1)) (h2 : inP L a → inP L b → a = b → K (zU u 41 0 2)) (h0 : inP L a → inP L b → a ≠ b → body (zU u 41 0 0)) : q_M_two a b (fun r2 σ1 => ∀ σ3 : zS, σ3 = zU σ1 41 0 r2 → ((σ3 41 0) ≤ 0 → body σ3) ∧ (0 < (σ3 41 0) → K σ3)) u := by
  refine t_M_two hm hn (fun i1 i2 ne s e => ?_) (fun ni s e => ?_) (fun i1 i2 eq s e => ?_)
  all_goals
    have z : ∀ w, s = zU u 41 0 w → s 41 0 = w := fun w ew => by rw [ew, zU_s]
    rw [z _ e, e]
  · exact ⟨fun _ => h0 i1 i2 ne, fun q => absurd q (by decide)⟩
  · exact ⟨fun q => absurd q (by decide), fun _ => h1 ni⟩
  · exact ⟨fun q => absurd q (by decide), fun _ => h2 i1 i2 eq⟩
theorem FR_42 {u w : zS} {S : List Nat} (h : zQ S u w) (hs : ∀ o ∈ core, o ≠ 42 → o ∉ S) (h42 : w 42 = u 42) (h41 : ∀ k ∈ fcor, w 41 k = u 41 k) : FR u w := by
  refine ⟨fun o ho => ?_, h41⟩
  by_cases e : o = 42
  · rw [e]; exact h42
  · exact h o (hs o ho e)
theorem pr_grade {σ : zS} {a b : Int} (hi : INV σ) : q_A_grade a b (fun r u => q_M_grade a b (fun v w => Agr r v w) u) σ := by
  obtain ⟨L, hc, hm, hl, -⟩ := id hi
  have hn := hl.n
  have ref : ∀ (r : Int) (u : zS), FR σ u → (¬ (inP L a ∧ inP L b) → Agr r 0 (zU u 41 0 1)) → (inP L a → inP L b → a = b → Agr r 0 (zU u 41 0 2)) → (inP L a → inP L b → a ≠ b → ∀ v w, zQ [42, 51] (zU u 41 0 0) w → w 42 = L → GrV L a b v → Agr r v w) → q_M_grade a b (fun v w => Agr r v w) u := by
    intro r u fr a1 a2 a0
    have hmu := FR_MM fr hm
    unfold q_M_grade
    refine t_M_two' hmu hn a1 a2 (fun i1 i2 ne x7 e7 => ?_)
    obtain ⟨hL, hW⟩ := hl.gw i1
    have hm3 : MM L (-1) (-1) (zU u 41 0 0) := MM_F hmu (by decide)
    rw [hm3.1] at e7
    refine ⟨fun y s => zQ [42, 51] (zU u 41 0 0) s ∧ 1 ≤ y ∧ y ≤ 100 ∧ (∀ j, j ≠ 2 → s 42 j = L j) ∧ ∀ n, 1 ≤ n → n < y → ¬ Thr (up L 2 n) (-1) (-1) a b, fun y _ => (100 - y).toNat, ⟨zQ_r _ _, by decide, by decide, fun j _ => by rw [hm3.1], fun n a b => by omega⟩, ?_⟩
    rintro y s ⟨hq, y0, y1, h42, hI⟩ -
    have rest : ∀ s12 t : zS, s12 = zU t 42 2 x7 → (∀ j, j ≠ 2 → t 42 j = L j) → s12 42 = L := fun s12 t e ht => by
      rw [e, zU_up]
      funext j
      by_cases z : j = 2
      · rw [z, up_s]; exact e7
      · rw [up_o z]; exact ht j z
    refine ⟨fun w t => zQ [42, 51] (zU u 41 0 0) t ∧ (∀ j, j ≠ 2 → t 42 j = L j) ∧ ((w = 100 ∧ ∀ n, 1 ≤ n → n ≤ 99 → ¬ Thr (up L 2 n) (-1) (-1) a b) ∨ ((1 ≤ w ∧ w ≤ 99) ∧ Thr (up L 2 w) (-1) (-1) a b ∧ ∀ n, 1 ≤ n → n < w → ¬ Thr (up L 2 n) (-1) (-1) a b)), fun w t hw _ s12 e12 => ?_, fun c => ⟨hq, h42, Or.inl ⟨by omega, fun n n0 n1 => hI n n0 (by omega)⟩⟩, fun c s15 e15 => ?_⟩
    · obtain ⟨qt, t42, hw⟩ := hw
      have q12 : zQ [42, 51] (zU u 41 0 0) s12 := by rw [e12]; exact zQ_t qt (zQ_U (by decide))
      have w42 := rest s12 t e12 t42
      refine ⟨fun d => a0 i1 i2 ne _ s12 q12 w42 (Or.inr (hw.resolve_left (fun z => by omega))), fun d => a0 i1 i2 ne _ s12 q12 w42 (Or.inl ⟨rfl, (hw.resolve_right (fun z => by omega)).2⟩)⟩
    · have q15 : zQ [42, 51] (zU u 41 0 0) s15 := by rw [e15]; exact zQ_t hq (zQ_U (by decide))
      have f42 : s15 42 = up L 2 y := by
        rw [e15, zU_up]
        funext j
        by_cases z : j = 2
        · rw [z, up_s, up_s]
        · rw [up_o z, up_o z]; exact h42 j z
      have hm15 : MM (up L 2 y) (-1) (-1) s15 := by
        refine ⟨f42, fun g g0 g1 => ?_, ?_, ?_⟩
        · rw [q15 47 (by decide), q15 48 (by decide)]; exact hm3.2.1 g g0 g1
        · rw [q15 41 (by decide)]; exact hm3.2.2.1
        · rw [q15 41 (by decide)]; exact hm3.2.2.2
      have ipu : ∀ p, inP (up L 2 y) p ↔ inP L p := fun p => by unfold inP; rw [up_o (by decide), up_o (by decide)]
      have hRB : RB (up L 2 y) := fun r r0 r1 => by rw [up_o (by omega)]; exact hl.rb r r0 r1
      refine t_M_isThere hm15 (GW_up2 hL y0 c) hRB ((ipu a).mpr i1) ((ipu b).mpr i2) (fun th τ qτ => n1a ⟨zQ_t q15 (zQ_m qτ (by decide)), fun j hj => ?_, Or.inr ⟨⟨y0, c⟩, th, hI⟩⟩) (fun th τ qτ => n0a ⟨⟨zQ_t q15 (zQ_m qτ (by decide)), by omega, by omega, fun j hj => ?_, fun n n0 n1 => ?_⟩, zRi (by omega) (by omega), by dsimp only; omega⟩)
      · rw [qτ 42 (by decide), f42, up_o hj]
      · rw [qτ 42 (by decide), f42, up_o hj]
      · by_cases z : n = y
        · rw [z]; exact th
        · exact hI n n0 (by omega)
  unfold q_A_grade q_R_grade
  refine t_R_needPair hc hn (fun i1 i2 => t_R_needUnlike (fun ne => ?_) (fun e => Or.inr ⟨rfl, ref 2 σ (FR_r σ) (fun x => absurd ⟨i1, i2⟩ x) (fun _ _ _ => Agr_x hi (by decide)) (fun _ _ x => absurd e x)⟩)) (fun ni => Or.inl ⟨rfl, ref 1 σ (FR_r σ) (fun _ => Agr_x hi (by decide)) (fun x y => absurd ⟨x, y⟩ ni) (fun x y => absurd ⟨x, y⟩ ni)⟩)
  obtain ⟨hL, hW⟩ := hl.gw i1
  have val : ∀ v τ, zQ [12, 13, 15, 16, 17, 18, 19, 20, 26, 27, 29] σ τ → GrV L a b v → q_M_grade a b (fun v w => Agr 0 v w) (zU τ 64 0 v) := by
    intro v τ q hv
    have fr : FR σ (zU τ 64 0 v) := FR_t (FR_Q q (by decide) (by decide)) (FR_64 v)
    refine ref 0 _ fr (fun x => absurd ⟨i1, i2⟩ x) (fun _ _ e => absurd e ne) (fun _ _ _ v' w qw w42 hv' => ?_)
    rw [GrV_uniq hv' hv]
    refine Agr_0 hi (FR_t fr (FR_t (FR_F (k := 0) (v := 0) (by decide)) (FR_42 qw (by decide) ?_ (fun k _ => by rw [qw 41 (by decide)])))) (by rw [qw 41 (by decide), zU_s]) (by rw [qw 64 (by decide), zU_o (by decide), zU_s])
    rw [w42, zU_row (by decide)]
    exact (FR_MM fr hm).1.symm
  unfold q_N_leastGrade
  refine t_N_isWay hc hL hW (by decide) i1 i2 (fun th τ q => n1b ?_) (fun th τ q => n0b (val _ τ q (Or.inl ⟨rfl, fun n n0 n1 x => th (Thr_up2 n1 x)⟩)))
  refine ⟨fun lo hi' s => zQ [12, 13, 15, 16, 17, 18, 19, 20, 26, 27, 29] σ s ∧ 1 ≤ lo ∧ lo ≤ hi' ∧ hi' ≤ 99 ∧ Thr (up L 2 hi') (-1) (-1) a b ∧ ∀ n, 1 ≤ n → n < lo → ¬ Thr (up L 2 n) (-1) (-1) a b, fun lo hi' _ => (hi' - lo).toNat, ⟨q, by decide, by decide, by decide, th, fun n a b => by omega⟩, ?_⟩
  rintro lo hi' s ⟨hq, l1, l2, l3, l4, l5⟩ - -
  refine ⟨fun c => val _ s hq (Or.inr ⟨by omega, l4, fun n n0 n1 => l5 n n0 (by omega)⟩), fun c => ⟨zRi (by omega) (by omega), fun x9 e9 => ?_⟩⟩
  rw [Int.tdiv_eq_ediv_of_nonneg (by omega)] at e9
  refine ⟨zRi (by omega) (by omega), t_N_isWay (CC_Q hc hq (by decide)) hL hW (by omega) i1 i2 (fun th' τ' q' => n1a ⟨⟨zQ_t hq q', l1, by omega, by omega, th', l5⟩, by dsimp only; omega⟩) (fun th' τ' q' => n0a (fun x14 e14 => ⟨⟨zQ_t hq q', by omega, by omega, l3, l4, fun n n0 n1 x => th' (Thr_up2 (by omega) x)⟩, zRi (by omega) (by omega), by dsimp only; omega⟩))⟩

/-! ===== common ===== -/
theorem HSt_sym {L : Int → Int} {r n a b : Int} (h : HSt L r n a b) : HSt L r n b a := by
  obtain ⟨k, k0, k1, e | e⟩ := h
  · exact ⟨k, k0, k1, Or.inr e⟩
  · exact ⟨k, k0, k1, Or.inl e⟩
theorem HSt_step {L : Int → Int} (hL : GW L) {r k p h : Int} (hw : RW L r) (k0 : 0 ≤ k) (k1 : k + 1 < L (175 + 81 * r)) (hp : inP L p) (h0 : 0 ≤ h) (h1 : h < 8) (hb : bs L p h ≠ -1) : HSt L r (k + 1) p (bs L p h) ↔ HSt L r k p (bs L p h) ∨ (L (176 + 81 * r + k) = p ∧ rhd L r k = h) ∨ (L (176 + 81 * r + (k + 1)) = p ∧ opp (rhd L r k) = h) := by
  have hd := hw.hd k0 k1
  constructor
  · rintro ⟨j, j0, j1, hj⟩
    by_cases e : j = k
    · rw [e] at hj
      rcases hj with ⟨e1, e2⟩ | ⟨e1, e2⟩
      · refine Or.inr (Or.inl ⟨e1, ?_⟩)
        have h3 := hd.2.1
        rw [e1, e2] at h3
        exact bs_inj hd.1.1 hd.1.2 h0 h1 h3 (by rw [h3]; exact hb)
      · refine Or.inr (Or.inr ⟨e2, ?_⟩)
        have h3 := hd.2.1
        rw [e1, e2] at h3
        have h4 := bs_opp hL hp h0 h1 hb
        have h5 := bs_inj hd.1.1 hd.1.2 opp_r.1 opp_r.2 (h3.trans h4.symm) (by rw [h3]; exact hp.ne)
        rw [h5]
        exact opp_opp h0 h1
    · exact Or.inl ⟨j, j0, by omega, hj⟩
  · rintro (⟨j, j0, j1, hj⟩ | ⟨e1, e2⟩ | ⟨e1, e2⟩)
    · exact ⟨j, j0, by omega, hj⟩
    · refine ⟨k, k0, by omega, Or.inl ⟨e1, ?_⟩⟩
      rw [← hd.2.1, e1, e2]
    · refine ⟨k, k0, by omega, Or.inr ⟨?_, e1⟩⟩
      have := bs_opp hL hd.2.2.1 hd.1.1 hd.1.2 (by rw [hd.2.1]; exact hd.2.2.2.ne)
      rw [hd.2.1, e1, e2] at this
      exact this.symm
theorem set_at {s s1 : zS} {o : Nat} {a g p h : Int} (e1 : s1 = zU s o a (zOr (s o a) (zShl 1 g))) (hg : 0 ≤ g ∧ g < 8) (hh : 0 ≤ h ∧ h < 8) : bit (s1 o p) h.toNat = true ↔ (bit (s o p) h.toNat = true ∨ (a = p ∧ g = h)) := by
  rw [e1, zU_if]
  by_cases e : p = a
  · rw [if_pos e, ← e, bit_seti _ (by omega) (by omega), Bool.or_eq_true, decide_eq_true_eq]
    constructor
    · rintro (q | q)
      · exact Or.inl q
      · exact Or.inr ⟨rfl, q.symm⟩
    · rintro (q | q)
      · exact Or.inl q
      · exact Or.inr q.2.symm
  · rw [if_neg e]
    constructor
    · exact Or.inl
    · rintro (q | q)
      · exact q
      · exact absurd q.1.symm e
theorem clr_at {s s1 : zS} {o : Nat} {a g p h : Int} (e1 : s1 = zU s o a (zAnd (s o a) (zXor (zShl 1 g) (-1)))) (hg : 0 ≤ g ∧ g < 8) (hh : 0 ≤ h ∧ h < 8) : bit (s1 o p) h.toNat = true ↔ (bit (s o p) h.toNat = true ∧ ¬ (a = p ∧ g = h)) := by
  rw [e1, zU_if]
  by_cases e : p = a
  · rw [if_pos e, ← e, bit_clri _ (by omega) (by omega), Bool.and_eq_true, Bool.not_eq_true', decide_eq_false_iff_not]
    constructor
    · rintro ⟨q, w⟩
      exact ⟨q, fun z => w z.2.symm⟩
    · rintro ⟨q, w⟩
      exact ⟨q, fun z => w ⟨rfl, z.symm⟩⟩
  · rw [if_neg e]
    constructor
    · exact fun q => ⟨q, fun z => e z.1.symm⟩
    · exact fun q => q.1
noncomputable def cmF (L : Int → Int) (r o k : Int) : Int := cif (¬ HSt L r k (L (176 + 81 * r + k)) (L (176 + 81 * r + (k + 1))) ∧ HSt L o (L (175 + 81 * o) - 1) (L (176 + 81 * r + k)) (L (176 + 81 * r + (k + 1)))) 1 0
theorem pr_common {σ : zS} {r o : Int} (hi : INV σ) : q_A_common r o (fun x u => q_M_common r o (fun v w => Agr x v w) u) σ := by
  obtain ⟨L, hc, hm, hl, -⟩ := id hi
  have sbd : ∀ k, 0 ≤ k → 0 ≤ sI (cmF L r o) k ∧ sI (cmF L r o) k ≤ k := fun k k0 => by
    have := sI_bd (f := cmF L r o) (a := 0) (b := 1) k0 (fun i _ _ => cif_b)
    omega
  have ref : ∀ (x : Int) (u : zS), FR σ u → (¬ ((0 ≤ r ∧ r < 4) ∧ (0 ≤ o ∧ o < 4)) → Agr x 0 (zU u 41 0 1)) → (((0 ≤ r ∧ r < 4) ∧ (0 ≤ o ∧ o < 4)) → r = o → Agr x 0 (zU u 41 0 2)) → (((0 ≤ r ∧ r < 4) ∧ (0 ≤ o ∧ o < 4)) → r ≠ o → (L (175 + 81 * r) = 0 ∨ L (175 + 81 * o) = 0) → Agr x 0 (zU u 41 0 3)) → (((0 ≤ r ∧ r < 4) ∧ (0 ≤ o ∧ o < 4)) → r ≠ o → ¬ (L (175 + 81 * r) = 0 ∨ L (175 + 81 * o) = 0) → Agr x (sI (cmF L r o) (L (175 + 81 * r) - 1)) (zU u 41 0 0)) → q_M_common r o (fun v w => Agr x v w) u := by
    intro x u fr a1 a2 a3 a0
    have hmu := FR_MM fr hm
    unfold q_M_common
    refine t_M_isRoad (fun b0 b1 => ⟨fun w s => s = u ∧ GdP (¬ ((0 ≤ r ∧ r < 4) ∧ (0 ≤ o ∧ o < 4))) (r = o) (L (175 + 81 * r) = 0 ∨ L (175 + 81 * o) = 0) w, fun w s4 hj _ => gd3 (K := fun s => Agr x 0 s) a1 (fun a b => a2 (Classical.not_not.mp a) b) (fun a b c => a3 (Classical.not_not.mp a) b c) (fun a b c => ?_) w s4 hj, fun s => s = u ∧ ¬ ((0 ≤ r ∧ r < 4) ∧ (0 ≤ o ∧ o < 4)), fun s hs => ⟨hs.1, Or.inl ⟨rfl, hs.2⟩⟩, n1a (t_M_isRoad (fun d0 d1 => n1b ⟨fun ne => t_M_many hmu ⟨b0, b1⟩ ⟨fun s => s = u ∧ (L (175 + 81 * r) = 0 ∨ L (175 + 81 * o) = 0), fun s hs => ⟨hs.1, Or.inr ⟨fun z => z ⟨⟨b0, b1⟩, d0, d1⟩, Or.inr ⟨ne, Or.inl ⟨rfl, hs.2⟩⟩⟩⟩, fun z => ⟨rfl, Or.inl z⟩, fun nz => t_M_many hmu ⟨d0, d1⟩ ⟨fun nz2 => ⟨rfl, Or.inr ⟨fun z => z ⟨⟨b0, b1⟩, d0, d1⟩, Or.inr ⟨ne, Or.inr ⟨rfl, fun z => z.elim nz nz2⟩⟩⟩⟩, fun z => ⟨rfl, Or.inr z⟩⟩⟩, fun e => ⟨rfl, Or.inr ⟨fun z => z ⟨⟨b0, b1⟩, d0, d1⟩, Or.inl ⟨rfl, e⟩⟩⟩⟩) (fun d => n0b ⟨rfl, fun z => d z.2⟩))⟩) (fun b => ⟨fun w s => s = u ∧ GdP (¬ ((0 ≤ r ∧ r < 4) ∧ (0 ≤ o ∧ o < 4))) (r = o) (L (175 + 81 * r) = 0 ∨ L (175 + 81 * o) = 0) w, fun w s4 hj _ => gd3 (K := fun s => Agr x 0 s) a1 (fun a b => a2 (Classical.not_not.mp a) b) (fun a b c => a3 (Classical.not_not.mp a) b c) (fun a _ _ => absurd (fun z => b z.1) a) w s4 hj, fun s => s = u ∧ ¬ ((0 ≤ r ∧ r < 4) ∧ (0 ≤ o ∧ o < 4)), fun s hs => ⟨hs.1, Or.inl ⟨rfl, hs.2⟩⟩, n0a ⟨rfl, fun z => b z.1⟩⟩)
    have hro := Classical.not_not.mp a
    have hr := hro.1
    have ho := hro.2
    have nzr : L (175 + 81 * r) ≠ 0 := fun z => c (Or.inl z)
    have nzo : L (175 + 81 * o) ≠ 0 := fun z => c (Or.inr z)
    obtain ⟨hL, hW⟩ := hl.rd b0 b1 nzr
    have hm5 : MM L (-1) (-1) (zU u 41 0 0) := MM_F hmu (by decide)
    have hRW := (hW r b0 b1).resolve_left nzr
    have hRWo := (hW o ho.1 ho.2).resolve_left nzo
    refine ⟨fun v k s => s = zU u 41 0 0 ∧ 0 ≤ k ∧ k ≤ L (175 + 81 * r) - 1 ∧ v = sI (cmF L r o) k, fun _ k _ => (40 - k).toNat, ⟨rfl, by decide, by omega, rfl⟩, ?_⟩
    rintro v k s ⟨es, k0, k1, ev⟩ - -
    have hms : MM L (-1) (-1) s := by rw [es]; exact hm5
    have nx : ∀ y, y = v + cmF L r o k → k < L (175 + 81 * r) - 1 → (s = zU u 41 0 0 ∧ 0 ≤ k + 1 ∧ k + 1 ≤ L (175 + 81 * r) - 1 ∧ y = sI (cmF L r o) (k + 1)) ∧ zR y ∧ (40 - (k + 1)).toNat < (40 - k).toNat := fun y ey e => by
      have e1 := sI_s (cmF L r o) k0
      have e2 := sbd (k + 1) (by omega)
      exact ⟨⟨es, by omega, by omega, by omega⟩, zRi (by omega) (by omega), by omega⟩
    refine t_M_many hms hr ⟨zRi (by omega) (by omega), fun e => ?_, fun e => ?_⟩
    · rw [ev, show k = L (175 + 81 * r) - 1 by omega, es]
      exact a0 hro b c
    refine t_M_placeAt hms hr ⟨k0, by omega⟩ ⟨zRi (by omega) (by omega), t_M_placeAt hms hr ⟨by omega, by omega⟩ (t_M_hasStep hms hr (by omega) (fun hs => n1b (fun y ey => nx y ?_ e)) (fun hs => n0b (t_M_many hms ho ⟨zRi (by omega) (by omega), t_M_hasStep hms ho (by omega) (fun ht => n1a (fun y ey => nx y ?_ e)) (fun ht => n0a (fun y ey => nx y ?_ e))⟩)))⟩
    · unfold cmF
      rw [cif_f (fun z => z.1 hs)]
      exact ey
    · unfold cmF
      rw [cif_t ⟨hs, ht⟩]
      exact ey
    · unfold cmF
      rw [cif_f (fun z => ht z.2)]
      exact ey
  unfold q_A_common q_R_common
  refine t_R_needRoad (fun b0 b1 => t_R_needRoad (fun d0 d1 => t_R_needUnlike (fun ne => t_R_needBuilt hc ⟨b0, b1⟩ (fun nz => t_R_needBuilt hc ⟨d0, d1⟩ (fun nz2 => ?_) (fun z => Or.inr (Or.inr ⟨rfl, ref 3 σ (FR_r σ) (fun w => absurd ⟨⟨b0, b1⟩, d0, d1⟩ w) (fun _ w => absurd w ne) (fun _ _ _ => Agr_x hi (by decide)) (fun _ _ w => absurd (Or.inr z) w)⟩))) (fun z => Or.inr (Or.inr ⟨rfl, ref 3 σ (FR_r σ) (fun w => absurd ⟨⟨b0, b1⟩, d0, d1⟩ w) (fun _ w => absurd w ne) (fun _ _ _ => Agr_x hi (by decide)) (fun _ _ w => absurd (Or.inl z) w)⟩))) (fun e => Or.inr (Or.inl ⟨rfl, ref 2 σ (FR_r σ) (fun w => absurd ⟨⟨b0, b1⟩, d0, d1⟩ w) (fun _ _ => Agr_x hi (by decide)) (fun _ w => absurd e w) (fun _ w => absurd e w)⟩))) (fun d => Or.inl ⟨rfl, ref 1 σ (FR_r σ) (fun _ => Agr_x hi (by decide)) (fun w => absurd w.2 d) (fun w => absurd w.2 d) (fun w => absurd w.2 d)⟩)) (fun b => Or.inl ⟨rfl, ref 1 σ (FR_r σ) (fun _ => Agr_x hi (by decide)) (fun w => absurd w.1 b) (fun w => absurd w.1 b) (fun w => absurd w.1 b)⟩)
  have hr : 0 ≤ r ∧ r < 4 := ⟨b0, b1⟩
  have ho : 0 ≤ o ∧ o < 4 := ⟨d0, d1⟩
  obtain ⟨hL, hW⟩ := hl.rd b0 b1 nz
  have wr := hW r b0 b1
  have wo := hW o d0 d1
  have hRW := wr.resolve_left nz
  have hRWo := wo.resolve_left nz2
  unfold q_U_shared q_U_steps
  refine t_J_fill2 (M := 81) rfl ?_
  refine ⟨fun y s => zQ [39] σ s ∧ 0 ≤ y ∧ y ≤ L (175 + 81 * o) - 1 ∧ ∀ p h, inP L p → 0 ≤ h → h < 8 → bs L p h ≠ -1 → (bit (s 39 p) h.toNat = true ↔ HSt L o y p (bs L p h)), fun y _ => (40 - y).toNat, ⟨zQ_F (by decide), by decide, by omega, fun p h hp h0 h1 hb => ?_⟩, ?_⟩
  · rw [zFill_at hp.1 (hp.b hL).2, bit_zero (by omega)]
    simp only [Bool.false_eq_true, false_iff]
    rintro ⟨k, k0, k1, -⟩
    omega
  rintro y s ⟨hq, y0, y1, hI⟩ -
  have hcs := CC_Q hc hq (by decide)
  refine t_L_roadSize hcs ho ⟨zRi (by omega) (by omega), fun e => ?_, fun e => ?_⟩
  · refine ⟨fun v k s => zQ [39] σ s ∧ 0 ≤ k ∧ k ≤ L (175 + 81 * r) - 1 ∧ v = sI (cmF L r o) k ∧ ∀ p h, inP L p → 0 ≤ h → h < 8 → bs L p h ≠ -1 → (bit (s 39 p) h.toNat = true ↔ (HSt L o (L (175 + 81 * o) - 1) p (bs L p h) ∧ ¬ HSt L r k p (bs L p h))), fun _ k _ => (40 - k).toNat, ⟨hq, by decide, by omega, rfl, fun p h hp h0 h1 hb => ?_⟩, ?_⟩
    · rw [hI p h hp h0 h1 hb, show y = L (175 + 81 * o) - 1 by omega]
      refine ⟨fun z => ⟨z, ?_⟩, fun z => z.1⟩
      rintro ⟨k, k0, k1, -⟩
      omega
    clear hI hcs hq
    rintro v k s ⟨hq, k0, k1, ev, hI⟩ - -
    have hcs := CC_Q hc hq (by decide)
    refine t_L_roadSize hcs hr ⟨zRi (by omega) (by omega), fun e => ?_, fun e => ?_⟩
    · have fr : FR σ (zU s 64 0 v) := FR_t (FR_Q hq (by decide) (by decide)) (FR_64 v)
      refine ref 0 _ fr (fun w => absurd ⟨hr, ho⟩ w) (fun _ w => absurd w ne) (fun _ _ w => absurd w (fun z => z.elim nz nz2)) (fun _ _ _ => ?_)
      rw [← show k = L (175 + 81 * r) - 1 by omega, ← ev]
      exact Agr_0 hi (FR_t fr (FR_F (by decide))) (zU_s _ _ _ _) (by rw [zU_o (by decide), zU_s])
    have hd := wr.hd k0 (by omega)
    have hd1 := hd.2.2.1.b hL
    have hd2 := hd.2.2.2.b hL
    have nb : bs L (L (176 + 81 * r + k)) (rhd L r k) ≠ -1 := by rw [hd.2.1]; exact hd.2.2.2.ne
    have hbk := hI _ _ hd.2.2.1 hd.1.1 hd.1.2 nb
    rw [hd.2.1] at hbk
    have e1 := sI_s (cmF L r o) k0
    have e2 := sbd (k + 1) (by omega)
    have e3 := sbd k k0
    have stq : ∀ {p h : Int}, inP L p → 0 ≤ h → h < 8 → bs L p h ≠ -1 → ((L (176 + 81 * r + k) = p ∧ rhd L r k = h) ∨ (L (176 + 81 * r + (k + 1)) = p ∧ opp (rhd L r k) = h)) → (p = L (176 + 81 * r + k) ∧ bs L p h = L (176 + 81 * r + (k + 1))) ∨ (p = L (176 + 81 * r + (k + 1)) ∧ bs L p h = L (176 + 81 * r + k)) := by
      intro p h hp h0 h1 hb st
      rcases st with ⟨z1, z2⟩ | ⟨z1, z2⟩
      · refine Or.inl ⟨z1.symm, ?_⟩
        rw [← hd.2.1, ← z1, ← z2]
      · refine Or.inr ⟨z1.symm, ?_⟩
        have := bs_opp hL hd.2.2.1 hd.1.1 hd.1.2 nb
        rw [hd.2.1] at this
        rw [← z1, ← z2]
        exact this
    refine t_L_roadHeading hcs hL hr wr k0 (by omega) (by omega) (t_L_roadPlace hcs hr ⟨k0, by omega⟩ ⟨hd1, fun z => ⟨⟨hq, by omega, by omega, ?_, fun p h hp h0 h1 hb => ?_⟩, zRi (by omega) (by omega), by dsimp only; omega⟩, fun z => t_L_roadPlace hcs hr ⟨k0, by omega⟩ ⟨hd1, fun s1 es1 => ⟨zRi (by omega) (by omega), t_L_roadPlace (by rw [es1]; exact CC_U hcs (by decide)) hr ⟨by omega, by omega⟩ ⟨hd2, t_R_opposite (fun s2 es2 => ?_)⟩⟩⟩⟩)
    · have nf := (bit_and1i _ (by omega)).mp z
      rw [e1, ev]
      unfold cmF
      rw [cif_f (fun w => by
        rw [hbk.mpr ⟨w.2, w.1⟩] at nf
        exact absurd nf (by decide))]
      omega
    · have nf := (bit_and1i _ (by omega)).mp z
      rw [hI p h hp h0 h1 hb, HSt_step hL wr k0 (by omega) hp h0 h1 hb]
      by_cases st : (L (176 + 81 * r + k) = p ∧ rhd L r k = h) ∨ (L (176 + 81 * r + (k + 1)) = p ∧ opp (rhd L r k) = h)
      · have no : ¬ (HSt L o (L (175 + 81 * o) - 1) p (bs L p h) ∧ ¬ HSt L r k p (bs L p h)) := by
          rintro ⟨z1, z2⟩
          have : bit (s 39 (L (176 + 81 * r + k))) (rhd L r k).toNat = true := by
            rw [hbk]
            rcases stq hp h0 h1 hb st with ⟨w1, w2⟩ | ⟨w1, w2⟩
            · rw [w2, w1] at z1 z2
              exact ⟨z1, z2⟩
            · rw [w2, w1] at z1 z2
              exact ⟨HSt_sym z1, fun q => z2 (HSt_sym q)⟩
          rw [this] at nf
          exact absurd nf (by decide)
        exact ⟨fun q => absurd q no, fun q => absurd (Or.inr st) q.2⟩
      · exact ⟨fun q => ⟨q.1, fun w => w.elim q.2 st⟩, fun q => ⟨q.1, fun w => q.2 (Or.inl w)⟩⟩
    · have tr : bit (s 39 (L (176 + 81 * r + k))) (rhd L r k).toNat = true := by
        cases hh : bit (s 39 (L (176 + 81 * r + k))) (rhd L r k).toNat with
        | false => exact absurd ((bit_and1i _ (by omega)).mpr hh) z
        | true => rfl
      refine ⟨⟨by rw [es2, es1]; exact zQ_t (zQ_t hq (zQ_U (by decide))) (zQ_U (by decide)), by omega, by omega, ?_, fun p h hp h0 h1 hb => ?_⟩, zRi (by omega) (by omega), by dsimp only; omega⟩
      · rw [e1, ev]
        unfold cmF
        rw [cif_t ⟨(hbk.mp tr).2, (hbk.mp tr).1⟩]
      · rw [clr_at es2 opp_r ⟨h0, h1⟩, clr_at es1 hd.1 ⟨h0, h1⟩, hI p h hp h0 h1 hb, HSt_step hL wr k0 (by omega) hp h0 h1 hb]
        constructor
        · rintro ⟨⟨⟨q1, q2⟩, q3⟩, q4⟩
          exact ⟨q1, fun w => w.elim q2 (fun w => w.elim q3 q4)⟩
        · rintro ⟨q1, q2⟩
          exact ⟨⟨⟨q1, fun w => q2 (Or.inl w)⟩, fun w => q2 (Or.inr (Or.inl w))⟩, fun w => q2 (Or.inr (Or.inr w))⟩
  · have hd := wo.hd y0 (by omega)
    have hd1 := hd.2.2.1.b hL
    have hd2 := hd.2.2.2.b hL
    refine t_L_roadHeading hcs hL ho wo y0 (by omega) (by omega) (t_L_roadPlace hcs ho ⟨y0, by omega⟩ ⟨hd1, fun s1 es1 => ⟨zRi (by omega) (by omega), t_L_roadPlace (by rw [es1]; exact CC_U hcs (by decide)) ho ⟨by omega, by omega⟩ ⟨hd2, t_R_opposite (fun s2 es2 => ⟨⟨by rw [es2, es1]; exact zQ_t (zQ_t hq (zQ_U (by decide))) (zQ_U (by decide)), by omega, by omega, fun p h hp h0 h1 hb => ?_⟩, by dsimp only; omega⟩)⟩⟩⟩)
    rw [set_at es2 opp_r ⟨h0, h1⟩, set_at es1 hd.1 ⟨h0, h1⟩, hI p h hp h0 h1 hb, HSt_step hL wo y0 (by omega) hp h0 h1 hb]
    exact or_assoc

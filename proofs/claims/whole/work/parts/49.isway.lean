theorem bst_ext {L : Int → Int} {Cn : Int → Int → Int → Prop} {cv : Int → Int → Int → Int} {p h y : Int} {b : Int} (Hb : (b = -1 ∧ ∀ g, 0 ≤ g → g < y → ¬ Cn p h g) ∨ ((0 ≤ b ∧ b < y) ∧ Cn p h b ∧ ∀ g', 0 ≤ g' → g' < y → Cn p h g' → cv p h b < cv p h g' ∨ (cv p h b = cv p h g' ∧ bs L p b ≤ bs L p g'))) (hn : ¬ Cn p h y) : (b = -1 ∧ ∀ g, 0 ≤ g → g < y + 1 → ¬ Cn p h g) ∨ ((0 ≤ b ∧ b < y + 1) ∧ Cn p h b ∧ ∀ g', 0 ≤ g' → g' < y + 1 → Cn p h g' → cv p h b < cv p h g' ∨ (cv p h b = cv p h g' ∧ bs L p b ≤ bs L p g')) := by
  rcases Hb with ⟨a, f⟩ | ⟨a, b', f⟩
  · refine Or.inl ⟨a, fun g g0 g1 => ?_⟩
    by_cases e : g = y
    · rw [e]; exact hn
    · exact f g g0 (by omega)
  · refine Or.inr ⟨⟨a.1, by omega⟩, b', fun g g0 g1 hc => ?_⟩
    by_cases e : g = y
    · rw [e] at hc; exact absurd hc hn
    · exact f g g0 (by omega) hc
theorem t_M_isWay {K : Int → zS → Prop} {σ : zS} {L : Int → Int} {A B kind from_ to_ : Int} (hm : MM L A B σ) (hL : GW L) (hR : RB L) (hk : 0 ≤ kind ∧ kind ≤ 5) (hfr : inP L from_) (hto : inP L to_) (h : ∀ r τ, zQ [41, 51, 52, 54, 62] σ τ → (∀ k, k ≠ 20 → τ 41 k = σ 41 k) → (kind = 5 → ∀ p, inP L p → τ 62 p = catL L p) → GT (mBs to_) (mEd L (catL L) A B kind to_) (τ 51) (τ 52) → Lab 1025000000000 (fun v : Int => 0 ≤ v ∧ v < 648) (mBs to_) (mEd L (catL L) A B kind to_) (enc (τ 51) (τ 52)) → ((r = 1 ∧ 1 ≤ τ 41 20 ∧ τ 41 20 ≤ 649 ∧ WayP L (CnM L A B (enc (τ 51) (τ 52))) (cvM L (catL L) kind (enc (τ 51) (τ 52))) from_ to_ (τ 41 20 - 1) (τ 54)) ∨ (r = 0 ∧ from_ ≠ to_ ∧ ∀ g, 0 ≤ g → g < 8 → ¬ CnM L A B (enc (τ 51) (τ 52)) from_ (-1) g)) → K r τ) : q_M_isWay from_ to_ kind K σ := by
  have hCB := catL_CB hL
  unfold q_M_isWay
  refine t_M_goesTo hm hL hR hk hto (fun σ1 q1 hcat hG hLab s2 e2 s3 e3 => ?_)
  generalize he : enc (σ1 51) (σ1 52) = e at hLab
  have hfin : ∀ v : Int, 0 ≤ v → v < 648 → e v < 1025000000000 → 0 ≤ σ1 51 v ∧ σ1 51 v ≤ 703081 ∧ 0 ≤ σ1 52 v ∧ σ1 52 v ≤ 647 ∧ e v = σ1 51 v * 1024 + σ1 52 v := fun v v0 v1 hf => by
    have hne : σ1 51 v ≠ 1000000000 := fun q => (GT_inf hG v0 v1).mp q (by rw [he]; exact hf)
    have a := GT_fin hG v0 v1 hne
    exact ⟨a.1, a.2.1, a.2.2.1, a.2.2.2.1, by rw [← he]; rfl⟩
  have hinf : ∀ v : Int, 0 ≤ v → v < 648 → (σ1 51 v = 1000000000 ↔ ¬ e v < 1025000000000) := fun v v0 v1 => by
    rw [← he]
    exact GT_inf hG v0 v1
  have q3 : zQ [41, 54] σ1 s3 := by rw [e3, e2]; exact zQ_t (zQ_U (by decide)) (zQ_U (by decide))
  refine ⟨fun p h s => zQ [41, 54] σ1 s ∧ (∀ k, k ≠ 20 → s 41 k = σ1 41 k) ∧ inP L p ∧ 1 ≤ s 41 20 ∧ s 41 20 ≤ 649 ∧ s 54 0 = from_ ∧ s 54 (s 41 20 - 1) = p ∧ (∀ k, 0 ≤ k → k < s 41 20 - 1 → s 54 k ≠ to_) ∧ (∃ H : Int → Int, H 0 = -1 ∧ H (s 41 20 - 1) = h ∧ ∀ k, 0 ≤ k → k < s 41 20 - 1 → BstG L (CnM L A B e) (cvM L (catL L) kind e) (s 54 k) (H k) (H (k + 1)) ∧ s 54 (k + 1) = bs L (s 54 k) (H (k + 1))) ∧ ((h = -1 ∧ s 41 20 = 1 ∧ p = from_) ∨ ((0 ≤ h ∧ h < 8) ∧ e (8 * p + h) < 1025000000000 ∧ s 41 20 - 1 + σ1 52 (8 * p + h) ≤ 648)), fun p h _ => if h = -1 then 1025000000001 else (e (8 * p + h)).toNat, ⟨q3, fun k hk => ?_, hfr, ?_, ?_, ?_, ?_, fun k k0 k1 => ?_, ⟨fun _ => -1, rfl, rfl, fun k k0 k1 => ?_⟩, Or.inl ⟨rfl, ?_, rfl⟩⟩, ?_⟩
  · rw [e3, zU_row (by decide), e2, zU_k hk]
  all_goals try have e20 : s3 41 20 = 1 := by rw [e3, zU_o (by decide), e2, zU_s]
  · rw [e20]; decide
  · rw [e20]; decide
  · rw [e3, zU_s]
  · rw [e20, e3]
    exact zU_s _ _ _ _
  · rw [e20] at k1; omega
  · rw [e20] at k1; omega
  · exact e20
  rintro p hd s ⟨hq, h41, ip, m1, m2, p0, pm, hne, ⟨H, H0, Hm, HH⟩, hst⟩ - -
  have ip2 := ip.b hL
  have hms : MM L A B s := by
    refine ⟨?_, fun g g0 g1 => ?_, ?_, ?_⟩
    · rw [hq 42 (by decide), q1 42 (by decide)]; exact hm.1
    · rw [hq 47 (by decide), q1 47 (by decide), hq 48 (by decide), q1 48 (by decide)]; exact hm.2.1 g g0 g1
    · rw [h41 28 (by decide), q1 41 (by decide)]; exact hm.2.2.1
    · rw [h41 29 (by decide), q1 41 (by decide)]; exact hm.2.2.2
  have s51 : s 51 = σ1 51 := hq 51 (by decide)
  have s52 : s 52 = σ1 52 := hq 52 (by decide)
  have post : ∀ r, ((r = 1 ∧ 1 ≤ s 41 20 ∧ s 41 20 ≤ 649 ∧ WayP L (CnM L A B e) (cvM L (catL L) kind e) from_ to_ (s 41 20 - 1) (s 54)) ∨ (r = 0 ∧ from_ ≠ to_ ∧ ∀ g, 0 ≤ g → g < 8 → ¬ CnM L A B e from_ (-1) g)) → K r s := by
    intro r hr
    refine h r s (zQ_t (zQ_m q1 (by decide)) (zQ_m hq (by decide))) (fun k hk => by rw [h41 k hk, q1 41 (by decide)]) (fun e5 p ip => by rw [hq 62 (by decide)]; exact hcat e5 p ip) (by rw [s51, s52]; exact hG) (by rw [s51, s52, he]; exact hLab) ?_
    rw [s51, s52, he]
    exact hr
  refine ⟨fun c => post 1 (Or.inl ⟨rfl, m1, m2, p0, by rw [pm]; exact c, by omega, hne, H, H0, HH⟩), fun c => ?_⟩
  have hdr : hd = -1 ∨ (0 ≤ hd ∧ hd < 8) := by
    rcases hst with q | q
    · exact Or.inl q.1
    · exact Or.inr q.1
  refine ⟨fun b its n y s' => s' = s ∧ 0 ≤ y ∧ y ≤ 8 ∧ ((b = -1 ∧ ∀ g, 0 ≤ g → g < y → ¬ CnM L A B e p hd g) ∨ ((0 ≤ b ∧ b < y) ∧ CnM L A B e p hd b ∧ ∀ g', 0 ≤ g' → g' < y → CnM L A B e p hd g' → cvM L (catL L) kind e p hd b < cvM L (catL L) kind e p hd g' ∨ (cvM L (catL L) kind e p hd b = cvM L (catL L) kind e p hd g' ∧ bs L p b ≤ bs L p g'))) ∧ (b ≠ -1 → its * 1024 + n = cvM L (catL L) kind e p hd b ∧ 0 ≤ n ∧ n ≤ 648), fun _ _ _ y _ => (8 - y).toNat, ⟨rfl, by decide, by decide, Or.inl ⟨rfl, fun g a b => by omega⟩, fun q => absurd rfl q⟩, ?_⟩
  rintro b its n y s' ⟨rfl, y0, y8, hB, hval⟩ - - - -
  refine ⟨fun c8 => ⟨fun nb => ?_, fun nb => ?_⟩, fun c8 => ?_⟩
  · have hbst : BstG L (CnM L A B e) (cvM L (catL L) kind e) p hd b := by
      have f := hB.resolve_left (fun q => nb q.1)
      exact ⟨⟨f.1.1, by omega⟩, f.2.1, fun g' g0 g1 => f.2.2 g' g0 (by omega)⟩
    have hbb := hbst.2.1.1.1.1
    have iq := bs_in hbb
    have iq2 := iq.b hL
    have kb := kst_b (kind := kind) hL hCB ip hbb
    have hef := hbst.2.1.2.2
    have fq := hfin (8 * bs L p b + b) (by have := hbst.1; omega) (by have := hbst.1; omega) hef
    have hcv : cvM L (catL L) kind e p hd b = e (8 * bs L p b + b) + ((kst L (catL L) kind p b + (if hd = -1 then 0 else kbn L kind hd b)) * 1024 + 1) := rfl
    refine t_M_beside hms hL ip hbst.1 ⟨by omega, fun s19 e19 => ?_⟩
    have g20 : s19 41 20 = s' 41 20 := by rw [e19, zU_o (by decide)]
    rw [g20]
    refine ⟨zRi (by omega) (by omega), fun s22 e22 => ?_⟩
    have k20 : s22 41 20 = s' 41 20 + 1 := by rw [e22, zU_s]
    have k54 : ∀ k, s22 54 k = if k = s' 41 20 then bs L p b else s' 54 k := fun k => by rw [e22, zU_o (by decide), e19, zU_if]
    have hnx : hd ≠ -1 → e (8 * bs L p b + b) + 1 ≤ e (8 * p + hd) ∧ s' 41 20 + σ1 52 (8 * bs L p b + b) ≤ 648 := fun hh => by
      have q := hst.resolve_left (fun q => hh q.1)
      have a := (lab_nxt (g := b) hL hCB hLab ip c q.1 q.2.1).2 hbst
      have kb2 := kbn_b (kind := kind) hL q.1.1 q.1.2 hbst.1.1 hbst.1.2
      have fp := hfin (8 * p + hd) (by omega) (by omega) q.2.1
      rw [hcv, if_neg hh] at a
      omega
    refine ⟨⟨?_, fun k hk => ?_, iq, by omega, ?_, ?_, ?_, fun k k0 k1 => ?_, ⟨fun k => if k = s' 41 20 then b else H k, ?_, ?_, fun k k0 k1 => ?_⟩, Or.inr ⟨hbst.1, hef, ?_⟩⟩, ?_⟩
    · rw [e22, e19]; exact zQ_t hq (zQ_t (zQ_U (by decide)) (zQ_U (by decide)))
    · rw [e22, zU_k hk, e19, zU_row (by decide)]; exact h41 k hk
    · rw [k20]
      by_cases hh : hd = -1
      · have := hst.resolve_right (fun q => by have := q.1.1; omega)
        omega
      · have := (hnx hh).2
        omega
    · rw [k54, if_neg (by omega)]; exact p0
    · rw [k20, k54, if_pos (by omega)]
    · rw [k20] at k1
      rw [k54, if_neg (by omega)]
      by_cases q : k = s' 41 20 - 1
      · rw [q, pm]; exact c
      · exact hne k k0 (by omega)
    · dsimp only
      rw [if_neg (by omega)]; exact H0
    · dsimp only
      rw [k20, if_pos (by omega)]
    · rw [k20] at k1
      dsimp only
      rw [k54, if_neg (by omega), k54]
      by_cases q : k = s' 41 20 - 1
      · rw [if_neg (show ¬ k = s' 41 20 by omega), if_pos (by omega), if_pos (by omega), q, pm, Hm]
        exact ⟨hbst, rfl⟩
      · rw [if_neg (show ¬ k = s' 41 20 by omega), if_neg (by omega), if_neg (by omega)]
        exact HH k k0 (by omega)
    · rw [k20]
      by_cases hh : hd = -1
      · have := hst.resolve_right (fun q => by have := q.1.1; omega)
        omega
      · have := (hnx hh).2
        omega
    · dsimp only
      have hb0 : b ≠ -1 := nb
      rw [if_neg hb0]
      by_cases hh : hd = -1
      · rw [if_pos hh]
        omega
      · rw [if_neg hh]
        have := (hnx hh).1
        have : 0 ≤ e (8 * bs L p b + b) := by omega
        omega
  · have hno := hB.resolve_right (fun q => by have := q.1.1; omega)
    refine post 0 (Or.inr ⟨rfl, ?_, ?_⟩)
    · rcases hst with q | q
      · rw [← q.2.2]; exact c
      · exfalso
        obtain ⟨g, hg, hc⟩ := (lab_nxt (g := 0) hL hCB hLab ip c q.1 q.2.1).1
        exact hno.2 g hg.1 (by omega) hc
    · rcases hst with q | q
      · intro g g0 g1
        have := hno.2 g g0 (by omega)
        rw [q.1, q.2.2] at this
        exact this
      · exfalso
        obtain ⟨g, hg, hc⟩ := (lab_nxt (g := 0) hL hCB hLab ip c q.1 q.2.1).1
        exact hno.2 g hg.1 (by omega) hc
  · have cont : ¬ CnM L A B e p hd y → (s' = s' ∧ 0 ≤ y + 1 ∧ y + 1 ≤ 8 ∧ ((b = -1 ∧ ∀ g, 0 ≤ g → g < y + 1 → ¬ CnM L A B e p hd g) ∨ ((0 ≤ b ∧ b < y + 1) ∧ CnM L A B e p hd b ∧ ∀ g', 0 ≤ g' → g' < y + 1 → CnM L A B e p hd g' → cvM L (catL L) kind e p hd b < cvM L (catL L) kind e p hd g' ∨ (cvM L (catL L) kind e p hd b = cvM L (catL L) kind e p hd g' ∧ bs L p b ≤ bs L p g'))) ∧ (b ≠ -1 → its * 1024 + n = cvM L (catL L) kind e p hd b ∧ 0 ≤ n ∧ n ≤ 648)) ∧ zR (y + 1) ∧ (8 - (y + 1)).toNat < (8 - y).toNat := fun hn => ⟨⟨rfl, by omega, by omega, bst_ext hB hn, hval⟩, zRi (by omega) (by omega), by omega⟩
    refine t_M_canStep hms hL ip ⟨y0, c8⟩ (fun st => n1a ?_) (fun st => n0a (cont (fun q => st q.1)))
    have hbb := st.1.1
    have iq := bs_in hbb
    have iq2 := iq.b hL
    have kb := kst_b (kind := kind) hL hCB ip hbb
    refine ⟨fun t => t = s' ∧ (hd ≠ -1 → Bnd L p hd y), fun t ht => ?_, fun e1 => ⟨rfl, fun q => absurd e1 q⟩, fun e1 => t_M_canBend hms hL ip (hdr.resolve_left e1) ⟨y0, c8⟩ (fun bd => n1b ⟨rfl, fun _ => bd⟩) (fun bd => n0b (cont (fun q => bd (q.2.1 e1))))⟩
    obtain ⟨rfl, hbd⟩ := ht
    refine t_M_beside hms hL ip ⟨y0, c8⟩ ⟨by omega, fun nf => ?_, fun ff => cont (fun q => ?_)⟩
    · rw [s51] at nf ⊢
      have hef : e (8 * bs L p y + y) < 1025000000000 := by
        by_cases q : e (8 * bs L p y + y) < 1025000000000
        · exact q
        · exact absurd ((hinf _ (by omega) (by omega)).mpr q) nf
      have fq := hfin (8 * bs L p y + y) (by omega) (by omega) hef
      have hcn : CnM L A B e p hd y := ⟨st, hbd, hef⟩
      refine t_M_stepOf (C := catL L) hms hL hR hCB (fun e5 p' ip' => by rw [hq 62 (by decide)]; exact hcat e5 p' ip') hk ip ⟨y0, c8⟩ hbb ⟨fun w t' => t' = t ∧ w = (if hd = -1 then 0 else kbn L kind hd y), fun w t' hw _ x39 e39 x41 e41 => ?_, fun e1 => t_M_bendOf hms hL (hdr.resolve_left e1) ⟨y0, c8⟩ ⟨rfl, by rw [if_neg e1]⟩, fun e1 => ⟨rfl, by rw [if_pos e1]⟩⟩
      obtain ⟨rfl, hw⟩ := hw
      have hwb : 0 ≤ w ∧ w ≤ 99 := by
        rw [hw]
        split
        · omega
        · exact kbn_b hL (hdr.resolve_left (by assumption)).1 (hdr.resolve_left (by assumption)).2 y0 c8
      rw [s52] at e41
      have hcv : x39 * 1024 + x41 = cvM L (catL L) kind e p hd y := by
        unfold cvM
        rw [← hw]
        omega
      have same : (b ≠ -1 → cvM L (catL L) kind e p hd b < cvM L (catL L) kind e p hd y ∨ (cvM L (catL L) kind e p hd b = cvM L (catL L) kind e p hd y ∧ bs L p b ≤ bs L p y)) → b ≠ -1 → (t' = t' ∧ 0 ≤ y + 1 ∧ y + 1 ≤ 8 ∧ ((b = -1 ∧ ∀ g, 0 ≤ g → g < y + 1 → ¬ CnM L A B e p hd g) ∨ ((0 ≤ b ∧ b < y + 1) ∧ CnM L A B e p hd b ∧ ∀ g', 0 ≤ g' → g' < y + 1 → CnM L A B e p hd g' → cvM L (catL L) kind e p hd b < cvM L (catL L) kind e p hd g' ∨ (cvM L (catL L) kind e p hd b = cvM L (catL L) kind e p hd g' ∧ bs L p b ≤ bs L p g'))) ∧ (b ≠ -1 → its * 1024 + n = cvM L (catL L) kind e p hd b ∧ 0 ≤ n ∧ n ≤ 648)) ∧ zR (y + 1) ∧ (8 - (y + 1)).toNat < (8 - y).toNat := fun hle nb => by
        refine ⟨⟨rfl, by omega, by omega, Or.inr ?_, hval⟩, zRi (by omega) (by omega), by omega⟩
        have f := hB.resolve_left (fun q => nb q.1)
        refine ⟨⟨f.1.1, by omega⟩, f.2.1, fun g g0 g1 hc => ?_⟩
        by_cases eg : g = y
        · rw [eg]; exact hle nb
        · exact f.2.2 g g0 (by omega) hc
      have new : (b ≠ -1 → cvM L (catL L) kind e p hd y < cvM L (catL L) kind e p hd b ∨ (cvM L (catL L) kind e p hd y = cvM L (catL L) kind e p hd b ∧ bs L p y ≤ bs L p b)) → (t' = t' ∧ 0 ≤ y + 1 ∧ y + 1 ≤ 8 ∧ ((y = -1 ∧ ∀ g, 0 ≤ g → g < y + 1 → ¬ CnM L A B e p hd g) ∨ ((0 ≤ y ∧ y < y + 1) ∧ CnM L A B e p hd y ∧ ∀ g', 0 ≤ g' → g' < y + 1 → CnM L A B e p hd g' → cvM L (catL L) kind e p hd y < cvM L (catL L) kind e p hd g' ∨ (cvM L (catL L) kind e p hd y = cvM L (catL L) kind e p hd g' ∧ bs L p y ≤ bs L p g'))) ∧ (y ≠ -1 → x39 * 1024 + x41 = cvM L (catL L) kind e p hd y ∧ 0 ≤ x41 ∧ x41 ≤ 648)) ∧ zR x39 ∧ zR x41 ∧ zR (y + 1) ∧ (8 - (y + 1)).toNat < (8 - y).toNat := fun hle => by
        refine ⟨⟨rfl, by omega, by omega, Or.inr ⟨⟨y0, by omega⟩, hcn, fun g g0 g1 hc => ?_⟩, fun _ => ⟨hcv, by omega, by omega⟩⟩, zRi (by omega) (by omega), zRi (by omega) (by omega), zRi (by omega) (by omega), by omega⟩
        by_cases eg : g = y
        · rw [eg]; exact Or.inr ⟨rfl, Int.le_refl _⟩
        · rcases hB with ⟨nb, f⟩ | ⟨hb, f1, f2⟩
          · exact absurd hc (f g g0 (by omega))
          · have a := hle (by omega)
            have b' := f2 g g0 (by omega) hc
            omega
      refine ⟨fun nb => new (fun q => absurd nb q), fun nb => ?_⟩
      have hv := hval nb
      have z39 : zR x39 := zRi (by omega) (by omega)
      have z41 : zR x41 := zRi (by omega) (by omega)
      refine ⟨z39, fun d => same (fun _ => Or.inl (by omega)) nb, fun d => ⟨fun d2 => ?_, fun d2 => ⟨z41, fun d3 => same (fun _ => Or.inl (by omega)) nb, fun d3 => ⟨fun d4 => ?_, fun d4 => ?_⟩⟩⟩⟩
      · have a := new (fun _ => Or.inl (by omega))
        exact ⟨a.1, a.2.2.1, a.2.2.2.1, a.2.2.2.2⟩
      · have a := new (fun _ => Or.inl (by omega))
        exact ⟨a.1, a.2.2.2.1, a.2.2.2.2⟩
      · have f := hB.resolve_left (fun q => nb q.1)
        refine t_M_beside hms hL ip ⟨f.1.1, by omega⟩ ⟨fun d5 => ?_, fun d5 => same (fun _ => Or.inr ⟨by omega, by omega⟩) nb⟩
        have a := new (fun _ => Or.inr ⟨by omega, d5⟩)
        exact ⟨a.1, a.2.2.2.1, a.2.2.2.2⟩
    · rw [s51] at ff
      exact (hinf _ (by omega) (by omega)).mp ff q.2.2

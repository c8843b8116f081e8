theorem t_N_markTouched {K : zS → Prop} {σ : zS} {L : Int → Int} (hc : CC L σ) (hL : GW L) (hn : 1 ≤ σ 15 13 ∧ σ 15 13 ≤ 649) (hA : Adj L (σ 25) (σ 15 13)) (h : ∀ τ, zQ [30] σ τ → (∀ k, 0 ≤ k → k + 1 < σ 15 13 → τ 30 (σ 25 (k + 1)) ≠ 0 ∧ (hg L (σ 25) k % 2 ≠ 0 → τ 30 (bs L (σ 25 k) (hg L (σ 25) k - 1)) ≠ 0 ∧ τ 30 (bs L (σ 25 k) ((hg L (σ 25) k + 1) % 8)) ≠ 0)) → K τ) : q_N_markTouched K σ := by
  unfold q_N_markTouched q_W_path
  refine t_J_fill2 (M := 81) rfl ?_
  refine ⟨fun y s => zQ [30] σ s ∧ 0 ≤ y ∧ y < σ 15 13 ∧ (∀ q, s 30 q = zFill σ 30 0 81 0 30 q ∨ s 30 q = 1) ∧ ∀ k, 0 ≤ k → k < y → s 30 (σ 25 (k + 1)) = 1 ∧ (hg L (σ 25) k % 2 ≠ 0 → s 30 (bs L (σ 25 k) (hg L (σ 25) k - 1)) = 1 ∧ s 30 (bs L (σ 25 k) ((hg L (σ 25) k + 1) % 8)) = 1), fun y _ => (649 - y).toNat, ⟨zQ_F (by decide), by decide, by omega, fun q => Or.inl rfl, fun k a b => by omega⟩, ?_⟩
  rintro y s ⟨hq, y0, y1, hv, hI⟩ -
  have hcs := CC_Q hc hq (by decide)
  unfold q_W_pathSize
  have s15 : s 15 = σ 15 := hq 15 (by decide)
  have s25 : s 25 = σ 25 := hq 25 (by decide)
  dsimp only
  rw [s15, s25]
  refine ⟨zRi (by omega) (by omega), fun c => h s hq (fun k k0 k1 => ?_), fun c => ⟨by omega, by omega, ?_⟩⟩
  · have a := hI k k0 (by omega)
    refine ⟨by rw [a.1]; decide, fun z => ?_⟩
    obtain ⟨b1, b2⟩ := a.2 z
    rw [b1, b2]
    decide
  · have a := hA y y0 c
    have ib := a.2.1.b hL
    refine t_L_headingTo hcs hL a.1 a.2.2.1 a.2.2.2 a.2.1.ne ?_
    rw [s25]
    refine ⟨ib, fun s17 e17 => ?_⟩
    have keep : ∀ (t : zS) (x : Int), (∀ q, t 30 q = if q = x then 1 else s17 30 q) → ∀ q, (s 30 q = 1 → t 30 q = 1) := fun t x ht q hs => by
      rw [ht q]
      split
      · rfl
      · rw [e17, zU_if]
        split
        · rfl
        · exact hs
    have k17 : ∀ q, s17 30 q = if q = σ 25 (y + 1) then 1 else s 30 q := fun q => by rw [e17, zU_if]
    have q17 : zQ [30] σ s17 := by rw [e17]; exact zQ_t hq (zQ_U (by decide))
    have v17 : ∀ q, s17 30 q = zFill σ 30 0 81 0 30 q ∨ s17 30 q = 1 := fun q => by
      rw [k17]
      split
      · exact Or.inr rfl
      · exact hv q
    have hc17 := CC_Q hc q17 (by decide)
    have e25 : s17 25 = σ 25 := q17 25 (by decide)
    rw [zAnd_1]
    refine ⟨fun z => ⟨⟨q17, by omega, by omega, v17, fun k k0 k1 => ?_⟩, by omega⟩, fun z => ⟨zRi (by omega) (by omega), ?_⟩⟩
    · by_cases e : k = y
      · rw [e, k17, if_pos rfl]
        exact ⟨rfl, fun w => absurd z w⟩
      · have o := hI k k0 (by omega)
        have m : ∀ q, s 30 q = 1 → s17 30 q = 1 := fun q hs => by rw [k17]; split; rfl; exact hs
        exact ⟨m _ o.1, fun w => ⟨m _ (o.2 w).1, m _ (o.2 w).2⟩⟩
    · have sd := bes_side hL.W a.1.1 a.1.2 a.2.2.1.1 a.2.2.1.2 z (by show bs L (σ 25 y) (hg L (σ 25) y) ≠ -1; rw [a.2.2.2]; exact a.2.1.ne)
      have i1 := bs_in (L := L) sd.1
      have i2 := bs_in (L := L) sd.2.1
      rw [e25]
      refine t_L_besideOf hc17 hL a.1 (by omega) ⟨i1.b hL, fun s25' e25' => ?_⟩
      have q25 : zQ [30] σ s25' := by rw [e25']; exact zQ_t q17 (zQ_U (by decide))
      have f25 : s25' 25 = σ 25 := q25 25 (by decide)
      rw [f25, zAnd_7]
      refine t_L_besideOf (CC_Q hc q25 (by decide)) hL a.1 (by omega) ⟨i2.b hL, fun s30 e30 => ?_⟩
      have k30 : ∀ q, s30 30 q = if q = bs L (σ 25 y) ((hg L (σ 25) y + 1) % 8) then 1 else if q = bs L (σ 25 y) (hg L (σ 25) y - 1) then 1 else if q = σ 25 (y + 1) then 1 else s 30 q := fun q => by rw [e30, zU_if, e25', zU_if, k17]
      refine ⟨⟨by rw [e30]; exact zQ_t q25 (zQ_U (by decide)), by omega, by omega, fun q => ?_, fun k k0 k1 => ?_⟩, by omega⟩
      · rw [k30]
        split
        · exact Or.inr rfl
        · split
          · exact Or.inr rfl
          · split
            · exact Or.inr rfl
            · exact hv q
      · have m : ∀ q, s 30 q = 1 → s30 30 q = 1 := fun q hs => by
          rw [k30]
          split
          · rfl
          · split
            · rfl
            · split
              · rfl
              · exact hs
        by_cases e : k = y
        · rw [e]
          refine ⟨?_, fun _ => ⟨?_, ?_⟩⟩
          · rw [k30]
            split
            · rfl
            · split
              · rfl
              · rw [if_pos rfl]
          · rw [k30]
            split
            · rfl
            · rw [if_pos rfl]
          · rw [k30, if_pos rfl]
        · have o := hI k k0 (by omega)
          exact ⟨m _ o.1, fun w => ⟨m _ (o.2 w).1, m _ (o.2 w).2⟩⟩
theorem wet_back {L : Int → Int} {p : Int} (h : L (94 + p) = 0) : up (up L (94 + p) 1) (94 + p) 0 = L := by
  rw [up_up]
  funext i
  unfold up
  split
  · rename_i e; rw [e, h]
  · rfl
theorem t_N_isWayWithout {K : Int → zS → Prop} {σ : zS} {L : Int → Int} {p fr to_ : Int} (hc : CC L σ) (hl : LW L) (hL : GW L) (hW : RWs L) (ip : inP L p) (hfr : inP L fr) (hto : inP L to_) (h1 : (L (94 + p) = 1 ∨ Thr (up L (94 + p) 1) (-1) (-1) fr to_) → ∀ τ, zQ [4, 12, 13, 15, 16, 17, 18, 19, 20, 26, 27, 29] σ τ → τ 4 = L → K 1 τ) (h0 : L (94 + p) ≠ 1 → ¬ Thr (up L (94 + p) 1) (-1) (-1) fr to_ → ∀ τ, zQ [4, 12, 13, 15, 16, 17, 18, 19, 20, 26, 27, 29] σ τ → τ 4 = L → K 0 τ) : q_N_isWayWithout p fr to_ K σ := by
  have ib := ip.b hL
  unfold q_N_isWayWithout
  refine t_L_isWet hc hL ip (fun w => n1a (h1 (Or.inl w) σ (zQ_r _ _) hc.1)) (fun w => n0a ?_)
  have w0 : L (94 + p) = 0 := (hL.2.2.2 p ib.1 ib.2).resolve_right w
  unfold q_L_setWet
  refine ⟨fun z => absurd z (by decide), fun _ => ⟨by omega, fun s4 e4 => ?_⟩⟩
  have q4 : zQ [4] σ s4 := by rw [e4]; exact zQ_U (by decide)
  have hl' := LW_wet (n := 1) hl ip (Or.inr rfl)
  have ipu : ∀ x, inP (up L (94 + p) 1) x ↔ inP L x := fun x => wet_in ib.1 x
  obtain ⟨hL', hW'⟩ := hl'.gw ((ipu p).mpr ip)
  have hc4 : CC (up L (94 + p) 1) s4 := by
    refine ⟨by rw [e4, zU_up, hc.1], fun x g ix g0 g1 => ?_⟩
    rw [q4 5 (by decide), hc.2 x g ((ipu x).mp ix) g0 g1, wet_bs ib.1]
  have t2 : 0 ≤ (up L (94 + p) 1) 2 ∧ (up L (94 + p) 1) 2 ≤ 99 := by have := hL'.2.1; omega
  have fin : ∀ (r : Int) (τ : zS), zQ [12, 13, 15, 16, 17, 18, 19, 20, 26, 27, 29] s4 τ → (∀ w, zQ [4, 12, 13, 15, 16, 17, 18, 19, 20, 26, 27, 29] σ w → w 4 = L → K r w) → ((0 : Int) = 0 → (0 ≤ 94 + p ∧ 94 + p < 499) ∧ ∀ σ3 : zS, σ3 = zU τ 4 (94 + p) 0 → K r σ3) ∧ ((0 : Int) ≠ 0 → (0 ≤ 94 + p ∧ 94 + p < 499) ∧ ∀ σ5 : zS, σ5 = zU τ 4 (94 + p) 1 → K r σ5) := by
    intro r τ q hk
    refine n0a ⟨by omega, fun w ew => hk w ?_ ?_⟩
    · rw [ew]; exact zQ_t (zQ_m q4 (by decide)) (zQ_t (zQ_m q (by decide)) (zQ_U (by decide)))
    · rw [ew, zU_up, q 4 (by decide), hc4.1]
      exact wet_back w0
  refine t_L_value (v := 2) hc4 (by decide) rfl (t_N_isWay hc4 hL' hW' t2 ((ipu fr).mpr hfr) ((ipu to_).mpr hto) (fun th τ q => ?_) (fun th τ q => ?_))
  · rw [up2_self] at th
    exact fin 1 τ q (fun w' qw w4 => h1 (Or.inr th) w' qw w4)
  · rw [up2_self] at th
    exact fin 0 τ q (fun w' qw w4 => h0 w th w' qw w4)
theorem pr_gate {σ : zS} {a b : Int} (hi : INV σ) : q_A_gate a b (fun r u => q_M_gate a b (fun v w => Agr r v w) u) σ := by
  obtain ⟨L, hc, hm, hl, -⟩ := id hi
  have hn := hl.n
  have ref : ∀ (r : Int) (u : zS), FR σ u → (¬ (inP L a ∧ inP L b) → Agr r 0 (zU u 41 0 1)) → (inP L a → inP L b → a = b → Agr r 0 (zU u 41 0 2)) → (inP L a → inP L b → a ≠ b → ∀ v w, zQ [42, 51] (zU u 41 0 0) w → w 42 = L → GtV L a b v → Agr r v w) → q_M_gate a b (fun v w => Agr r v w) u := by
    intro r u fr a1 a2 a0
    have hmu := FR_MM fr hm
    unfold q_M_gate
    refine t_M_two' hmu hn a1 a2 (fun i1 i2 ne => ?_)
    obtain ⟨hL, hW⟩ := hl.gw i1
    have hgn := hL.n
    have hm3 : MM L (-1) (-1) (zU u 41 0 0) := MM_F hmu (by decide)
    refine t_M_isThere hm3 hL hW.rb i1 i2 (fun th τ q => n1b ?_) (fun th τ q => n0b (a0 i1 i2 ne _ τ (zQ_m q (by decide)) (by rw [q 42 (by decide)]; exact hm3.1) (Or.inl ⟨th, rfl⟩)))
    refine ⟨fun f y s => zQ [42, 51] (zU u 41 0 0) s ∧ s 42 = L ∧ 0 ≤ y ∧ y ≤ L 0 * L 1 ∧ ((f = -1 ∧ ∀ p, inP L p → p < y → ¬ gtP L a b p) ∨ (inP L f ∧ gtP L a b f ∧ ∀ p, inP L p → p < f → ¬ gtP L a b p)), fun _ y _ => (81 - y).toNat, ⟨zQ_m q (by decide), by rw [q 42 (by decide)]; exact hm3.1, by decide, by omega, Or.inl ⟨rfl, fun p ip z => by have := ip.1; omega⟩⟩, ?_⟩
    rintro f y s ⟨hq, s42, y0, y1, hI⟩ - -
    have hms : MM L (-1) (-1) s := by
      refine ⟨s42, fun g g0 g1 => ?_, ?_, ?_⟩
      · rw [hq 47 (by decide), hq 48 (by decide)]; exact hm3.2.1 g g0 g1
      · rw [hq 41 (by decide)]; exact hm3.2.2.1
      · rw [hq 41 (by decide)]; exact hm3.2.2.2
    refine t_M_places hms (by omega) ⟨fun d => a0 i1 i2 ne _ s hq s42 (Or.inr ⟨th, ?_⟩), fun d => ⟨fun nf => a0 i1 i2 ne _ s hq s42 (Or.inr ⟨th, Or.inr (hI.resolve_left (fun z => nf z.1))⟩), fun ef => ?_⟩⟩
    · rcases hI with ⟨z1, z2⟩ | z
      · exact Or.inl ⟨z1, fun p ip => z2 p ip (by have := ip.2; omega)⟩
      · exact Or.inr z
    · have z2 := (hI.resolve_right (fun z => absurd ef z.1.ne)).2
      have iy : inP L y := ⟨y0, d⟩
      have ib := iy.b hL
      have skip : ∀ t : zS, zQ [42, 51] (zU u 41 0 0) t → t 42 = L → ¬ gtP L a b y → (zQ [42, 51] (zU u 41 0 0) t ∧ t 42 = L ∧ 0 ≤ y + 1 ∧ y + 1 ≤ L 0 * L 1 ∧ ((f = -1 ∧ ∀ p, inP L p → p < y + 1 → ¬ gtP L a b p) ∨ (inP L f ∧ gtP L a b f ∧ ∀ p, inP L p → p < f → ¬ gtP L a b p))) ∧ zR (y + 1) ∧ (81 - (y + 1)).toNat < (81 - y).toNat := fun t qt t42 hg => by
        refine ⟨⟨qt, t42, by omega, by omega, Or.inl ⟨ef, fun p ip hp => ?_⟩⟩, zRi (by omega) (by omega), by omega⟩
        by_cases e : p = y
        · rw [e]; exact hg
        · exact z2 p ip (by omega)
      refine ⟨fun e => skip s hq s42 (fun g => g.1 e), fun e1 => ⟨fun e => skip s hq s42 (fun g => g.2.1 e), fun e2 => ?_⟩⟩
      refine t_M_isWet hms (by omega) (fun w => n1a (skip s hq s42 (fun g => g.2.2.1 w))) (fun w => n0a ⟨by omega, fun s26 e26 => ?_⟩)
      have w0 : L (94 + y) = 0 := (hL.2.2.2 y ib.1 ib.2).resolve_right w
      have q26 : zQ [42, 51] (zU u 41 0 0) s26 := by rw [e26]; exact zQ_t hq (zQ_U (by decide))
      have hl' := LW_wet (n := 1) hl iy (Or.inr rfl)
      have ipu : ∀ x, inP (up L (94 + y) 1) x ↔ inP L x := fun x => wet_in ib.1 x
      obtain ⟨hL', hW'⟩ := hl'.gw ((ipu y).mpr iy)
      have f42 : s26 42 = up L (94 + y) 1 := by rw [e26, zU_up, s42]
      have hm26 : MM (up L (94 + y) 1) (-1) (-1) s26 := by
        refine ⟨f42, fun g g0 g1 => ?_, ?_, ?_⟩
        · rw [q26 47 (by decide), q26 48 (by decide)]; exact hm3.2.1 g g0 g1
        · rw [q26 41 (by decide)]; exact hm3.2.2.1
        · rw [q26 41 (by decide)]; exact hm3.2.2.2
      have back : ∀ (t s' : zS), zQ [51] s26 t → s' = zU t 42 (94 + y) 0 → zQ [42, 51] (zU u 41 0 0) s' ∧ s' 42 = L := fun t s' qt es => by
        refine ⟨?_, ?_⟩
        · rw [es]; exact zQ_t (zQ_t q26 (zQ_m qt (by decide))) (zQ_U (by decide))
        · rw [es, zU_up, qt 42 (by decide), f42]
          exact wet_back w0
      refine t_M_isThere hm26 hL' hW'.rb ((ipu a).mpr i1) ((ipu b).mpr i2) (fun th' t qt => n1b (fun s30 e30 => ?_)) (fun th' t qt => n0b (fun s33 e33 => ?_))
      · have bk := back t s30 qt e30
        exact skip s30 bk.1 bk.2 (fun g => g.2.2.2 th')
      · have bk := back t s33 qt e33
        exact ⟨⟨bk.1, bk.2, by omega, by omega, Or.inr ⟨iy, ⟨e1, e2, w, th'⟩, z2⟩⟩, zRi (by omega) (by omega), by dsimp only; omega⟩
  unfold q_A_gate q_R_gate
  refine t_R_needPair hc hn (fun i1 i2 => t_R_needUnlike (fun ne => ?_) (fun e => Or.inr ⟨rfl, ref 2 σ (FR_r σ) (fun x => absurd ⟨i1, i2⟩ x) (fun _ _ _ => Agr_x hi (by decide)) (fun _ _ x => absurd e x)⟩)) (fun ni => Or.inl ⟨rfl, ref 1 σ (FR_r σ) (fun _ => Agr_x hi (by decide)) (fun x y => absurd ⟨x, y⟩ ni) (fun x y => absurd ⟨x, y⟩ ni)⟩)
  obtain ⟨hL, hW⟩ := hl.gw i1
  have hgn := hL.n
  have val : ∀ v τ, zQ [4, 12, 13, 15, 16, 17, 18, 19, 20, 21, 22, 23, 24, 25, 26, 27, 29, 30] σ τ → τ 4 = L → GtV L a b v → q_M_gate a b (fun v w => Agr 0 v w) (zU τ 64 0 v) := by
    intro v τ q h4 hv
    have fr0 : FR σ τ := by
      refine ⟨fun o ho => ?_, fun k _ => by rw [q 41 (by decide)]⟩
      by_cases e : o = 4
      · rw [e, h4]; exact hc.1.symm
      · refine q o ?_
        revert ho e
        revert o
        decide
    have fr : FR σ (zU τ 64 0 v) := FR_t fr0 (FR_64 v)
    refine ref 0 _ fr (fun x => absurd ⟨i1, i2⟩ x) (fun _ _ e => absurd e ne) (fun _ _ _ v' w qw w42 hv' => ?_)
    rw [GtV_uniq hv' hv]
    refine Agr_0 hi (FR_t fr (FR_t (FR_F (k := 0) (v := 0) (by decide)) (FR_42 qw (by decide) ?_ (fun k _ => by rw [qw 41 (by decide)])))) (by rw [qw 41 (by decide), zU_s]) (by rw [qw 64 (by decide), zU_o (by decide), zU_s])
    rw [w42, zU_row (by decide)]
    exact (FR_MM fr hm).1.symm
  unfold q_N_firstGate
  refine t_W_find hc hL hW (by decide) i1 i2 (fun m τ q hf hsz hin hwk => ?_)
  have hcτ := CC_Q hc q (by decide)
  have hCB := catL_CB hL
  obtain ⟨hB, h1⟩ := WtS_WB hL hCB hf.2.1
  obtain ⟨D, hD⟩ := cLab_ex (goal := b) (ly := 1) (N := 648) rfl hL hB
  have lt := lab_thr hL hCB i1 i2 hf.2.1 hD
  have lk := lk_lab hL hB i1 (hf.2.2.2.2 D hD) hD hf.2.2.2.1
  have mb := hf.2.2.2.1
  refine ⟨fun nm => ?_, fun em => val _ τ (zQ_m q (by decide)) (by rw [q 4 (by decide)]; exact hc.1) (Or.inl ⟨fun th => ?_, rfl⟩)⟩
  · have mne : m ≠ 1000000000 := fun e => nm (by rw [if_pos e])
    have th : Thr L (-1) (-1) a b := lt.mp (lk.2 mne).1
    rcases hwk D hD with ⟨n0, hno⟩ | ⟨hn2, hway⟩
    · obtain ⟨g, hg, hcn⟩ := (lk.2 mne).1
      exact absurd hcn (hno g hg.1 hg.2)
    have cnb : ∀ p h g, inP L p → CnC L (τ 16) D p h g → (0 ≤ g ∧ g < 8) → bs L p g ≠ -1 := fun p h g ip c hg => ((hB.2.2 p g ip hg.1 hg.2).resolve_left c.1).1
    have hway' : WayP L (fun p h g => CnC L (τ 16) D p h g ∧ (0 ≤ g ∧ g < 8)) (cvC (bwk L 3) D) a b (τ 15 13 - 1) (τ 25) := by
      obtain ⟨w1, w2, w3, w4, H, w5, w6⟩ := hway
      refine ⟨w1, w2, w3, w4, H, w5, fun k k0 k1 => ⟨⟨(w6 k k0 k1).1.1, ⟨(w6 k k0 k1).1.2.1, (w6 k k0 k1).1.1⟩, fun g g0 g1 hg => (w6 k k0 k1).1.2.2 g g0 g1 hg.1⟩, (w6 k k0 k1).2⟩⟩
    obtain ⟨hA, hinP, H, H0, HH⟩ := Way_adj i1 (fun p h g ip c => cnb p h g ip c.1 c.2) hway'
    rw [show τ 15 13 - 1 + 1 = τ 15 13 by omega] at hA
    have hS : ∀ k, 0 ≤ k → k + 1 < τ 15 13 → Sty L (-1) (-1) (τ 25 k) (hg L (τ 25) k) := fun k k0 k1 => by
      have z := HH k k0 (by omega)
      have w := z.1.2.1.1.1
      rw [z.2.2]
      exact Classical.byContradiction (fun s => w ((hf.2.1 (τ 25 k) (H (k + 1)) (hA k k0 k1).1 z.1.1.1 z.1.1.2).2 s))
    have hBd : ∀ k, 0 < k → k + 1 < τ 15 13 → Bnd L (τ 25 k) (hg L (τ 25) (k - 1)) (hg L (τ 25) k) := fun k k0 k1 => by
      have z := HH k (by omega) (by omega)
      have z' := HH (k - 1) (by omega) (by omega)
      rw [show k - 1 + 1 = k by omega] at z'
      rw [z.2.2, z'.2.2]
      exact z.1.2.1.1.2.1 (by have := z'.1.1.1; omega)
    refine t_N_markTouched hcτ hL hn2 hA (fun t4 q4 ht => ?_)
    refine ⟨fun y s => zQ [4, 12, 13, 15, 16, 17, 18, 19, 20, 21, 22, 23, 24, 25, 26, 27, 29, 30] σ s ∧ s 4 = L ∧ s 30 = t4 30 ∧ 0 ≤ y ∧ y ≤ L 0 * L 1 ∧ ∀ p, inP L p → p < y → ¬ gtP L a b p, fun y _ => (81 - y).toNat, ⟨zQ_t (zQ_m q (by decide)) (zQ_m q4 (by decide)), by rw [q4 4 (by decide), q 4 (by decide)]; exact hc.1, rfl, by decide, by omega, fun p ip z => by have := ip.1; omega⟩, ?_⟩
    rintro y s ⟨hq, s4, s30, y0, y1, hI⟩ -
    have hcs : CC L s := by
      refine ⟨s4, fun p g ip g0 g1 => ?_⟩
      rw [hq 5 (by decide)]
      exact hc.2 p g ip g0 g1
    refine t_L_places hcs (by omega) ⟨fun d => val _ s hq s4 (Or.inr ⟨th, Or.inl ⟨rfl, fun p ip => hI p ip (by have := ip.2; omega)⟩⟩), fun d => ?_⟩
    have iy : inP L y := ⟨y0, d⟩
    have ib := iy.b hL
    have skip : ∀ t : zS, zQ [4, 12, 13, 15, 16, 17, 18, 19, 20, 21, 22, 23, 24, 25, 26, 27, 29, 30] σ t → t 4 = L → t 30 = t4 30 → ¬ gtP L a b y → (zQ [4, 12, 13, 15, 16, 17, 18, 19, 20, 21, 22, 23, 24, 25, 26, 27, 29, 30] σ t ∧ t 4 = L ∧ t 30 = t4 30 ∧ 0 ≤ y + 1 ∧ y + 1 ≤ L 0 * L 1 ∧ ∀ p, inP L p → p < y + 1 → ¬ gtP L a b p) ∧ zR (y + 1) ∧ (81 - (y + 1)).toNat < (81 - y).toNat := fun t qt t4' t30 hg => by
      refine ⟨⟨qt, t4', t30, by omega, by omega, fun p ip hp => ?_⟩, zRi (by omega) (by omega), by omega⟩
      by_cases e : p = y
      · rw [e]; exact hg
      · exact hI p ip (by omega)
    rw [s30]
    refine ⟨ib, fun z => skip s hq s4 s30 (fun g => ?_), fun z => ⟨fun e => skip s hq s4 s30 (fun g => g.1 e), fun e1 => ⟨fun e => skip s hq s4 s30 (fun g => g.2.1 e), fun e2 => ?_⟩⟩⟩
    · -- an untouched place
      have n2 : 2 ≤ τ 15 13 := by
        by_cases w : τ 15 13 = 1
        · exfalso
          have h1 := hway.1
          have h2 := hway.2.1
          rw [w] at h2
          exact ne (h1.symm.trans h2)
        · omega
      refine g.2.2.2 (thr_path (H := H) hL ib hA n2 hway.1 hway.2.1 hS hBd (fun e => g.1 e.symm) (fun k k0 k1 => ?_))
      have tk := ht k k0 k1
      refine ⟨fun e => tk.1 (by rw [e]; exact z), fun o => ⟨fun e => (tk.2 o).1 (by rw [e]; exact z), fun e => (tk.2 o).2 (by rw [e]; exact z)⟩⟩
    · refine t_N_isWayWithout hcs hl hL hW iy i1 i2 (fun hw t qt t4' => n1b (skip t (zQ_t hq (zQ_m qt (by decide))) t4' (by rw [qt 30 (by decide)]; exact s30) (fun g => hw.elim g.2.2.1 g.2.2.2))) (fun w th' t qt t4' => n0b (val _ t (zQ_t hq (zQ_m qt (by decide))) t4' (Or.inr ⟨th, Or.inr ⟨iy, ⟨e1, e2, w, th'⟩, hI⟩⟩)))
  · have me : m = 1000000000 := by
      by_cases e : m = 1000000000
      · exact e
      · rw [if_neg e] at em
        have := mb.1
        omega
    obtain ⟨g, hg, hcn⟩ := lt.mpr th
    exact lk.1 me g hg.1 hg.2 hcn

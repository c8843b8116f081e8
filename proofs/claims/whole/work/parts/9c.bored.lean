/-! ===== bored agrees ===== -/
theorem t_M_boredBody {K : Int → zS → Prop} {σ : zS} {L : Int → Int} {from_ to_ n_ : Int} (hm : MM L (-1) (-1) σ) (hL : GW L) (hR : RB L) (hn : 0 ≤ n_ ∧ n_ ≤ 3) (ifr : inP L from_) (ito : inP L to_) (h : ∀ τ R c, zQ [53] σ τ → Lab 1000000000 (fun v : Int => 0 ≤ v ∧ v < (2592 : Nat)) (rBs L from_ n_) (rEd L n_) R → Ca32 R to_ c → K (if c = 1000000000 then -1 else c) τ) : ∃ (I43 : Int → zS → Prop) (μ43 : Int → zS → Nat), (I43 0 σ) ∧ ∀ (y8 : Int) (σ9 : zS), I43 y8 σ9 → zR y8 → 
        (2592 ≤ y8 →
          q_M_bores from_ (-1) 0 0 n_ (fun r12 σ11 =>
            ∃ (I77 : Int → zS → Prop) (μ77 : Int → zS → Nat), (I77 r12 σ11) ∧ ∀ (y13 : Int) (σ14 : zS), I77 y13 σ14 → zR y13 → 
            (y13 = 0 →
              ∀ x16 : Int, x16 = 32 * to_ → ∃ (I174 : Int → Int → zS → Prop) (μ174 : Int → Int → zS → Nat), (I174 1000000000 x16 σ14 ∧ zR x16) ∧ ∀ (y17 y18 : Int) (σ19 : zS), I174 y17 y18 σ19 → zR y17 → zR y18 → 
              zR ((32 * to_) + 32) ∧ ((((32 * to_) + 32) ≤ y18 →
                  (y17 ≠ 1000000000 →
                    K y17 σ19) ∧ (y17 = 1000000000 →
                    K (-1) σ19)) ∧ (y18 < ((32 * to_) + 32) →
                  (0 ≤ y18 ∧ y18 < 2592) ∧ (q_M_lesser y17 (σ19 53 y18) (fun r27 σ26 =>
                      I174 r27 (y18 + 1) σ26 ∧ zR (y18 + 1) ∧ μ174 r27 (y18 + 1) σ26 < μ174 y17 y18 σ19) σ19)))) ∧ (y13 ≠ 0 →
              ∃ (I88 : Int → Int → zS → Prop) (μ88 : Int → Int → zS → Nat), (I88 0 0 σ14) ∧ ∀ (y30 y31 : Int) (σ32 : zS), I88 y30 y31 σ32 → zR y30 → zR y31 → 
              q_M_places (fun r34 σ33 =>
                zR (32 * r34) ∧ (((32 * r34) ≤ y31 →
                    I77 y30 σ33 ∧ μ77 y30 σ33 < μ77 y13 σ14) ∧ (y31 < (32 * r34) →
                    (0 ≤ y31 ∧ y31 < 2592) ∧ ((1000000000 ≤ (σ33 53 y31) →
                        I88 y30 (y31 + 1) σ33 ∧ zR (y31 + 1) ∧ μ88 y30 (y31 + 1) σ33 < μ88 y30 y31 σ32) ∧ ((σ33 53 y31) < 1000000000 →
                        zR (Int.tdiv y31 4) ∧ (zR (Int.tdiv y31 32) ∧ (zR (Int.tmod (Int.tdiv y31 4) 8) ∧ (zR (Int.tmod y31 4) ∧ (q_M_bores (Int.tdiv y31 32) (Int.tmod (Int.tdiv y31 4) 8) (Int.tmod y31 4) (σ33 53 y31) n_ (fun r48 σ47 =>
                                  (r48 ≠ 0 →
                                    I88 1 (y31 + 1) σ47 ∧ zR (y31 + 1) ∧ μ88 1 (y31 + 1) σ47 < μ88 y30 y31 σ32) ∧ (r48 = 0 →
                                    (y30 = 0 →
                                      I88 0 (y31 + 1) σ47 ∧ zR (y31 + 1) ∧ μ88 0 (y31 + 1) σ47 < μ88 y30 y31 σ32) ∧ (y30 ≠ 0 →
                                      I88 1 (y31 + 1) σ47 ∧ zR (y31 + 1) ∧ μ88 1 (y31 + 1) σ47 < μ88 y30 y31 σ32))) σ33))))))))) σ32)) σ9) ∧ (y8 < 2592 →
          (0 ≤ y8 ∧ y8 < 2592) ∧ (∀ σ58 : zS, σ58 = zU σ9 53 y8 1000000000 → I43 (y8 + 1) σ58 ∧ zR (y8 + 1) ∧ μ43 (y8 + 1) σ58 < μ43 y8 σ9)) := by
  have hN := hL.n
  have itb := ito.b hL
  refine ⟨fun y s => zQ [53] σ s ∧ 0 ≤ y ∧ y ≤ 2592 ∧ ∀ v, 0 ≤ v → v < y → s 53 v = 1000000000, fun y _ => (2592 - y).toNat, ⟨zQ_r _ _, by decide, by decide, fun v a b => by omega⟩, ?_⟩
  rintro y s ⟨hq, y0, y1, hI⟩ -
  refine ⟨fun c => ?_, fun c => ⟨⟨y0, c⟩, fun s1 e1 => ⟨⟨by rw [e1]; exact zQ_t hq (zQ_U (by decide)), by omega, by omega, fun v v0 v1 => ?_⟩, zRi (by omega) (by omega), by dsimp only; omega⟩⟩⟩
  · refine t_M_borFirst (MM_Q hm hq (by decide)) hL hR hn ifr (fun v v0 v1 => hI v v0 (by omega)) (fun x1 s1 hx1 q1 hG1 hz1 => ?_)
    refine ⟨fun x s => zQ [53] σ s ∧ RG L from_ n_ (s 53) ∧ (x = 0 ∨ x = 1) ∧ (x = 0 → rC L n_ (fun _ _ => True) (s 53)), fun x s => 2 * sgm 2592 (s 53) + x.toNat, ⟨zQ_t hq q1, hG1, hx1, fun e => ?_⟩, ?_⟩
    · intro p h g n ip hh hg hn' _ ok hf
      have ipb := ip.b hL
      have := hz1 e (32 * p + 4 * h + n) (by omega) (by omega)
      omega
    rintro x s ⟨hq, hG, hx, hf⟩ -
    refine ⟨fun e => ?_, fun e => ?_⟩
    · -- the least of them
      have lab : Lab 1000000000 (fun v : Int => 0 ≤ v ∧ v < (2592 : Nat)) (rBs L from_ n_) (rEd L n_) (s 53) := RI_lab hG (fun v u w he hfu => by
        obtain ⟨p, h', g, n, ip, hh, hg, n0, o, bd, hs, e1, e2, e3⟩ := he
        have so := stp_or L p g
        rw [e1] at hfu
        rw [e1, e2, e3]
        exact hf e p h' g n ip hh hg ⟨n0, by omega⟩ trivial ⟨o, fun _ => bd, hs⟩ hfu)
      intro x16 e16
      refine ⟨fun m k t => t = s ∧ 32 * to_ ≤ k ∧ k ≤ 32 * to_ + 32 ∧ 0 ≤ m ∧ m ≤ 1000000000 ∧ (∀ j, 0 ≤ j → j < k - 32 * to_ → m ≤ s 53 (32 * to_ + j)) ∧ (m = 1000000000 ∨ ∃ j, (0 ≤ j ∧ j < 32) ∧ m = s 53 (32 * to_ + j)), fun _ k _ => (32 * to_ + 32 - k).toNat, ⟨⟨rfl, by omega, by omega, by decide, by decide, fun j a b => by omega, Or.inl rfl⟩, zRi (by omega) (by omega)⟩, ?_⟩
      rintro m k t ⟨rfl, k0, k1, m0, m1, h1, h2⟩ - -
      refine ⟨zRi (by omega) (by omega), fun c1 => ?_, fun c1 => ⟨by omega, t_M_lesser ⟨⟨rfl, by omega, by omega, ?_⟩, zRi (by omega) (by omega), by dsimp only; omega⟩⟩⟩
      · have fin := h t (t 53) m hq lab ⟨m0, m1, fun j a b => h1 j a (by omega), h2⟩
        refine ⟨fun z => ?_, fun z => ?_⟩
        · rw [if_neg z] at fin; exact fin
        · rw [if_pos z] at fin; exact fin
      · have hv := RG_bd hG (v := k) (by omega) (by omega)
        by_cases q : m < t 53 k
        · rw [if_pos q]
          refine ⟨m0, m1, fun j a b => ?_, h2⟩
          by_cases ej : j = k - 32 * to_
          · rw [ej, show 32 * to_ + (k - 32 * to_) = k by omega]; omega
          · exact h1 j a (by omega)
        · rw [if_neg q]
          refine ⟨hv.1, hv.2.1, fun j a b => ?_, Or.inr ⟨k - 32 * to_, by omega, by rw [show 32 * to_ + (k - 32 * to_) = k by omega]⟩⟩
          by_cases ej : j = k - 32 * to_
          · rw [ej, show 32 * to_ + (k - 32 * to_) = k by omega]; omega
          · have := h1 j a (by omega)
            omega
    · -- a round
      refine ⟨fun z k s' => zQ [53] σ s' ∧ RG L from_ n_ (s' 53) ∧ 0 ≤ k ∧ k ≤ 32 * (L 0 * L 1) ∧ ((z = 0 ∧ s' = s ∧ rC L n_ (fun u _ => u < k) (s 53)) ∨ (z = 1 ∧ sgm 2592 (s' 53) < sgm 2592 (s 53))), fun _ k _ => (2592 - k).toNat, ⟨hq, hG, by decide, by omega, Or.inl ⟨rfl, rfl, fun p hh g n ip hh' _ hn' hP => by have := ip.1; have : 32 * p + 4 * hh + n < 0 := hP; omega⟩⟩, ?_⟩
      rintro z k s' ⟨hq', hG', k0, k1, hz⟩ - -
      have hm' := MM_Q hm hq' (by decide)
      refine t_M_places hm' (by omega) ⟨zRi (by omega) (by omega), fun d => ⟨⟨hq', hG', ?_, fun e0 => ?_⟩, ?_⟩, fun d => ⟨by omega, fun ff => ⟨⟨hq', hG', by omega, by omega, ?_⟩, zRi (by omega) (by omega), by dsimp only; omega⟩, fun nf => ?_⟩⟩
      · rcases hz with a | a
        · exact Or.inl a.1
        · exact Or.inr a.1
      · rcases hz with ⟨a, b, f⟩ | a
        · rw [b]
          intro p hh g n ip hh' hg hn' _
          exact f p hh g n ip hh' hg hn' (by show 32 * p + 4 * hh + n < k; have := ip.2; omega)
        · omega
      · dsimp only
        have : x = 1 := hx.resolve_left e
        rcases hz with ⟨a, b, f⟩ | ⟨a, b⟩
        · rw [a, b, this]; omega
        · rw [a, this]; omega
      · rcases hz with ⟨a, b, f⟩ | a
        · refine Or.inl ⟨a, b, fun p hh g n ip hh' hg hn' hP ok hf' => ?_⟩
          have hP' : 32 * p + 4 * hh + n < k + 1 := hP
          by_cases q : 32 * p + 4 * hh + n = k
          · rw [b] at ff
            rw [q] at hf'
            omega
          · exact f p hh g n ip hh' hg hn' (by show 32 * p + 4 * hh + n < k; omega) ok hf'
        · exact Or.inr a
      · rw [Int.tdiv_eq_ediv_of_nonneg k0, Int.tdiv_eq_ediv_of_nonneg k0, Int.tmod_eq_emod_of_nonneg k0, Int.tmod_eq_emod_of_nonneg (show 0 ≤ k / 4 by omega)]
        refine ⟨zRi (by omega) (by omega), zRi (by omega) (by omega), zRi (by omega) (by omega), zRi (by omega) (by omega), ?_⟩
        refine t_M_borState (fr := from_) hq' hm hL hR hn k0 d hG' nf (fun y t hy qt hGt ht => ?_)
        have nx : ∀ z3 : Int, (z3 = 0 → y = 0 ∧ z = 0) → (z3 = 0 ∨ (z3 = 1 ∧ (y = 1 ∨ z ≠ 0))) → (zQ [53] σ t ∧ RG L from_ n_ (t 53) ∧ 0 ≤ k + 1 ∧ k + 1 ≤ 32 * (L 0 * L 1) ∧ ((z3 = 0 ∧ t = s ∧ rC L n_ (fun u _ => u < k + 1) (s 53)) ∨ (z3 = 1 ∧ sgm 2592 (t 53) < sgm 2592 (s 53)))) ∧ zR (k + 1) ∧ (2592 - (k + 1)).toNat < (2592 - k).toNat := by
          intro z3 e3 h3
          refine ⟨⟨qt, hGt, by omega, by omega, ?_⟩, zRi (by omega) (by omega), by omega⟩
          rcases h3 with c3 | ⟨c3, h3⟩
          · obtain ⟨ey, ez⟩ := e3 c3
            rcases hz with ⟨a, b, f⟩ | a
            · rcases ht with ⟨-, t2, t3⟩ | t2
              · rw [b] at t3
                refine Or.inl ⟨c3, by rw [t2]; exact b, fun p hh g n ip hh' hg hn' hP ok hf' => ?_⟩
                have hP' : 32 * p + 4 * hh + n < k + 1 := hP
                by_cases q : 32 * p + 4 * hh + n = k
                · exact t3 p hh g n ip hh' hg hn' q ok hf'
                · exact f p hh g n ip hh' hg hn' (by show 32 * p + 4 * hh + n < k; omega) ok hf'
              · omega
            · omega
          · refine Or.inr ⟨c3, ?_⟩
            rcases hz with ⟨a, b, f⟩ | a
            · rcases ht with ⟨t1, t2, t3⟩ | t2
              · omega
              · rw [b] at t2
                exact t2.2
            · rcases ht with ⟨t1, t2, t3⟩ | t2
              · rw [t2]; exact a.2
              · omega
        refine ⟨fun ny => nx 1 (fun q => absurd q (by decide)) (Or.inr ⟨rfl, Or.inl (by omega)⟩), fun ey => ⟨fun ez => nx 0 (fun _ => ⟨ey, ez⟩) (Or.inl rfl), fun nz => nx 1 (fun q => absurd q (by decide)) (Or.inr ⟨rfl, Or.inr nz⟩)⟩⟩
  · rw [e1, zU_if]
    by_cases e : v = y
    · rw [if_pos e]
    · rw [if_neg e]
      exact hI v v0 (by omega)
theorem gdB {u : zS} {r2 n : Int} {body K0 : zS → Prop} (hr : 0 ≤ r2) (h1 : r2 ≠ 0 → K0 (zU u 41 0 r2)) (h2 : r2 = 0 → ¬ (0 ≤ n ∧ n ≤ 3) → K0 (zU (zU u 41 0 0) 41 0 2)) (h0 : r2 = 0 → (0 ≤ n ∧ n ≤ 3) → body (zU u 41 0 0)) : ∀ σ3 : zS, σ3 = zU u 41 0 r2 → ∃ J31 : zS → Prop, (∀ σ5 : zS, J31 σ5 → (σ5 41 0 ≤ 0 → body σ5) ∧ (0 < σ5 41 0 → K0 σ5)) ∧ ((σ3 41 0 ≠ 0 → J31 σ3) ∧ (σ3 41 0 = 0 → q_M_isIn n 0 3 (fun r63 σ62 => (r63 ≠ 0 → J31 σ62) ∧ (r63 = 0 → ∀ σ65 : zS, σ65 = zU σ62 41 0 2 → J31 σ65)) σ3)) := by
  intro σ3 e3
  have z3 : σ3 41 0 = r2 := by rw [e3, zU_s]
  refine ⟨fun s => (s 41 0 ≤ 0 → body s) ∧ (0 < s 41 0 → K0 s), fun s hs => hs, fun nz => ⟨fun z => by omega, fun _ => by rw [e3]; exact h1 (by omega)⟩, fun z => t_M_isIn (fun k0 k1 => n1b ⟨fun _ => ?_, fun q => by omega⟩) (fun nk => n0b (fun s65 e65 => ?_))⟩
  · rw [e3, show r2 = 0 by omega]
    exact h0 (by omega) ⟨k0, k1⟩
  · have z65 : s65 41 0 = 2 := by rw [e65, zU_s]
    refine ⟨fun q => by omega, fun _ => ?_⟩
    rw [e65, e3, show r2 = 0 by omega]
    exact h2 (by omega) nk
theorem pr_bored {σ : zS} {a b n : Int} (hi : INV σ) : q_A_bored a b n (fun x u => q_M_bored a b n (fun v w => Agr x v w) u) σ := by
  obtain ⟨L, hc, hm, hl, -⟩ := id hi
  have hn := hl.n
  have ref : ∀ (x : Int) (u : zS), FR σ u → (¬ (inP L a ∧ inP L b) → Agr x 0 (zU u 41 0 1)) → ((inP L a ∧ inP L b) → a = b → Agr x 0 (zU u 41 0 2)) → ((inP L a ∧ inP L b) → a ≠ b → ¬ (0 ≤ n ∧ n ≤ 3) → Agr x 0 (zU (zU u 41 0 0) 41 0 2)) → ((inP L a ∧ inP L b) → a ≠ b → (0 ≤ n ∧ n ≤ 3) → ∀ τ R c, zQ [53] (zU u 41 0 0) τ → Lab 1000000000 (fun v : Int => 0 ≤ v ∧ v < (2592 : Nat)) (rBs L a n) (rEd L n) R → Ca32 R b c → Agr x (if c = 1000000000 then -1 else c) τ) → q_M_bored a b n (fun v w => Agr x v w) u := by
    intro x u fr a1 a2 a3 a0
    have hmu := FR_MM fr hm
    unfold q_M_bored
    refine t_M_two hmu hn (fun i1 i2 ne => gdB (K0 := fun s => Agr x 0 s) (by decide) (fun z => absurd rfl z) (fun _ nk => a3 ⟨i1, i2⟩ ne nk) (fun _ hk => ?_)) (fun ni => gdB (K0 := fun s => Agr x 0 s) (by decide) (fun _ => a1 ni) (fun z => absurd z (by decide)) (fun z => absurd z (by decide))) (fun i1 i2 e => gdB (K0 := fun s => Agr x 0 s) (by decide) (fun _ => a2 ⟨i1, i2⟩ e) (fun z => absurd z (by decide)) (fun z => absurd z (by decide)))
    exact t_M_boredBody (K := fun v w => Agr x v w) (MM_F hmu (by decide)) (hl.gw i1).1 (hl.gw i1).2.rb hk i1 i2 (a0 ⟨i1, i2⟩ ne hk)
  unfold q_A_bored q_R_bored
  refine t_R_needPair hc hn (fun i1 i2 => t_R_needUnlike (fun ne => t_R_needNumber (fun n0 n1 => ?_) (fun nn => Or.inr ⟨rfl, ?_⟩)) (fun e => Or.inr ⟨rfl, ?_⟩)) (fun ni => Or.inl ⟨rfl, ?_⟩)
  · obtain ⟨hL, hW⟩ := hl.gw i1
    refine t_W_measureBored hc hL hW ⟨n0, n1⟩ i1 i2 (fun v τ q hv => ?_)
    have fr : FR σ (zU τ 64 0 v) := FR_t (FR_Q q (by decide) (by decide)) (FR_64 v)
    refine ref 0 _ fr (fun w => absurd ⟨i1, i2⟩ w) (fun _ e => absurd e ne) (fun _ _ w => absurd ⟨n0, n1⟩ w) (fun _ _ _ τ' R c q' hR hcc => ?_)
    rw [← hv R c hR hcc]
    exact Agr_0 hi (FR_t (FR_t fr (FR_F (by decide))) (FR_Q q' (by decide) (by decide))) (by rw [q' 41 (by decide), zU_s]) (by rw [q' 64 (by decide), zU_o (by decide), zU_s])
  · exact ref 2 σ (FR_r σ) (fun w => absurd ⟨i1, i2⟩ w) (fun _ e => absurd e ne) (fun _ _ _ => Agr_x (INV_FR (FR_F (by decide)) hi) (by decide)) (fun _ _ w => absurd w nn)
  · exact ref 2 σ (FR_r σ) (fun w => absurd ⟨i1, i2⟩ w) (fun _ _ => Agr_x hi (by decide)) (fun _ w => absurd e w) (fun _ w => absurd e w)
  · exact ref 1 σ (FR_r σ) (fun _ => Agr_x hi (by decide)) (fun w => absurd w ni) (fun w => absurd w ni) (fun w => absurd w ni)

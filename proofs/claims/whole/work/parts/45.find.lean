theorem off_edge {L bw wt lf : Int → Int} {ly u key g v x : Int} (hL : GW L) (hu0 : 0 ≤ u) (iq : inP L (u % 648 / 8)) (g0 : 0 ≤ g) (g1 : g < 8) (h : Off L bw wt lf ly (u % 648 / 8) (u % 8) (u / 648) key g v x) : ∃ w, cEd L bw wt lf ly v u w ∧ x = key + w := by
  obtain ⟨a1, a2, a3, a4, a5, a6⟩ := h
  have hbk : bs L (bs L (u % 648 / 8) (opp g)) g = u % 648 / 8 := by
    have := bs_opp hL iq opp_r.1 opp_r.2 a1
    rw [opp_opp g0 g1] at this
    exact this
  have ha : u % 8 ≠ -1 := by omega
  refine ⟨wt (8 * bs L (u % 648 / 8) (opp g) + g) + bw (eig g (u % 8)), ⟨bs L (u % 648 / 8) (opp g), g, u % 8, u / 648, bs_in a1, ⟨g0, g1⟩, by omega, by omega, by rw [hbk]; exact iq.ne, a2, a3, by rw [hbk]; exact a4 ha, a5, by rw [hbk]; omega, rfl⟩, ?_⟩
  rw [if_neg ha] at a6
  omega
theorem edge_off {L bw wt lf : Int → Int} {ly u v w : Int} (key : Int) (hL : GW L) (h : cEd L bw wt lf ly v u w) : ∃ g, 0 ≤ g ∧ g < 8 ∧ Off L bw wt lf ly (u % 648 / 8) (u % 8) (u / 648) key g v (key + w) := by
  obtain ⟨p, g, g', l, ip, hg, hg', l0, hb, hw, hl, hbd, e1, e2, e3⟩ := h
  have h5 := (bs_in hb).b hL
  have q1 : u % 648 / 8 = bs L p g := by omega
  have q2 : u % 8 = g' := by omega
  have q3 : u / 648 = l := by omega
  have hbk := bs_opp hL ip hg.1 hg.2 hb
  refine ⟨g, hg.1, hg.2, ?_⟩
  unfold Off
  rw [q1, q2, q3, hbk, if_neg (by omega), e3]
  exact ⟨ip.ne, hw, hl, fun _ => hbd, e1, by omega⟩
theorem off_base {L bw wt lf : Int → Int} {ly goal g v x : Int} (hL : GW L) (ig : inP L goal) (g0 : 0 ≤ g) (g1 : g < 8) (h : Off L bw wt lf ly goal (-1) 0 0 g v x) : cBs L wt lf ly goal v x := by
  obtain ⟨a1, a2, a3, a4, a5, a6⟩ := h
  have hbk : bs L (bs L goal (opp g)) g = goal := by
    have := bs_opp hL ig opp_r.1 opp_r.2 a1
    rw [opp_opp g0 g1] at this
    exact this
  rw [if_pos rfl] at a6
  exact ⟨bs L goal (opp g), g, bs_in a1, g0, g1, hbk, a2, by omega, by omega, by omega⟩
theorem base_off {L bw wt lf : Int → Int} {ly goal v b : Int} (hL : GW L) (ig : inP L goal) (h : cBs L wt lf ly goal v b) : ∃ g, 0 ≤ g ∧ g < 8 ∧ Off L bw wt lf ly goal (-1) 0 0 g v b := by
  obtain ⟨p, g, ip, g0, g1, hb, hw, hl, e1, e2⟩ := h
  have hbk := bs_opp hL ip g0 g1 (by rw [hb]; exact ig.ne)
  rw [hb] at hbk
  refine ⟨g, g0, g1, ?_⟩
  unfold Off
  rw [hbk, if_pos rfl]
  exact ⟨ip.ne, hw, by omega, fun e => absurd rfl e, by omega, by omega⟩
theorem plc_E {L bw wt lf : Int → Int} {ly u v w : Int} (hL : GW L) (h : cEd L bw wt lf ly v u w) : inP L (v % 648 / 8) := by
  obtain ⟨p, g, g', l, ip, hg, hg', l0, hb, hw, hl, hbd, e1, e2, e3⟩ := h
  have h5 := ip.b hL
  rw [show v % 648 / 8 = p by omega]
  exact ip
theorem plc_B {L wt lf : Int → Int} {ly goal v b : Int} (hL : GW L) (h : cBs L wt lf ly goal v b) : inP L (v % 648 / 8) := by
  obtain ⟨p, g, ip, g0, g1, hb, hw, hl, e1, e2⟩ := h
  have h5 := ip.b hL
  rw [show v % 648 / 8 = p by omega]
  exact ip
theorem t_W_search {K : zS → Prop} {σ : zS} {L bw wt lf : Int → Int} {ly goal stop : Int} {N : Nat} (hN : (N : Int) = ly * 648) (hG : GS L bw wt lf ly σ) (hB : WB L bw wt lf ly) (hL : GW L) (ig : inP L goal) (h : ∀ τ, zQ [21, 22, 23, 24] σ τ → (∀ D, Lab 1000000000 (fun v : Int => 0 ≤ v ∧ v < N) (cBs L wt lf ly goal) (cEd L bw wt lf ly) D → SrP N stop D (τ 22)) → (stop = -1 → Lab 1000000000 (fun v : Int => 0 ≤ v ∧ v < N) (cBs L wt lf ly goal) (cEd L bw wt lf ly) (τ 22)) → (∀ v : Int, 0 ≤ v → v < N → 0 ≤ τ 22 v ∧ τ 22 v ≤ 1000000000) → K τ) : q_W_search goal stop K σ := by
  have hly := hB.1
  have hE : ∀ v u w, cEd L bw wt lf ly v u w → 1 ≤ w := fun v u w e => (cEd_b hL hB e).2.2.1
  have hEV : ∀ v u w, cEd L bw wt lf ly v u w → 0 ≤ u ∧ u < N := fun v u w e => by have := (cEd_b hL hB e).2.1; omega
  unfold q_W_search
  rw [hG.2.2.1]
  refine ⟨zRi (by omega) (by omega), t_H_clear (by omega) (fun s3 q3 k3 hP3 hn3 => ?_)⟩
  have hG3 := GS_Q hG q3 (by decide)
  refine t_W_offerStepsTo hG3 hB hL ig (Or.inl rfl) (by decide) (by decide) (fun g s => zQ [21, 22, 23, 24] s3 s ∧ DI (cBs L wt lf ly goal) (fun _ _ => False) (cEd L bw wt lf ly) N 0 (fun _ => False) s ∧ (∀ v : Int, 0 ≤ v → v < N → s 22 v < 1000000000 → HIn s v) ∧ ∀ g' v x, 0 ≤ g' → g' < g → Off L bw wt lf ly goal (-1) 0 0 g' v x → s 22 v ≤ x) (fun g s hs => hs.1) ?_ (fun g s hs g0 g1 hno => ?_) (fun g s v x hs g0 g1 ho hv => ?_) (fun s4 hs => ?_)
  · refine ⟨zQ_r _ _, ⟨hP3, fun v v0 v1 => ?_, fun v hv => absurd hv (hn3 v), fun v hv => hv.elim, fun v b hb => hb.elim, fun v u w _ hb => hb.elim, fun v v0 v1 hf => ?_, fun v v0 v1 hf => ?_⟩, fun v v0 v1 hf => ?_, fun g' v x g0 g1 => by omega⟩
    · rw [k3 v v0 (by omega)]
      exact ⟨by omega, by omega, fun q => absurd q (by omega)⟩
    all_goals
      rw [k3 v v0 (by omega)] at hf
      exact absurd hf (by omega)
  · refine ⟨hs.1, hs.2.1, hs.2.2.1, fun g' v x a b o => ?_⟩
    by_cases e : g' = g
    · rw [e] at o
      exact absurd o (hno v x)
    · exact hs.2.2.2 g' v x a (by omega) o
  · obtain ⟨hq, hD, hall, hc⟩ := hs
    have hb := off_base hL ig g0 g1 ho
    have hbb := cBs_b hL hB hb
    refine DI_offer (by omega) hD hv.1 (by omega) (by omega) (by omega) (by omega) (Or.inl hb) (fun τ hτ hDτ hle hmn => ⟨zQ_t hq hτ, hDτ, fun y y0 y1 yf => ?_, fun g' v' x' a b o => ?_⟩)
    · obtain ⟨-, h1, -, -, -, -, h6, h7⟩ := hDτ
      by_cases hi : HIn τ y
      · exact hi
      · exfalso
        have p1 := h7 y y0 y1 yf hi
        have p2 : 1 ≤ τ 22 y := by
          rcases h6 y y0 y1 yf with q | ⟨u, w, r1, r2, r3, r4, r5⟩
          · exact (cBs_b hL hB q).2.1
          · have := hE _ _ _ r2
            have := (h1 u r1.1 r1.2).1
            omega
        omega
    · by_cases e : g' = g
      · subst e
        obtain ⟨-, -, -, -, o5, o6⟩ := o
        obtain ⟨-, -, -, -, p5, p6⟩ := ho
        rw [o5, ← p5, o6, ← p6]
        exact hle
      · have ob := cBs_b hL hB (off_base hL ig a (by omega) o)
        have := hc g' v' x' a (by omega) o
        have := (hmn v' ob.1.1 (by omega)).1
        omega
  · obtain ⟨q4, hD4, hall, hc4⟩ := hs
    have hD4' : DI (cBs L wt lf ly goal) (cBs L wt lf ly goal) (cEd L bw wt lf ly) N 0 (fun _ => False) s4 := by
      obtain ⟨a1, a2, a3, a4, a5, a6, a7, a8⟩ := hD4
      refine ⟨a1, a2, a3, a4, fun v b hb => ?_, a6, a7, a8⟩
      obtain ⟨g, g0, g1, o⟩ := base_off hL ig hb
      exact hc4 g v b g0 g1 o
    have done : ∀ (s : zS) (κ : Int) (Cl : Int → Prop), zQ [21, 22, 23, 24] σ s → DI (cBs L wt lf ly goal) (cBs L wt lf ly goal) (cEd L bw wt lf ly) N κ Cl s → (∀ v : Int, 0 ≤ v → v < N → s 22 v < 1000000000 → ¬ HIn s v → Cl v) → (∀ v, ¬ HIn s v) → K s := by
      intro s κ Cl hq hD hcl hn
      have hl := DI_all hEV hD hn hcl
      refine h s hq (fun D hD' => ⟨fun v v0 v1 => ?_, Or.inl (fun v v0 v1 => ?_)⟩) (fun _ => hl) (fun v v0 v1 => ⟨(hD.2.1 v v0 v1).1, (hD.2.1 v v0 v1).2.1⟩)
      · rw [lab_eq hE hl hD' v ⟨v0, v1⟩]
        exact Int.le_refl _
      · exact lab_eq hE hl hD' v ⟨v0, v1⟩
    refine ⟨fun k s => zQ [21, 22, 23, 24] σ s ∧ 0 ≤ k ∧ k ≤ 2592 ∧ ∃ κ Cl, DI (cBs L wt lf ly goal) (cBs L wt lf ly goal) (cEd L bw wt lf ly) N κ Cl s ∧ (∀ v : Int, 0 ≤ v → v < N → s 22 v < 1000000000 → ¬ HIn s v → Cl v) ∧ k ≤ (cnt (fun i => @decide (Cl (i : Nat)) (Classical.propDecidable _)) N : Nat) ∧ 0 ≤ κ, fun k _ => (2592 - k).toNat, ⟨zQ_t (zQ_m q3 (by decide)) q4, by decide, by decide, 0, fun _ => False, hD4', fun v v0 v1 vf vn => absurd (hall v v0 v1 vf) vn, by omega, by decide⟩, ?_⟩
    rintro k s ⟨hq, k0, k1, κ, Cl, hD, hcl, hcnt, hκ⟩ -
    obtain ⟨hP, h1, h2, h3, h4, h5, h6, h7⟩ := id hD
    have hfull : ∀ v, HIn s v → k + 1 ≤ N := by
      intro v hv
      have a := h2 v hv
      have e : ((v.toNat : Nat) : Int) = v := Int.toNat_of_nonneg a.1
      have := cnt_full (P := fun i => @decide (Cl (i : Nat)) (Classical.propDecidable _)) (j := v.toNat) (n := N) (by omega) (@decide_eq_false _ (Classical.propDecidable _) (by
        rw [e]
        exact fun q => (h3 v q).2.2.2 hv))
      omega
    refine ⟨fun c => done s κ Cl hq hD hcl (fun v hv => by have := hfull v hv; omega), fun c => ?_⟩
    unfold q_H_isEmpty
    refine ⟨fun ne => n0b ?_, fun e => n1b (done s κ Cl hq hD hcl (fun v hv => ?_))⟩
    · refine t_H_poll hP ne (fun u τ u0 u1 hu hmin hqτ hPτ hmem => ?_)
      have au := h2 u hu
      have e22 : τ 22 = s 22 := hqτ 22 (by decide)
      have iq : inP L (u % 648 / 8) := by
        rcases h6 u au.1 au.2.1 au.2.2.1 with q | ⟨_, _, _, q, _⟩
        · exact plc_B hL q
        · exact plc_E hL q
      have hun : ¬ HIn τ u := fun q => ((hmem u).mp q).2 rfl
      have hncl : ¬ Cl u := fun q => (h3 u q).2.2.2 hu
      have hDτ : DI (cBs L wt lf ly goal) (cBs L wt lf ly goal) (cEd L bw wt lf ly) N (s 22 u) Cl τ := by
        unfold DI
        rw [e22]
        refine ⟨hPτ, h1, fun v hv => ?_, fun v hv => ?_, h4, h5, fun v v0 v1 vf => ?_, fun v v0 v1 vf vn => ?_⟩
        · have a := (hmem v).mp hv
          have b := h2 v a.1
          exact ⟨b.1, b.2.1, b.2.2.1, hmin v a.1⟩
        · have a := h3 v hv
          exact ⟨a.1, a.2.1, a.2.2.1, fun q => a.2.2.2 ((hmem v).mp q).1⟩
        · rcases h6 v v0 v1 vf with q | ⟨x, w, r1, r2, r3, r4, r5⟩
          · exact Or.inl q
          · exact Or.inr ⟨x, w, r1, r2, r3, fun q => r4 ((hmem x).mp q).1, r5⟩
        · by_cases e : v = u
          · rw [e]; exact Int.le_refl _
          · have := h7 v v0 v1 vf (fun q => vn ((hmem v).mpr ⟨q, e⟩))
            omega
      have hclτ : ∀ v : Int, 0 ≤ v → v < N → τ 22 v < 1000000000 → ¬ HIn τ v → v ≠ u → Cl v := fun v v0 v1 vf vn ne => hcl v v0 v1 (by rw [← e22]; exact vf) (fun q => vn ((hmem v).mpr ⟨q, ne⟩))
      rw [Int.tmod_eq_emod_of_nonneg u0, Int.tdiv_eq_ediv_of_nonneg (show 0 ≤ u % 648 by omega), Int.tdiv_eq_ediv_of_nonneg u0, zAnd_7]
      refine ⟨zRi (by omega) (by omega), fun x14 e14 => ⟨zRi (by omega) (by omega), fun d => ?_, fun d => h τ (zQ_t hq (zQ_m hqτ (by decide))) (fun D hD' => DI_stop hE hEV hDτ au.1 au.2.1 (by rw [e22]; exact au.2.2.1) (by rw [e22]) hclτ (by omega) hD') (fun e => ?_) (fun v v0 v1 => ⟨(hDτ.2.1 v v0 v1).1, (hDτ.2.1 v v0 v1).2.1⟩)⟩⟩
      · subst e14
        unfold q_H_key
        refine ⟨by omega, zRi (by omega) (by omega), ?_⟩
        rw [e22]
        have qτ : zQ [21, 22, 23, 24] σ τ := zQ_t hq (zQ_m hqτ (by decide))
        have hGτ := GS_Q hG qτ (by decide)
        refine t_W_offerStepsTo hGτ hB hL iq (Or.inr (by omega)) (by omega) ⟨(h1 u au.1 au.2.1).1, au.2.2.1⟩ (fun g t => zQ [21, 22, 23, 24] τ t ∧ DI (cBs L wt lf ly goal) (cBs L wt lf ly goal) (cEd L bw wt lf ly) N (s 22 u) Cl t ∧ (∀ y : Int, 0 ≤ y → y < N → τ 22 y < 1000000000 → ¬ HIn τ y → t 22 y = τ 22 y ∧ ¬ HIn t y) ∧ (∀ y : Int, 0 ≤ y → y < N → t 22 y < 1000000000 → ¬ HIn t y → y ≠ u → Cl y) ∧ ∀ g' v x, 0 ≤ g' → g' < g → Off L bw wt lf ly (u % 648 / 8) (u % 8) (u / 648) (s 22 u) g' v x → t 22 v ≤ x) (fun g t ht => ht.1) ⟨zQ_r _ _, hDτ, fun y y0 y1 yf yn => ⟨rfl, yn⟩, hclτ, fun g' v x a b => by omega⟩ (fun g t ht g0 g1 hno => ?_) (fun g t v x ht g0 g1 ho hv => ?_) (fun t ht => ?_)
        · refine ⟨ht.1, ht.2.1, ht.2.2.1, ht.2.2.2.1, fun g' v x a b o => ?_⟩
          by_cases e : g' = g
          · rw [e] at o
            exact absurd o (hno v x)
          · exact ht.2.2.2.2 g' v x a (by omega) o
        · obtain ⟨t1, t2, t3, t4, t5⟩ := ht
          obtain ⟨w, hw, hx⟩ := off_edge hL au.1 iq g0 g1 ho
          have hwb := cEd_b hL hB hw
          have ut := t3 u au.1 au.2.1 (by rw [e22]; exact au.2.2.1) hun
          rw [e22] at ut
          have ub := (t2.2.1 u au.1 au.2.1).2.2 (by rw [ut.1]; exact au.2.2.1)
          rw [ut.1] at ub
          have u0' := (h1 u au.1 au.2.1).1
          refine DI_offer (by omega) t2 hv.1 (by omega) (by omega) (by omega) (by omega) (Or.inr ⟨u, w, ⟨au.1, au.2.1⟩, hw, by rw [ut.1]; exact au.2.2.1, ut.2, by rw [ut.1]; exact hx⟩) (fun t' ht' hDt' hle hmn => ⟨zQ_t t1 ht', hDt', fun y y0 y1 yf yn => ?_, fun y y0 y1 yf yn ne => ?_, fun g' v' x' a b o => ?_⟩)
          · have b := t3 y y0 y1 yf yn
            have b2 := (hmn y y0 y1).2.1 (by rw [b.1]; exact yf) b.2
            exact ⟨b2.1.trans b.1, b2.2⟩
          · have f := (hmn y y0 y1).2.2 yf yn
            exact t4 y y0 y1 f.1 f.2 ne
          · by_cases e : g' = g
            · subst e
              obtain ⟨-, -, -, -, o5, o6⟩ := o
              obtain ⟨-, -, -, -, p5, p6⟩ := ho
              rw [o5, ← p5, o6, ← p6]
              exact hle
            · obtain ⟨w', hw', -⟩ := off_edge hL au.1 iq a (by omega) o
              have ob := cEd_b hL hB hw'
              have := t5 g' v' x' a (by omega) o
              have := (hmn v' ob.1.1 (by omega)).1
              omega
        · obtain ⟨t1, t2, t3, t4, t5⟩ := ht
          have ut := t3 u au.1 au.2.1 (by rw [e22]; exact au.2.2.1) hun
          rw [e22] at ut
          refine ⟨⟨zQ_t qτ t1, by omega, by omega, s 22 u, fun v => Cl v ∨ v = u, ?_, fun y y0 y1 yf yn => ?_, ?_, (h1 u au.1 au.2.1).1⟩, zRi (by omega) (by omega), by dsimp only; omega⟩
          · obtain ⟨d0, d1, d2, d3, d4, d5, d6, d7⟩ := t2
            refine ⟨d0, d1, d2, fun y hy => ?_, d4, fun v x w he hx => ?_, d6, d7⟩
            · rcases hy with hy | hy
              · exact d3 y hy
              · rw [hy, ut.1]
                exact ⟨au.1, au.2.1, au.2.2.1, ut.2⟩
            · rcases hx with hx | hx
              · exact d5 v x w he hx
              · subst hx
                obtain ⟨g, g0, g1, o⟩ := edge_off (s 22 x) hL he
                rw [ut.1]
                exact t5 g v _ g0 g1 o
          · by_cases e : y = u
            · exact Or.inr e
            · exact Or.inl (t4 y y0 y1 yf yn e)
          · have e : ((u.toNat : Nat) : Int) = u := Int.toNat_of_nonneg u0
            have := cnt_lt (P := fun i => @decide (Cl (i : Nat)) (Classical.propDecidable _)) (Q := fun i => @decide (Cl (i : Nat) ∨ (i : Nat) = u) (Classical.propDecidable _)) (j := u.toNat) N (by omega) (fun i _ hi => by
              have := @of_decide_eq_true _ (Classical.propDecidable _) hi
              exact @decide_eq_true _ (Classical.propDecidable _) (Or.inl this)) (@decide_eq_false _ (Classical.propDecidable _) (by rw [e]; exact hncl)) (@decide_eq_true _ (Classical.propDecidable _) (Or.inr e))
            dsimp only
            omega
      · omega
    · obtain ⟨i, i0, i1, -⟩ := hv
      omega

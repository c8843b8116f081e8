/-! ===== there and back: the cost is the same ===== -/
section TD
variable {L : Int → Int} {A B a b : Int}
theorem fLab_ex (hL : GW L) (ia : inP L a) : ∃ F, Lab 1000000000 (fun v : Int => 0 ≤ v ∧ v < (648 : Nat)) (fBs L A B a) (fEd L A B) F := by
  refine lab_ex (M := 1004) (fun v c h => ?_) (fun v c c' h h' => ?_) (fun v u w h => ?_) (by decide)
  · obtain ⟨g, hg, st, e1, e2⟩ := h
    have h2 := (bs_in st.1.1).b hL
    have h3 := cst_b hL ia st.1.1
    omega
  · obtain ⟨g, hg, st, e1, e2⟩ := h
    obtain ⟨g', hg', st', e1', e2'⟩ := h'
    have : g = g' := by omega
    rw [e2, e2', this]
  · have := fEd_b hL h
    omega
theorem co_dual {F G : Int → Int} {m n : Int} (hL : GW L) (ia : inP L a) (ib : inP L b) (hF : Lab 1000000000 (fun v : Int => 0 ≤ v ∧ v < (648 : Nat)) (fBs L A B a) (fEd L A B) F) (hG : Lab 1000000000 (fun v : Int => 0 ≤ v ∧ v < (648 : Nat)) (fBs L A B b) (fEd L A B) G) (hm : CaP F b m) (hn : CaP G a n) : m ≤ n := by
  have bdF := lab_bd (M := 1004) (by decide) (fun v u w h => (fEd_b hL h).2.2) (fun v c h => by
    obtain ⟨g, hg, st, e1, e2⟩ := h
    have h3 := cst_b hL ia st.1.1
    omega) hF
  have key : ∀ N : Nat, ∀ p h h', inP L p → (0 ≤ h ∧ h < 8) → (0 ≤ h' ∧ h' < 8) → F (8 * p + h) < 1000000000 → G (8 * p + h') < 1000000000 → Bnd L p h (opp h') → (G (8 * p + h')).toNat < N → m ≤ F (8 * p + h) + bcs L h (opp h') + G (8 * p + h') := by
    intro N
    induction N with
    | zero => intro p h h' _ _ _ _ _ _ z; exact absurd z (Nat.not_lt_zero _)
    | succ N ih =>
      intro p h h' ip hh hh' fF fG bd hN
      have ipb := ip.b hL
      rcases hG.2.1 (8 * p + h') ⟨by omega, by omega⟩ fG with ⟨g, hg, st, e1, e2⟩ | ⟨u, w, hu, ⟨p', k, g, ip', hk, hg, st, bd', e1, e2, e3⟩, fu, hle⟩
      · have ibb := (bs_in st.1.1).b hL
        have ep : p = bs L b g := by omega
        have eg : h' = g := by omega
        subst eg
        have so := Sty_opp hL ib hg.1 hg.2 st
        have bo := bs_opp hL ib hg.1 hg.2 st.1.1
        have co := cst_opp hL ib hg.1 hg.2 st.1.1
        rw [← ep] at so bo co
        have cl := hF.1.2 (8 * b + opp h') (8 * p + h) (cst L p (opp h') + bcs L h (opp h')) ⟨p, h, opp h', ip, hh, opp_r, so, bd, rfl, by rw [bo], rfl⟩ fF
        have ml := hm.2.2.1 (opp h') opp_r.1 opp_r.2
        omega
      · have ibb := (bs_in st.1.1).b hL
        have ep : p = bs L p' g := by omega
        have eg : h' = g := by omega
        subst eg
        subst e1
        have so := Sty_opp hL ip' hg.1 hg.2 st
        have bo := bs_opp hL ip' hg.1 hg.2 st.1.1
        have co := cst_opp hL ip' hg.1 hg.2 st.1.1
        rw [← ep] at so bo co
        have cl := hF.1.2 (8 * p' + opp h') (8 * p + h) (cst L p (opp h') + bcs L h (opp h')) ⟨p, h, opp h', ip, hh, opp_r, so, bd, rfl, by rw [bo], rfl⟩ fF
        have b1 := bdF (8 * p + h) (by omega) (by omega) fF
        have c1 := cst_b hL ip' st.1.1
        have c2 := bcs_b hL hh.1 hh.2 (opp_r (g := h')).1 (opp_r (g := h')).2
        have c3 := bcs_b hL hk.1 hk.2 hg.1 hg.2
        have nn := hG.2.2 (8 * p' + k) hu
        have bdo : Bnd L p' (opp h') (opp k) := (Bnd_opp hg.1 hg.2 hk.1 hk.2).mpr ((Bnd_sym L p' k h').mp bd')
        have r := ih p' (opp h') k ip' opp_r hk (by omega) fu bdo (by omega)
        rw [bcs_opp hg.1 hg.2 hk.1 hk.2, bcs_sym] at r
        omega
  rcases hn.2.2.2 with z | ⟨h', hh', z⟩
  · have := hm.2.1
    omega
  · by_cases c : n < 1000000000
    · have iab := ia.b hL
      rcases hG.2.1 (8 * a + h') ⟨by omega, by omega⟩ (by omega) with ⟨g, hg, st, e1, e2⟩ | ⟨u, w, hu, ⟨p', k, g, ip', hk, hg, st, bd', e1, e2, e3⟩, fu, hle⟩
      · have ibb := (bs_in st.1.1).b hL
        have ep : a = bs L b g := by omega
        have eg : h' = g := by omega
        subst eg
        have so := Sty_opp hL ib hg.1 hg.2 st
        have bo := bs_opp hL ib hg.1 hg.2 st.1.1
        have co := cst_opp hL ib hg.1 hg.2 st.1.1
        rw [← ep] at so bo co
        have cl := hF.1.1 (8 * b + opp h') (cst L a (opp h')) ⟨opp h', opp_r, so, by rw [bo], rfl⟩
        have ml := hm.2.2.1 (opp h') opp_r.1 opp_r.2
        omega
      · have ibb := (bs_in st.1.1).b hL
        have ep : a = bs L p' g := by omega
        have eg : h' = g := by omega
        subst eg
        subst e1
        have so := Sty_opp hL ip' hg.1 hg.2 st
        have bo := bs_opp hL ip' hg.1 hg.2 st.1.1
        have co := cst_opp hL ip' hg.1 hg.2 st.1.1
        rw [← ep] at so bo co
        have cl := hF.1.1 (8 * p' + opp h') (cst L a (opp h')) ⟨opp h', opp_r, so, by rw [bo], rfl⟩
        have c1 := cst_b hL ip' st.1.1
        have bdo : Bnd L p' (opp h') (opp k) := (Bnd_opp hg.1 hg.2 hk.1 hk.2).mpr ((Bnd_sym L p' k h').mp bd')
        have r := key _ p' (opp h') k ip' opp_r hk (by omega) fu bdo (Nat.lt_succ_self _)
        rw [bcs_opp hg.1 hg.2 hk.1 hk.2, bcs_sym] at r
        omega
    · have := hm.2.1
      omega
theorem CoF_sym (hL : GW L) (ia : inP L a) (ib : inP L b) : CoF L A B a b = CoF L A B b a := by
  obtain ⟨F, hF⟩ := fLab_ex (A := A) (B := B) hL ia
  obtain ⟨G, hG⟩ := fLab_ex (A := A) (B := B) hL ib
  have iab := ia.b hL
  have ibb := ib.b hL
  obtain ⟨m, hm⟩ := ca_ex (d := F) (p := b) (fun h h0 h1 => hF.2.2 (8 * b + h) ⟨by omega, by omega⟩)
  obtain ⟨n, hn⟩ := ca_ex (d := G) (p := a) (fun h h0 h1 => hG.2.2 (8 * a + h) ⟨by omega, by omega⟩)
  rw [CoF_eq hL ib ⟨F, hF, hm⟩, CoF_eq hL ia ⟨G, hG, hn⟩]
  have := co_dual hL ia ib hF hG hm hn
  have := co_dual hL ib ia hG hF hn hm
  omega
theorem Lk_Sr {D d : Int → Int} {p m : Int} (hp : 0 ≤ p ∧ p < 81) (hS : SrP 648 p D d) (hm : LkP d 1 p m) : LkP D 1 p m := by
  obtain ⟨m0, m1, hm1, hm2⟩ := hm
  obtain ⟨hlo, hs⟩ := hS
  rcases hs with q | ⟨x, hx, hxs, hxf, hxe⟩
  · refine ⟨m0, m1, fun l g l0 l1 g0 g1 => ?_, ?_⟩
    · have := hm1 l g l0 l1 g0 g1
      rw [q _ (by omega) (by omega)] at this
      exact this
    · rcases hm2 with z | ⟨l, g, hl, hg, e⟩
      · exact Or.inl z
      · exact Or.inr ⟨l, g, hl, hg, by rw [e]; exact q _ (by omega) (by omega)⟩
  · have hx1 := hm1 0 (x % 8) (by decide) (by decide) (by omega) (by omega)
    rw [show 0 * 648 + (8 * p + x % 8) = x by omega, hxe x hx.1 hx.2 (Int.le_refl _)] at hx1
    refine ⟨m0, m1, fun l g l0 l1 g0 g1 => ?_, ?_⟩
    · have := hm1 l g l0 l1 g0 g1
      by_cases c : D (l * 648 + (8 * p + g)) ≤ D x
      · rw [hxe _ (by omega) (by omega) c] at this
        exact this
      · omega
    · rcases hm2 with z | ⟨l, g, hl, hg, e⟩
      · exact Or.inl z
      · have lo := hlo (l * 648 + (8 * p + g)) (by omega) (by omega)
        exact Or.inr ⟨l, g, hl, hg, by rw [e]; exact hxe _ (by omega) (by omega) (by omega)⟩
theorem WtS_bar {C wt lf : Int → Int} {kind g : Int} (hL : GW L) (ia : inP L a) (hg : 0 ≤ g ∧ g < 8) (e : bs L a g = b) (hb : b ≠ -1) (hw : WtS L C (-1) (-1) kind wt lf) : WtS L C a b kind (up (up wt (8 * a + g) (-1)) (8 * b + opp g) (-1)) lf := by
  have e' : bs L b (opp g) = a := by
    rw [← e]
    exact bs_opp hL ia hg.1 hg.2 (by rw [e]; exact hb)
  intro p k ip k0 k1
  have w := hw p k ip k0 k1
  have og := opp_r (g := g)
  have iff1 : Sty L a b p k ↔ Sty L (-1) (-1) p k ∧ ¬ (p = a ∧ k = g) ∧ ¬ (p = b ∧ k = opp g) := by
    constructor
    · rintro ⟨⟨o1, o2, o3, o4, o5, o6⟩, s⟩
      refine ⟨⟨⟨o1, o2, o3, fun z => ip.ne z.1, fun z => ip.ne z.1, o6⟩, s⟩, fun z => o4 ⟨z.1, ?_⟩, fun z => o5 ⟨z.1, ?_⟩⟩
      · rw [z.1, z.2]; exact e
      · rw [z.1, z.2]; exact e'
    · rintro ⟨⟨⟨o1, o2, o3, o4, o5, o6⟩, s⟩, n1, n2⟩
      refine ⟨⟨o1, o2, o3, fun z => n1 ⟨z.1, ?_⟩, fun z => n2 ⟨z.1, ?_⟩, o6⟩, s⟩
      · refine bs_inj (L := L) (p := p) k0 k1 hg.1 hg.2 ?_ o1
        rw [z.2, z.1, e]
      · refine bs_inj (L := L) (p := p) k0 k1 og.1 og.2 ?_ o1
        rw [z.2, z.1, e']
  by_cases c1 : p = a ∧ k = g
  · refine ⟨fun s => absurd c1 (iff1.mp s).2.1, fun _ => ?_⟩
    by_cases c2 : 8 * p + k = 8 * b + opp g
    · rw [c2, up_s]
    · rw [up_o c2, c1.1, c1.2, up_s]
  · by_cases c2 : p = b ∧ k = opp g
    · refine ⟨fun s => absurd c2 (iff1.mp s).2.2, fun _ => ?_⟩
      rw [c2.1, c2.2, up_s]
    · rw [up_o (fun z => c2 (by omega)), up_o (fun z => c1 (by omega))]
      exact ⟨fun s => w.1 (iff1.mp s).1, fun s => w.2 (fun z => s (iff1.mpr ⟨z, c1, c2⟩))⟩
end TD
theorem t_N_costWithout {K : Int → zS → Prop} {σ : zS} {L : Int → Int} {k from_ to_ g : Int} (hL : GW L) (hG : GS L (bwk L 0) (σ 16) (σ 17) 1 σ) (hw : WtS L (catL L) (-1) (-1) 0 (σ 16) (σ 17)) (hk : 0 ≤ k ∧ k < 648) (ifr : inP L from_) (ito : inP L to_) (ia : inP L (σ 25 k)) (hg : 0 ≤ g ∧ g < 8) (e : bs L (σ 25 k) g = σ 25 (k + 1)) (ib : inP L (σ 25 (k + 1))) (h : ∀ τ, zQ [16, 21, 22, 23, 24] σ τ → τ 16 = σ 16 → (0 ≤ CoF L (σ 25 k) (σ 25 (k + 1)) from_ to_ ∧ (CoF L (σ 25 k) (σ 25 (k + 1)) from_ to_ = 1000000000 ∨ CoF L (σ 25 k) (σ 25 (k + 1)) from_ to_ ≤ 976562)) → K (if CoF L (σ 25 k) (σ 25 (k + 1)) from_ to_ = 1000000000 then -1 else CoF L (σ 25 k) (σ 25 (k + 1)) from_ to_) τ) : q_N_costWithout k from_ to_ K σ := by
  unfold q_N_costWithout q_W_path
  have iab := ia.b hL
  have ibb := ib.b hL
  refine ⟨by omega, fun x4 e4 => ⟨by omega, fun x8 e8 => ?_⟩⟩
  rw [e4, e8]
  clear e4 e8
  have hw' := WtS_bar hL ia hg e ib.ne hw
  have hB' := WtS_WB hL (catL_CB hL) hw'
  generalize ea : σ 25 k = a at *
  generalize eb : σ 25 (k + 1) = b at *
  have og := opp_r (g := g)
  have nxy : 8 * b + opp g ≠ 8 * a + g := fun z => by
    have : opp g = g := by omega
    unfold opp at this
    omega
  refine t_L_headingTo hG.1 hL ia hg e ib.ne ?_
  unfold q_W_takeWeight
  intro x1 e1
  refine ⟨by omega, fun x12 e12 s5 e5 => t_R_opposite (fun x2 e2 => ⟨by omega, fun x16 e16 s6 e6 => ?_⟩)⟩
  have ex1 : x1 = 8 * a + g := by omega
  have ex2 : x2 = 8 * b + opp g := by omega
  have s16 : s6 16 = up (up (σ 16) (8 * a + g) (-1)) (8 * b + opp g) (-1) := by
    rw [e6, zU_up, e5, zU_up, ex1, ex2]
  have v16 : x16 = σ 16 (8 * b + opp g) := by
    rw [e16, e5, zU_up, ex1, ex2, up_o nxy]
  have q6 : zQ [16, 21, 22, 23, 24] σ s6 := by rw [e6, e5]; exact zQ_t (zQ_U (by decide)) (zQ_U (by decide))
  have hG6 : GS L (bwk L 0) (up (up (σ 16) (8 * a + g) (-1)) (8 * b + opp g) (-1)) (σ 17) 1 s6 := by
    obtain ⟨a1, a2, a3, a4, a5, a6, a7⟩ := hG
    refine ⟨CC_Q a1 q6 (by decide), ?_, ?_, ?_, ?_, s16, ?_⟩
    · rw [q6 15 (by decide)]; exact a2
    · rw [q6 15 (by decide)]; exact a3
    · rw [q6 19 (by decide)]; exact a4
    · rw [q6 18 (by decide)]; exact a5
    · rw [q6 17 (by decide)]
  refine t_W_search (N := 648) rfl hG6 hB'.1 hL ito (fun τ q hS _ hb => ?_)
  unfold q_W_giveWeight
  refine ⟨by omega, fun s7 e7 => t_R_opposite ⟨by omega, fun s8 e8 => ?_⟩⟩
  have q8 : zQ [16, 21, 22, 23, 24] τ s8 := by rw [e8, e7]; exact zQ_t (zQ_U (by decide)) (zQ_U (by decide))
  have s22 : s8 22 = τ 22 := by rw [e8, zU_row (by decide), e7, zU_row (by decide)]
  have t16 : s8 16 = σ 16 := by
    rw [e8, zU_up, e7, zU_up, q 16 (by decide), s16, e12, v16, ex1, show a * 8 + g = 8 * a + g by omega, show b * 8 + opp g = 8 * b + opp g by omega]
    funext i
    unfold up
    by_cases c1 : i = 8 * b + opp g
    · rw [if_pos c1, c1]
    · rw [if_neg c1]
      by_cases c2 : i = 8 * a + g
      · rw [if_pos c2, c2]
      · rw [if_neg c2, if_neg c1, if_neg c2]
  refine t_W_left (ly := 1) ?_ (by decide) (ifr.b hL) (fun v v0 v1 => by rw [s22]; exact hb v v0 (by omega)) (fun m hm => ?_)
  · rw [q8 15 (by decide), q 15 (by decide), q6 15 (by decide)]; exact hG.2.2.1
  · obtain ⟨D, hD⟩ := cLab_ex (N := 648) (goal := to_) (ly := 1) rfl hL hB'.1
    rw [s22] at hm
    have hm2 := Lk_Sr (ifr.b hL) (hS D hD) hm
    have hF := FdL_lab hL (catL_CB hL) ito hw' hD
    have ifb := ifr.b hL
    obtain ⟨mr, hr⟩ := ca_ex (d := FdL L D) (p := from_) (fun h h0 h1 => hF.2.2 (8 * from_ + h) ⟨by omega, by omega⟩)
    have cv := cost_match hL (catL_CB hL) ito ifr hw' hD hF hm2 hr
    have co : CoF L a b from_ to_ = if m = 1000000000 then 1000000000 else m / 1024 := by
      rw [CoF_sym hL ifr ito, CoF_eq hL ifr ⟨_, hF, hr⟩]
      exact cv
    have fin := h s8 (zQ_t q6 (zQ_t (zQ_m q (by decide)) q8)) t16
    have := hm.1
    have := hm.2.1
    rw [co] at fin
    by_cases z : m = 1000000000
    · rw [if_pos z] at fin ⊢
      exact fin (by omega)
    · rw [if_neg z] at fin ⊢
      rw [if_neg (by omega)] at fin
      exact fin (by omega)

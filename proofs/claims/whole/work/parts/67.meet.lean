/-! ===== the cost of a way, as one number; meet ===== -/
def IsC (L : Int → Int) (A B goal p c : Int) : Prop := ∃ e, Lab 1000000000 (fun v : Int => 0 ≤ v ∧ v < 648) (fBs L A B goal) (fEd L A B) e ∧ CaP e p c
noncomputable def CoF (L : Int → Int) (A B goal p : Int) : Int := Classical.epsilon (fun c => IsC L A B goal p c)
theorem CaP_uniq {d : Int → Int} {p a b : Int} (ha : CaP d p a) (hb : CaP d p b) : a = b := by
  obtain ⟨a0, a1, a2, a3⟩ := ha
  obtain ⟨b0, b1, b2, b3⟩ := hb
  rcases a3 with x | ⟨h, hh, x⟩
  · rcases b3 with y | ⟨h', hh', y⟩
    · omega
    · have := a2 h' hh'.1 hh'.2
      omega
  · have u := b2 h hh.1 hh.2
    rcases b3 with y | ⟨h', hh', y⟩
    · omega
    · have := a2 h' hh'.1 hh'.2
      omega
theorem IsC_uniq {L : Int → Int} {A B goal p a b : Int} (hL : GW L) (ip : inP L p) (ha : IsC L A B goal p a) (hb : IsC L A B goal p b) : a = b := by
  obtain ⟨e, he, ca⟩ := ha
  obtain ⟨f, hf, cb⟩ := hb
  have ipb := ip.b hL
  have eq : ∀ h, 0 ≤ h → h < 8 → e (8 * p + h) = f (8 * p + h) := fun h h0 h1 => lab_eq (fun v u w q => (fEd_b hL q).2.2.1) he hf _ ⟨by omega, by omega⟩
  have cb' : CaP e p b := by
    obtain ⟨b0, b1, b2, b3⟩ := cb
    refine ⟨b0, b1, fun h h0 h1 => by rw [eq h h0 h1]; exact b2 h h0 h1, ?_⟩
    rcases b3 with x | ⟨h, hh, x⟩
    · exact Or.inl x
    · exact Or.inr ⟨h, hh, by rw [eq h hh.1 hh.2]; exact x⟩
  exact CaP_uniq ca cb'
theorem CoF_eq {L : Int → Int} {A B goal p c : Int} (hL : GW L) (ip : inP L p) (h : IsC L A B goal p c) : CoF L A B goal p = c := IsC_uniq hL ip (Classical.epsilon_spec (p := fun c => IsC L A B goal p c) ⟨c, h⟩) h
theorem ca_ex {d : Int → Int} {p : Int} (hb : ∀ h, 0 ≤ h → h < 8 → 0 ≤ d (8 * p + h) ∧ d (8 * p + h) ≤ 1000000000) : ∃ m, CaP d p m := by
  have key : ∀ n : Nat, n ≤ 8 → ∃ m, 0 ≤ m ∧ m ≤ 1000000000 ∧ (∀ h : Int, 0 ≤ h → h < n → m ≤ d (8 * p + h)) ∧ (m = 1000000000 ∨ ∃ h, (0 ≤ h ∧ h < 8) ∧ m = d (8 * p + h)) := by
    intro n
    induction n with
    | zero => intro _; exact ⟨1000000000, by decide, by decide, fun h a b => by omega, Or.inl rfl⟩
    | succ n ih =>
      intro hn
      obtain ⟨m, m0, m1, m2, m3⟩ := ih (by omega)
      have b := hb n (by omega) (by omega)
      by_cases q : m ≤ d (8 * p + n)
      · refine ⟨m, m0, m1, fun h h0 h1 => ?_, m3⟩
        by_cases e : h = n
        · rw [e]; exact q
        · exact m2 h h0 (by omega)
      · refine ⟨d (8 * p + n), b.1, b.2, fun h h0 h1 => ?_, Or.inr ⟨n, by omega, rfl⟩⟩
        by_cases e : h = n
        · rw [e]; exact Int.le_refl _
        · have := m2 h h0 (by omega)
          omega
  exact key 8 (Nat.le_refl 8)
theorem SaP_co {L : Int → Int} {σ : zS} {goal p m : Int} (hL : GW L) (ig : inP L goal) (ip : inP L p) (hS : SaP L goal σ) (hm : LkP (σ 22) 1 p m) : CoF L (-1) (-1) goal p = (if m = 1000000000 then 1000000000 else m / 1024) := by
  obtain ⟨-, -, wt, lf, hw, hD⟩ := hS
  have hF := FdL_lab hL (catL_CB hL) ig hw hD
  have ipb := ip.b hL
  obtain ⟨mr, hr⟩ := ca_ex (d := FdL L (σ 22)) (p := p) (fun h h0 h1 => hF.2.2 (8 * p + h) ⟨by omega, by omega⟩)
  rw [CoF_eq hL ip ⟨_, hF, hr⟩]
  exact cost_match hL (catL_CB hL) ig ip hw hD hF hm hr
/-- the class's cost of a place -/
theorem t_W_costOf {K : Int → zS → Prop} {σ : zS} {L : Int → Int} {goal p : Int} (hL : GW L) (ig : inP L goal) (ip : inP L p) (hS : SaP L goal σ) (h : ∀ c, c = (if p = goal then 0 else if CoF L (-1) (-1) goal p = 1000000000 then -1 else CoF L (-1) (-1) goal p) → (p ≠ goal → 0 ≤ CoF L (-1) (-1) goal p ∧ (CoF L (-1) (-1) goal p = 1000000000 ∨ CoF L (-1) (-1) goal p ≤ 976562)) → K c σ) : q_W_costBetween p goal K σ := by
  refine t_W_costBetween hL ip hS (fun c h0 h1 => h c ?_ (fun ne => ?_))
  · by_cases e : p = goal
    · rw [if_pos e]; exact h0 e
    · rw [if_neg e]
      obtain ⟨m, hm, hc⟩ := h1 e
      have a := SaP_co hL ig ip hS hm
      have := hm.1
      have := hm.2.1
      rw [a, hc]
      by_cases q : m = 1000000000
      · rw [if_pos q, if_pos q, if_pos rfl]
      · rw [if_neg q, if_neg q, if_neg (by omega)]
  · obtain ⟨m, hm, hc⟩ := h1 ne
    have a := SaP_co hL ig ip hS hm
    have := hm.1
    have := hm.2.1
    rw [a]
    by_cases q : m = 1000000000
    · rw [if_pos q]; omega
    · rw [if_neg q]; omega
/-- the reference's -/
def GfP (L : Int → Int) (A B goal : Int) (τ : zS) : Prop := (∀ v : Int, 0 ≤ v → v < 648 → 0 ≤ τ 51 v ∧ τ 51 v ≤ 1000000000 ∧ (τ 51 v ≠ 1000000000 → τ 51 v ≤ 650592)) ∧ Lab 1000000000 (fun v : Int => 0 ≤ v ∧ v < 648) (fBs L A B goal) (fEd L A B) (τ 51)
theorem t_M_costOf {K : Int → zS → Prop} {σ : zS} {L : Int → Int} {A B goal p : Int} (hL : GW L) (ip : inP L p) (hS : GfP L A B goal σ) (h : (0 ≤ CoF L A B goal p ∧ (CoF L A B goal p = 1000000000 ∨ CoF L A B goal p ≤ 650592)) → K (CoF L A B goal p) σ) : q_M_costAt p K σ := by
  have ipb := ip.b hL
  refine t_M_costAt ipb (fun v a b => ⟨(hS.1 v a b).1, (hS.1 v a b).2.1⟩) (fun m hm => ?_)
  have e := CoF_eq hL ip ⟨_, hS.2, hm⟩
  rw [← e]
  refine h ?_
  rw [e]
  refine ⟨hm.1, ?_⟩
  rcases hm.2.2.2 with x | ⟨q, hq, x⟩
  · exact Or.inl x
  · have b := hS.1 (8 * p + q) (by omega) (by omega)
    by_cases y : m = 1000000000
    · exact Or.inl y
    · exact Or.inr (by rw [x]; exact b.2.2 (by rw [← x]; exact y))
def adC (s c : Int) : Int := if c = 1000000000 ∨ s = 1000000000 then 1000000000 else s + c
noncomputable def Co0 (L : Int → Int) (goal p : Int) : Int := if p = goal then 0 else CoF L (-1) (-1) goal p
theorem t_N_addCosts {K : zS → Prop} {σ : zS} {L : Int → Int} {goal N : Int} (hc : CC L σ) (hL : GW L) (hW : RWs L) (ig : inP L goal) (hN : 0 ≤ N ∧ N ≤ 3000000) (hs : ∀ p, inP L p → σ 31 p = 1000000000 ∨ (0 ≤ σ 31 p ∧ σ 31 p ≤ N)) (h : ∀ τ, zQ [12, 13, 15, 16, 17, 18, 19, 20, 21, 22, 23, 24, 31] σ τ → (∀ p, inP L p → τ 31 p = adC (σ 31 p) (Co0 L goal p) ∧ (τ 31 p = 1000000000 ∨ (0 ≤ τ 31 p ∧ τ 31 p ≤ N + 976562))) → K τ) : q_N_addCosts goal K σ := by
  have hn := hL.n
  unfold q_N_addCosts
  refine t_W_searchAll hc hL hW ig (fun τ q hS => ?_)
  refine ⟨fun y s => zQ [31] τ s ∧ 0 ≤ y ∧ y ≤ L 0 * L 1 ∧ ∀ p, inP L p → (p < y → s 31 p = adC (σ 31 p) (Co0 L goal p) ∧ (s 31 p = 1000000000 ∨ (0 ≤ s 31 p ∧ s 31 p ≤ N + 976562))) ∧ (y ≤ p → s 31 p = σ 31 p), fun y _ => (81 - y).toNat, ⟨zQ_r _ _, by decide, by omega, fun p ip => ⟨fun hlt => by have := ip.1; omega, fun _ => by rw [q 31 (by decide)]⟩⟩, ?_⟩
  rintro y s ⟨hq, y0, y1, hI⟩ -
  have qs : zQ [12, 13, 15, 16, 17, 18, 19, 20, 21, 22, 23, 24, 31] σ s := zQ_t (zQ_m q (by decide)) (zQ_m hq (by decide))
  have hcs := CC_Q hc qs (by decide)
  refine t_L_places hcs (by omega) ⟨fun d => h s qs (fun p ip => (hI p ip).1 (by have := ip.2; omega)), fun d => ?_⟩
  have iy : inP L y := ⟨y0, d⟩
  have iyb := iy.b hL
  have e31 := (hI y iy).2 (Int.le_refl _)
  have sb := hs y iy
  refine t_W_costOf hL ig iy (SaP_Q hS hq (by decide)) (fun c ec hb => ?_)
  have nxt : ∀ v s1, s1 = zU s 31 y v → v = adC (σ 31 y) (Co0 L goal y) → (v = 1000000000 ∨ (0 ≤ v ∧ v ≤ N + 976562)) → (zQ [31] τ s1 ∧ 0 ≤ y + 1 ∧ y + 1 ≤ L 0 * L 1 ∧ ∀ p, inP L p → (p < y + 1 → s1 31 p = adC (σ 31 p) (Co0 L goal p) ∧ (s1 31 p = 1000000000 ∨ (0 ≤ s1 31 p ∧ s1 31 p ≤ N + 976562))) ∧ (y + 1 ≤ p → s1 31 p = σ 31 p)) ∧ zR (y + 1) ∧ (81 - (y + 1)).toNat < (81 - y).toNat := by
    intro v s1 e1 hv hvb
    refine ⟨⟨by rw [e1]; exact zQ_t hq (zQ_U (by decide)), by omega, by omega, fun p ip => ⟨fun hlt => ?_, fun hge => ?_⟩⟩, zRi (by omega) (by omega), by omega⟩
    · rw [e1, zU_if]
      by_cases e : p = y
      · rw [if_pos e, e]; exact ⟨hv, hvb⟩
      · rw [if_neg e]; exact (hI p ip).1 (by omega)
    · rw [e1, zU_if, if_neg (by omega)]; exact (hI p ip).2 (by omega)
  rw [e31]
  have co : Co0 L goal y = if c = -1 then 1000000000 else c := by
    unfold Co0
    by_cases e : y = goal
    · rw [if_pos e] at ec ⊢
      rw [ec, if_neg (by decide)]
    · rw [if_neg e] at ec ⊢
      have b := hb e
      by_cases z : CoF L (-1) (-1) goal y = 1000000000
      · rw [if_pos z] at ec
        rw [ec, if_pos rfl, z]
      · rw [if_neg z] at ec
        rw [ec, if_neg (by omega)]
  have cb : c = -1 ∨ (0 ≤ c ∧ c ≤ 976562) := by
    by_cases e : y = goal
    · rw [if_pos e] at ec; omega
    · rw [if_neg e] at ec
      have b := hb e
      by_cases z : CoF L (-1) (-1) goal y = 1000000000
      · rw [if_pos z] at ec; omega
      · rw [if_neg z] at ec; omega
  refine ⟨fun e => ⟨iyb, fun s1 e1 => nxt _ s1 e1 ?_ (Or.inl rfl)⟩, fun e => ⟨iyb, fun f => ⟨zRi (by omega) (by omega), fun s1 e1 => nxt _ s1 e1 ?_ (Or.inr (by omega))⟩, fun f s1 e1 => nxt _ s1 e1 ?_ (Or.inl rfl)⟩⟩
  · unfold adC
    rw [co, if_pos e, if_pos (Or.inl rfl)]
  · unfold adC
    rw [co, if_neg e, if_neg (by omega)]
  · unfold adC
    rw [if_pos (Or.inr f)]
theorem t_M_addsFrom {K : zS → Prop} {σ : zS} {L : Int → Int} {goal N : Int} (hm : MM L (-1) (-1) σ) (hL : GW L) (hW : RWs L) (ig : inP L goal) (hN : 0 ≤ N ∧ N ≤ 3000000) (hs : ∀ p, inP L p → σ 59 p = 1000000000 ∨ (0 ≤ σ 59 p ∧ σ 59 p ≤ N)) (h : ∀ τ, zQ [51, 59] σ τ → (∀ p, inP L p → τ 59 p = adC (σ 59 p) (Co0 L goal p) ∧ (τ 59 p = 1000000000 ∨ (0 ≤ τ 59 p ∧ τ 59 p ≤ N + 976562))) → K τ) : q_M_addsFrom goal K σ := by
  have hn := hL.n
  unfold q_M_addsFrom
  refine t_M_goesFrom hm hL hW.rb ig (fun τ q hb hLab => ?_)
  have hS : GfP L (-1) (-1) goal τ := ⟨hb, hLab⟩
  refine ⟨fun y s => zQ [59] τ s ∧ 0 ≤ y ∧ y ≤ L 0 * L 1 ∧ ∀ p, inP L p → (p < y → s 59 p = adC (σ 59 p) (Co0 L goal p) ∧ (s 59 p = 1000000000 ∨ (0 ≤ s 59 p ∧ s 59 p ≤ N + 976562))) ∧ (y ≤ p → s 59 p = σ 59 p), fun y _ => (81 - y).toNat, ⟨zQ_r _ _, by decide, by omega, fun p ip => ⟨fun hlt => by have := ip.1; omega, fun _ => by rw [q 59 (by decide)]⟩⟩, ?_⟩
  rintro y s ⟨hq, y0, y1, hI⟩ -
  have qs : zQ [51, 59] σ s := zQ_t (zQ_m q (by decide)) (zQ_m hq (by decide))
  have hms := MM_Q hm qs (by decide)
  refine t_M_places hms (by omega) ⟨fun d => h s qs (fun p ip => (hI p ip).1 (by have := ip.2; omega)), fun d => ?_⟩
  have iy : inP L y := ⟨y0, d⟩
  have iyb := iy.b hL
  have e59 := (hI y iy).2 (Int.le_refl _)
  have sb := hs y iy
  have hSs : GfP L (-1) (-1) goal s := by
    unfold GfP
    rw [hq 51 (by decide)]
    exact hS
  have nxt : ∀ v s1, s1 = zU s 59 y v → v = adC (σ 59 y) (Co0 L goal y) → (v = 1000000000 ∨ (0 ≤ v ∧ v ≤ N + 976562)) → (zQ [59] τ s1 ∧ 0 ≤ y + 1 ∧ y + 1 ≤ L 0 * L 1 ∧ ∀ p, inP L p → (p < y + 1 → s1 59 p = adC (σ 59 p) (Co0 L goal p) ∧ (s1 59 p = 1000000000 ∨ (0 ≤ s1 59 p ∧ s1 59 p ≤ N + 976562))) ∧ (y + 1 ≤ p → s1 59 p = σ 59 p)) ∧ zR (y + 1) ∧ (81 - (y + 1)).toNat < (81 - y).toNat := by
    intro v s1 e1 hv hvb
    refine ⟨⟨by rw [e1]; exact zQ_t hq (zQ_U (by decide)), by omega, by omega, fun p ip => ⟨fun hlt => ?_, fun hge => ?_⟩⟩, zRi (by omega) (by omega), by omega⟩
    · rw [e1, zU_if]
      by_cases e : p = y
      · rw [if_pos e, e]; exact ⟨hv, hvb⟩
      · rw [if_neg e]; exact (hI p ip).1 (by omega)
    · rw [e1, zU_if, if_neg (by omega)]; exact (hI p ip).2 (by omega)
  refine ⟨fun w t => t = s ∧ w = Co0 L goal y ∧ 0 ≤ w ∧ (w = 1000000000 ∨ w ≤ 650592), fun w t hw _ => ?_, fun ne => t_M_costOf hL iy hSs (fun b => ⟨rfl, by unfold Co0; rw [if_neg ne], b.1, b.2⟩), fun e => ⟨rfl, by unfold Co0; rw [if_pos e], by decide, Or.inr (by decide)⟩⟩
  obtain ⟨rfl, hw1, hw2, hw3⟩ := hw
  rw [e59]
  refine ⟨fun e => ⟨iyb, fun s1 e1 => nxt _ s1 e1 ?_ (Or.inl rfl)⟩, fun e => ⟨iyb, fun f => ⟨zRi (by omega) (by omega), fun s1 e1 => nxt _ s1 e1 ?_ (Or.inr (by omega))⟩, fun f s1 e1 => nxt _ s1 e1 ?_ (Or.inl rfl)⟩⟩
  · unfold adC
    rw [← hw1, if_pos (Or.inl e)]
  · unfold adC
    rw [← hw1, if_neg (by omega)]
  · unfold adC
    rw [if_pos (Or.inr f)]

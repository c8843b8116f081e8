/-! ===== the reference's rounds: what is left to a place ===== -/
def enc (a n : Int → Int) : Int → Int := fun v => a v * 1024 + n v
def mBs (to_ v b : Int) : Prop := ∃ h, 0 ≤ h ∧ h < 8 ∧ v = 8 * to_ + h ∧ b = 0
def mEd (L C : Int → Int) (A B kind to_ v u w : Int) : Prop := ∃ p h g, inP L p ∧ p ≠ to_ ∧ (0 ≤ h ∧ h < 8) ∧ (0 ≤ g ∧ g < 8) ∧ Sty L A B p g ∧ Bnd L p h g ∧ v = 8 * p + h ∧ u = 8 * bs L p g + g ∧ w = (kst L C kind p g + kbn L kind h g) * 1024 + 1
theorem mEd_b {L C : Int → Int} {A B kind to_ v u w : Int} (hL : GW L) (hC : CB L C) (h : mEd L C A B kind to_ v u w) : (0 ≤ v ∧ v < 648) ∧ (0 ≤ u ∧ u < 648) ∧ 1 ≤ w ∧ w ≤ 1111041 := by
  obtain ⟨p, h, g, ip, -, hh, hg, st, -, e1, e2, e3⟩ := h
  have h1 := ip.b hL
  have h2 := (bs_in st.1.1).b hL
  have h3 := kst_b (kind := kind) hL hC ip st.1.1
  have h4 := kbn_b (kind := kind) hL hh.1 hh.2 hg.1 hg.2
  omega
def GT (B : Int → Int → Prop) (E : Int → Int → Int → Prop) (a n : Int → Int) : Prop :=
  (∀ v : Int, 0 ≤ v → v < 648 → (a v = 1000000000 ∧ n v = 1000000000) ∨ (0 ≤ a v ∧ a v < 1000000000 ∧ 0 ≤ n v ∧ n v ≤ (cnt (fun i => decide (enc a n (i : Nat) < enc a n v)) 648 : Nat))) ∧
  RI 648 1025000000000 1111041 B E (enc a n)
theorem GT_fin {B : Int → Int → Prop} {E : Int → Int → Int → Prop} {a n : Int → Int} (h : GT B E a n) {v : Int} (v0 : 0 ≤ v) (v1 : v < 648) (hf : a v ≠ 1000000000) : 0 ≤ a v ∧ a v ≤ 703081 ∧ 0 ≤ n v ∧ n v ≤ 647 ∧ enc a n v < 1025000000000 := by
  have h1 := (h.1 v v0 v1).resolve_left (fun q => hf q.1)
  have e : ((v.toNat : Nat) : Int) = v := Int.toNat_of_nonneg v0
  have h2 := cnt_full (P := fun i => decide (enc a n (i : Nat) < enc a n v)) (j := v.toNat) (n := 648) (by omega) (by simp only [e]; exact decide_eq_false (by omega))
  have h3 := (h.2.1 v v0 v1).2.2
  have h4 := cnt_le (fun i => decide (enc a n (i : Nat) < 1025000000000)) 648
  have h5 : enc a n v = a v * 1024 + n v := rfl
  have h6 := h3 (by omega)
  omega
theorem GT_inf {B : Int → Int → Prop} {E : Int → Int → Int → Prop} {a n : Int → Int} (h : GT B E a n) {v : Int} (v0 : 0 ≤ v) (v1 : v < 648) : a v = 1000000000 ↔ ¬ enc a n v < 1025000000000 := by
  constructor
  · intro e
    have h5 : enc a n v = a v * 1024 + n v := rfl
    rcases h.1 v v0 v1 with q | q
    · omega
    · omega
  · intro hn
    by_cases e : a v = 1000000000
    · exact e
    · exact absurd (GT_fin h v0 v1 e).2.2.2.2 hn
theorem enc_up (a n : Int → Int) (v x y : Int) : enc (up a v x) (up n v y) = up (enc a n) v (x * 1024 + y) := by
  funext i
  unfold enc up
  split <;> rfl
theorem GT_up {B : Int → Int → Prop} {E : Int → Int → Int → Prop} {a n : Int → Int} (h : GT B E a n) {v u c : Int} (v0 : 0 ≤ v) (v1 : v < 648) (u0 : 0 ≤ u) (u1 : u < 648) (hE : E v u (c * 1024 + 1)) (c0 : 0 ≤ c) (c1 : c ≤ 1085) (hf : a u ≠ 1000000000) (hl : a u + c < a v ∨ (a u + c = a v ∧ n u + 1 < n v)) : GT B E (up a v (a u + c)) (up n v (n u + 1)) ∧ sgm 648 (enc (up a v (a u + c)) (up n v (n u + 1))) < sgm 648 (enc a n) := by
  have hu := GT_fin h u0 u1 hf
  have ex : (a u + c) * 1024 + (n u + 1) = enc a n u + (c * 1024 + 1) := by
    show _ = a u * 1024 + n u + _
    omega
  have ev : enc a n v = a v * 1024 + n v := rfl
  have eu : enc a n u = a u * 1024 + n u := rfl
  have hnv : 0 ≤ n v := by
    rcases h.1 v v0 v1 with q | q <;> omega
  have hlt : enc a n u + (c * 1024 + 1) < enc a n v := by omega
  have hne : u ≠ v := fun e => by rw [e] at hlt; omega
  have hR := RI_up h.2 v0 v1 u0 u1 hE (by omega) (by omega) hu.2.2.2.2 hlt
  have hs := sgm_up (N := 648) (d := enc a n) v0 v1 (x := enc a n u + (c * 1024 + 1)) (by omega) hlt
  rw [enc_up, ex]
  refine ⟨⟨fun i i0 i1 => ?_, by rw [enc_up, ex]; exact hR⟩, hs⟩
  rw [enc_up, ex]
  by_cases e : i = v
  · subst e
    rw [up_s, up_s, up_s]
    have hcn := (h.1 u u0 u1).resolve_left (fun q => hf q.1)
    have eq : ((u.toNat : Nat) : Int) = u := Int.toNat_of_nonneg u0
    have := cnt_lt (P := fun j => decide (enc a n (j : Nat) < enc a n u)) (Q := fun j => decide (up (enc a n) i (enc a n u + (c * 1024 + 1)) (j : Nat) < enc a n u + (c * 1024 + 1))) (j := u.toNat) 648 (by omega) (fun j _ hj => by
      simp only [decide_eq_true_eq] at hj ⊢
      have : ((j : Nat) : Int) ≠ i := fun q => by rw [q] at hj; omega
      rw [up_o this]
      omega) (by simp only [eq]; exact decide_eq_false (by omega)) (by simp only [eq]; rw [up_o hne]; exact decide_eq_true (by omega))
    exact Or.inr ⟨by omega, by omega, by omega, by omega⟩
  · rw [up_o e, up_o e, up_o e]
    rcases h.1 i i0 i1 with q | q
    · exact Or.inl q
    · have := cnt_mono (P := fun j => decide (enc a n (j : Nat) < enc a n i)) (Q := fun j => decide (up (enc a n) v (enc a n u + (c * 1024 + 1)) (j : Nat) < enc a n i)) 648 (fun j _ hj => by
        simp only [decide_eq_true_eq] at hj ⊢
        by_cases q : ((j : Nat) : Int) = v
        · rw [q, up_s]
          rw [q] at hj
          omega
        · rw [up_o q]
          exact hj)
      exact Or.inr ⟨q.1, q.2.1, q.2.2.1, by omega⟩
theorem t_M_isLess {K : Int → zS → Prop} {σ : zS} {a n v : Int} (hv : 0 ≤ v ∧ v < 648) (hT : (a < σ 51 v ∨ (a = σ 51 v ∧ n < σ 52 v)) → K 1 σ) (hF : ¬ (a < σ 51 v ∨ (a = σ 51 v ∧ n < σ 52 v)) → K 0 σ) : q_M_isLess a n v K σ := by
  unfold q_M_isLess
  exact ⟨hv, fun c => hT (Or.inl c), fun c => ⟨fun d => hF (by omega), fun d => ⟨fun e => hF (by omega), fun e => hT (Or.inr ⟨d, e⟩)⟩⟩⟩
theorem t_M_eases {K : Int → zS → Prop} {σ : zS} {L C : Int → Int} {A B kind to_ p h : Int} (hm : MM L A B σ) (hL : GW L) (hR : RB L) (hCB : CB L C) (hC : kind = 5 → ∀ p, inP L p → σ 62 p = C p) (hk : 0 ≤ kind ∧ kind ≤ 5) (hp : inP L p) (hpt : p ≠ to_) (hh : 0 ≤ h ∧ h < 8) (hG : GT (mBs to_) (mEd L C A B kind to_) (σ 51) (σ 52)) (h0 : (∀ u w, mEd L C A B kind to_ (8 * p + h) u w → enc (σ 51) (σ 52) u < 1025000000000 → enc (σ 51) (σ 52) (8 * p + h) ≤ enc (σ 51) (σ 52) u + w) → K 0 σ) (h1 : ∀ τ, zQ [51, 52] σ τ → GT (mBs to_) (mEd L C A B kind to_) (τ 51) (τ 52) → sgm 648 (enc (τ 51) (τ 52)) < sgm 648 (enc (σ 51) (σ 52)) → K 1 τ) : q_M_eases p h kind K σ := by
  have hp2 := hp.b hL
  unfold q_M_eases
  refine ⟨fun x y s => zQ [51, 52] σ s ∧ GT (mBs to_) (mEd L C A B kind to_) (s 51) (s 52) ∧ 0 ≤ y ∧ y ≤ 8 ∧ ((x = 0 ∧ s = σ ∧ ∀ g, 0 ≤ g → g < y → Sty L A B p g → Bnd L p h g → enc (σ 51) (σ 52) (8 * bs L p g + g) < 1025000000000 → enc (σ 51) (σ 52) (8 * p + h) ≤ enc (σ 51) (σ 52) (8 * bs L p g + g) + ((kst L C kind p g + kbn L kind h g) * 1024 + 1)) ∨ (x = 1 ∧ sgm 648 (enc (s 51) (s 52)) < sgm 648 (enc (σ 51) (σ 52)))), fun _ y _ => (8 - y).toNat, ⟨zQ_r _ _, hG, by decide, by decide, Or.inl ⟨rfl, rfl, fun g a b => by omega⟩⟩, ?_⟩
  rintro x y s ⟨hq, hI, y0, y8, hx⟩ - -
  have hm' := MM_Q hm hq (by decide)
  have cont : (s = σ → Sty L A B p y → Bnd L p h y → enc (σ 51) (σ 52) (8 * bs L p y + y) < 1025000000000 → enc (σ 51) (σ 52) (8 * p + h) ≤ enc (σ 51) (σ 52) (8 * bs L p y + y) + ((kst L C kind p y + kbn L kind h y) * 1024 + 1)) → y < 8 → (zQ [51, 52] σ s ∧ GT (mBs to_) (mEd L C A B kind to_) (s 51) (s 52) ∧ 0 ≤ y + 1 ∧ y + 1 ≤ 8 ∧ ((x = 0 ∧ s = σ ∧ ∀ g, 0 ≤ g → g < y + 1 → Sty L A B p g → Bnd L p h g → enc (σ 51) (σ 52) (8 * bs L p g + g) < 1025000000000 → enc (σ 51) (σ 52) (8 * p + h) ≤ enc (σ 51) (σ 52) (8 * bs L p g + g) + ((kst L C kind p g + kbn L kind h g) * 1024 + 1)) ∨ (x = 1 ∧ sgm 648 (enc (s 51) (s 52)) < sgm 648 (enc (σ 51) (σ 52))))) ∧ zR (y + 1) ∧ (8 - (y + 1)).toNat < (8 - y).toNat := by
    intro hcl c
    refine ⟨⟨hq, hI, by omega, by omega, ?_⟩, zRi (by omega) (by omega), by omega⟩
    rcases hx with ⟨a, b, f⟩ | q
    · refine Or.inl ⟨a, b, fun g g0 g1 => ?_⟩
      by_cases e : g = y
      · subst e
        exact hcl b
      · exact f g g0 (by omega)
    · exact Or.inr q
  refine ⟨fun c => ?_, fun c => t_M_canStep hm' hL hp ⟨y0, c⟩ (fun st => n1a ?_) (fun st => n0a (cont (fun _ q => absurd q st) c))⟩
  · rcases hx with ⟨a, b, f⟩ | ⟨a, b⟩
    · subst b
      rw [a]
      refine ⟨Or.inl rfl, h0 ?_⟩
      rintro u w ⟨p', h', g, ip, -, hh', hg, st, bd, e1, e2, e3⟩ hf
      have ep : p' = p := by omega
      have eh : h' = h := by omega
      subst ep eh
      rw [e2] at hf ⊢
      rw [e3]
      exact f g hg.1 (by omega) st bd hf
    · rw [a]
      exact ⟨Or.inr rfl, h1 s hq hI b⟩
  · refine t_M_canBend hm' hL hp hh ⟨y0, c⟩ (fun bd => n1b (t_M_beside hm' hL hp ⟨y0, c⟩ (fun x16 e16 => ?_))) (fun bd => n0b (cont (fun _ _ q => absurd q bd) c))
    have hb := st.1.1
    have iq := (bs_in hb).b hL
    have kb := kst_b (kind := kind) hL hCB hp hb
    have kb2 := kbn_b (kind := kind) hL hh.1 hh.2 y0 c
    subst e16
    refine ⟨by omega, fun nf => ?_, fun ff => cont (fun e _ _ q => ?_) c⟩
    · have fu := GT_fin hI (v := 8 * bs L p y + y) (by omega) (by omega) nf
      refine t_M_stepOf hm' hL hR hCB (fun e p' ip' => by rw [hq 62 (by decide)]; exact hC e p' ip') hk hp ⟨y0, c⟩ hb (t_M_bendOf hm' hL hh ⟨y0, c⟩ (fun x25 e25 => ⟨zRi (by omega) (by omega), zRi (by omega) (by omega), zRi (by omega) (by omega), t_M_isLess (by omega) (fun ls => n1b ⟨by omega, fun s34 e34 => ?_⟩) (fun ls => n0b (cont (fun e _ _ q => ?_) c))⟩))
      · have e52 : s34 52 (8 * bs L p y + y) = s 52 (8 * bs L p y + y) := by rw [e34, zU_o (by decide)]
        rw [e52]
        refine ⟨zRi (by omega) (by omega), fun s37 e37 => ?_⟩
        have g51 : s37 51 = up (s 51) (8 * p + h) (s 51 (8 * bs L p y + y) + (kst L C kind p y + kbn L kind h y)) := by
          rw [e37, zU_row (by decide), e34, zU_up, e25, Int.add_assoc]
        have g52 : s37 52 = up (s 52) (8 * p + h) (s 52 (8 * bs L p y + y) + 1) := by rw [e37, zU_up, e34, zU_row (by decide)]
        have hE : mEd L C A B kind to_ (8 * p + h) (8 * bs L p y + y) ((kst L C kind p y + kbn L kind h y) * 1024 + 1) := ⟨p, h, y, hp, hpt, hh, ⟨y0, c⟩, st, bd, rfl, rfl, rfl⟩
        have hU := GT_up hI (v := 8 * p + h) (u := 8 * bs L p y + y) (c := kst L C kind p y + kbn L kind h y) (by omega) (by omega) (by omega) (by omega) hE (by omega) (by omega) nf (by omega)
        rw [← g51, ← g52] at hU
        refine ⟨⟨?_, hU.1, by omega, by omega, Or.inr ⟨rfl, ?_⟩⟩, zRi (by omega) (by omega), by dsimp only; omega⟩
        · rw [e37, e34]; exact zQ_t hq (zQ_t (zQ_U (by decide)) (zQ_U (by decide)))
        · rcases hx with ⟨a, b, f⟩ | ⟨a, b⟩
          · have := hU.2
            rw [b] at this
            exact this
          · have := hU.2
            omega
      · subst e
        have v1 : enc (s 51) (s 52) (8 * p + h) = s 51 (8 * p + h) * 1024 + s 52 (8 * p + h) := rfl
        have v2 : enc (s 51) (s 52) (8 * bs L p y + y) = s 51 (8 * bs L p y + y) * 1024 + s 52 (8 * bs L p y + y) := rfl
        by_cases ff : s 51 (8 * p + h) = 1000000000
        · omega
        · have fv := GT_fin hI (v := 8 * p + h) (by omega) (by omega) ff
          omega
    · subst e
      exact absurd q ((GT_inf hI (by omega) (by omega)).mp ff)

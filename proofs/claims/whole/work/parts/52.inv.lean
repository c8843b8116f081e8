/-! ===== what holds between two calls ===== -/
def TW (L : Int → Int) : Prop := 1 ≤ L 2 ∧ L 2 ≤ 99 ∧ 0 ≤ L 3 ∧ L 3 ≤ 4 ∧ 0 ≤ L 4 ∧ L 4 ≤ 99 ∧ 0 ≤ L 5 ∧ L 5 ≤ 9 ∧ 0 ≤ L 6 ∧ L 6 ≤ 9 ∧ 0 ≤ L 7 ∧ L 7 ≤ 99 ∧ 0 ≤ L 8 ∧ L 8 ≤ 99 ∧ 0 ≤ L 9 ∧ L 9 ≤ 3 ∧ 0 ≤ L 10 ∧ L 10 ≤ 9 ∧ 0 ≤ L 11 ∧ L 11 ≤ 9 ∧ 0 ≤ L 12 ∧ L 12 ≤ 30
def LW (L : Int → Int) : Prop := (GW L ∧ RWs L) ∨ (L 0 = 0 ∧ L 1 = 0 ∧ TW L ∧ ∀ r, 0 ≤ r → r < 4 → L (175 + 81 * r) = 0)
theorem LW.n {L : Int → Int} (h : LW L) : 0 ≤ L 0 * L 1 ∧ L 0 * L 1 ≤ 81 := by
  rcases h with h | h
  · have := h.1.n
    omega
  · rw [h.1]; omega
theorem LW.tw {L : Int → Int} (h : LW L) : TW L := by
  rcases h with h | h
  · exact h.1.2.1
  · exact h.2.2.1
theorem LW.gw {L : Int → Int} (h : LW L) {p : Int} (hp : inP L p) : GW L ∧ RWs L := by
  rcases h with h | h
  · exact h
  · exfalso
    have a := hp.1
    have b := hp.2
    rw [h.1] at b
    omega
theorem LW.rd {L : Int → Int} (h : LW L) {r : Int} (r0 : 0 ≤ r) (r1 : r < 4) (hr : L (175 + 81 * r) ≠ 0) : GW L ∧ RWs L := by
  rcases h with h | h
  · exact h
  · exact absurd (h.2.2.2 r r0 r1) hr
theorem LW.rb {L : Int → Int} (h : LW L) : RB L := by
  rcases h with h | h
  · exact h.2.rb
  · intro r r0 r1
    rw [h.2.2.2 r r0 r1]
    omega
theorem LW_congr {L M : Int → Int} (e : ∀ j, 0 ≤ j → j < 499 → M j = L j) (h : LW L) : LW M := by
  have e0 := e 0 (by decide) (by decide)
  have e1 := e 1 (by decide) (by decide)
  have e2 := e 2 (by decide) (by decide)
  have e3 := e 3 (by decide) (by decide)
  have e4 := e 4 (by decide) (by decide)
  have e5 := e 5 (by decide) (by decide)
  have e6 := e 6 (by decide) (by decide)
  have e7 := e 7 (by decide) (by decide)
  have e8 := e 8 (by decide) (by decide)
  have e9 := e 9 (by decide) (by decide)
  have e10 := e 10 (by decide) (by decide)
  have e11 := e 11 (by decide) (by decide)
  have e12 := e 12 (by decide) (by decide)
  have ip : ∀ p, inP M p ↔ inP L p := fun p => by unfold inP; rw [e0, e1]
  have eb : ∀ p g, bs M p g = bs L p g := fun p g => by show bes _ _ _ _ = bes _ _ _ _; rw [e0, e1]
  rcases h with ⟨⟨a1, a2, a3, a4⟩, hR⟩ | ⟨b0, b1, b2, b3⟩
  · refine Or.inl ⟨⟨by rw [e0, e1]; exact a1, by rw [e2, e3, e4, e5, e6, e7, e8, e9, e10, e11, e12]; exact a2, fun p p0 p1 => by rw [e (13 + p) (by omega) (by omega)]; exact a3 p p0 p1, fun p p0 p1 => by rw [e (94 + p) (by omega) (by omega)]; exact a4 p p0 p1⟩, fun r r0 r1 => ?_⟩
    have em := e (175 + 81 * r) (by omega) (by omega)
    unfold RW
    rw [em]
    rcases hR r r0 r1 with q | ⟨q1, q2, q3, q4⟩
    · exact Or.inl q
    · refine Or.inr ⟨q1, q2, fun k k0 k1 => ?_, fun k k0 k1 => ?_⟩
      · rw [e (176 + 81 * r + k) (by omega) (by omega), e (216 + 81 * r + k) (by omega) (by omega), ip]
        exact q3 k k0 k1
      · obtain ⟨g, g0, g1, hg⟩ := q4 k k0 k1
        refine ⟨g, g0, g1, ?_⟩
        rw [e (176 + 81 * r + k) (by omega) (by omega), e (176 + 81 * r + (k + 1)) (by omega) (by omega), eb]
        exact hg
  · refine Or.inr ⟨by rw [e0]; exact b0, by rw [e1]; exact b1, by unfold TW; rw [e2, e3, e4, e5, e6, e7, e8, e9, e10, e11, e12]; exact b2, fun r r0 r1 => by rw [e (175 + 81 * r) (by omega) (by omega)]; exact b3 r r0 r1⟩
def TpO (σ : zS) : Prop := σ 1 1 = σ 41 11 ∧ (0 ≤ σ 1 1 ∧ σ 1 1 ≤ 400) ∧ ∀ i, 0 ≤ i → i < 400 → σ 2 i = σ 49 i ∧ 0 ≤ σ 2 i ∧ σ 2 i ≤ 255
def PsO (σ : zS) : Prop := σ 9 2 = σ 41 3 ∧ (0 ≤ σ 9 2 ∧ σ 9 2 ≤ 8) ∧ (0 ≤ σ 9 1 ∧ σ 9 1 < 8) ∧ ∀ i, 0 ≤ i → i < σ 9 2 → (∀ j, 0 ≤ j → j < 499 → σ 10 ((σ 9 1 + i) % 8 * 499 + j) = σ 43 (499 * i + j)) ∧ LW (fun j => σ 43 (499 * i + j))
def ImO (σ : zS) : Prop := σ 0 10 = σ 41 5 ∧ (σ 0 10 = 0 ∨ σ 0 10 = 1) ∧ (σ 0 10 ≠ 0 → (∀ j, 0 ≤ j → j < 499 → σ 40 j = σ 44 j) ∧ LW (σ 44))
def SaO (σ : zS) : Prop := ∀ k, 0 ≤ k → k < 11 → σ 45 k = zSV 2 k ∧ σ 46 k = zSV 1 k
def INV (σ : zS) : Prop := ∃ L, CC L σ ∧ MM L (-1) (-1) σ ∧ LW L ∧ TpO σ ∧ PsO σ ∧ ImO σ ∧ σ 0 11 = σ 41 14 ∧ SaO σ
def core : List Nat := [0, 1, 2, 4, 5, 9, 10, 40, 42, 43, 44, 45, 46, 47, 48, 49]
def fcor : List Int := [3, 5, 11, 14, 28, 29]
def FR (σ τ : zS) : Prop := (∀ o ∈ core, τ o = σ o) ∧ ∀ k ∈ fcor, τ 41 k = σ 41 k
theorem FR_r (σ : zS) : FR σ σ := ⟨fun _ _ => rfl, fun _ _ => rfl⟩
theorem FR_t {σ τ υ : zS} (h1 : FR σ τ) (h2 : FR τ υ) : FR σ υ := ⟨fun o ho => (h2.1 o ho).trans (h1.1 o ho), fun k hk => (h2.2 k hk).trans (h1.2 k hk)⟩
theorem FR_Q {S : List Nat} {σ τ : zS} (h : zQ S σ τ) (hs : ∀ o ∈ core, o ∉ S) (h41 : 41 ∉ S) : FR σ τ := ⟨fun o ho => h o (hs o ho), fun k _ => by rw [h 41 h41]⟩
theorem FR_Qf {S : List Nat} {σ τ : zS} (h : zQ S σ τ) (hs : ∀ o ∈ core, o ∉ S) (h41 : ∀ k ∈ fcor, τ 41 k = σ 41 k) : FR σ τ := ⟨fun o ho => h o (hs o ho), h41⟩
theorem FR_U {σ : zS} {o : Nat} {k v : Int} (ho : o ∉ core) (h41 : o ≠ 41) : FR σ (zU σ o k v) := ⟨fun a ha => zU_row (fun e => ho (e ▸ ha)), fun a _ => by rw [zU_row (Ne.symm h41)]⟩
theorem FR_F {σ : zS} {k v : Int} (hk : k ∉ fcor) : FR σ (zU σ 41 k v) := ⟨fun a ha => zU_row (fun e => by rw [e] at ha; revert ha; decide), fun a ha => zU_k (fun e => hk (e ▸ ha))⟩
theorem FR_MM {L : Int → Int} {A B : Int} {σ τ : zS} (h : FR σ τ) (hm : MM L A B σ) : MM L A B τ := by
  unfold MM
  rw [h.1 42 (by decide), h.1 47 (by decide), h.1 48 (by decide), h.2 28 (by decide), h.2 29 (by decide)]
  exact hm
theorem FR_CC {L : Int → Int} {σ τ : zS} (h : FR σ τ) (hc : CC L σ) : CC L τ := by
  unfold CC
  rw [h.1 4 (by decide), h.1 5 (by decide)]
  exact hc
theorem INV_FR {σ τ : zS} (h : FR σ τ) (hi : INV σ) : INV τ := by
  obtain ⟨L, h1, h2, h3, h4, h5, h6, h7, h8⟩ := hi
  refine ⟨L, FR_CC h h1, FR_MM h h2, h3, ?_, ?_, ?_, ?_, ?_⟩
  · unfold TpO
    rw [h.1 1 (by decide), h.1 2 (by decide), h.1 49 (by decide), h.2 11 (by decide)]
    exact h4
  · unfold PsO
    rw [h.1 9 (by decide), h.1 10 (by decide), h.1 43 (by decide), h.2 3 (by decide)]
    exact h5
  · unfold ImO
    rw [h.1 0 (by decide), h.1 40 (by decide), h.1 44 (by decide), h.2 5 (by decide)]
    exact h6
  · rw [h.1 0 (by decide), h.2 14 (by decide)]
    exact h7
  · unfold SaO
    rw [h.1 45 (by decide), h.1 46 (by decide)]
    exact h8
section TF
variable {K : zS → Prop} {X : String → zS → Prop} {σ : zS} {L : Int → Int} {p q n a b : Int}
theorem t_R_needAnswer (hT : 0 ≤ p → p < n → K σ) (hF : ¬ (0 ≤ p ∧ p < n) → X "java/util/NoSuchElementException" σ) : q_R_needAnswer p n K X σ := by
  unfold q_R_needAnswer
  exact ⟨fun c => hF (by omega), fun c => ⟨fun d => hT c d, fun d => hF (by omega)⟩⟩
theorem t_R_needPlace (hc : CC L σ) (hn : 0 ≤ L 0 * L 1 ∧ L 0 * L 1 ≤ 81) (hT : inP L p → K σ) (hF : ¬ inP L p → X "java/lang/IndexOutOfBoundsException" σ) : q_R_needPlace p K X σ := by
  unfold q_R_needPlace
  exact ⟨fun c => hF (fun d => by have := d.1; omega), fun c => t_L_places hc hn ⟨fun d => hT ⟨c, d⟩, fun d => hF (fun e => by have := e.2; omega)⟩⟩
theorem t_R_needPair (hc : CC L σ) (hn : 0 ≤ L 0 * L 1 ∧ L 0 * L 1 ≤ 81) (hT : inP L p → inP L q → K σ) (hF : ¬ (inP L p ∧ inP L q) → X "java/lang/IndexOutOfBoundsException" σ) : q_R_needPair p q K X σ := by
  unfold q_R_needPair
  exact t_R_needPlace hc hn (fun h1 => t_R_needPlace hc hn (fun h2 => hT h1 h2) (fun h2 => hF (fun h => h2 h.2))) (fun h1 => hF (fun h => h1 h.1))
theorem t_R_needRoad (hT : 0 ≤ p → p < 4 → K σ) (hF : ¬ (0 ≤ p ∧ p < 4) → X "java/lang/IndexOutOfBoundsException" σ) : q_R_needRoad p K X σ := by
  unfold q_R_needRoad
  exact ⟨fun c => hF (by omega), fun c => ⟨fun d => hT c d, fun d => hF (by omega)⟩⟩
theorem t_R_needNumber (hT : a ≤ p → p ≤ b → K σ) (hF : ¬ (a ≤ p ∧ p ≤ b) → X "java/lang/IllegalArgumentException" σ) : q_R_needNumber p a b K X σ := by
  unfold q_R_needNumber
  first
  | exact ⟨fun c => hF (by omega), fun c => ⟨fun d => hT (by omega) (by omega), fun d => hF (by omega)⟩⟩
  | exact ⟨fun c => hF (by omega), fun c => ⟨fun d => hF (by omega), fun d => hT (by omega) (by omega)⟩⟩
theorem t_R_needUnlike (hT : a ≠ b → K σ) (hF : a = b → X "java/lang/IllegalArgumentException" σ) : q_R_needUnlike a b K X σ := by
  unfold q_R_needUnlike
  exact ⟨hT, hF⟩
theorem t_R_needBuilt (hc : CC L σ) (hr : 0 ≤ p ∧ p < 4) (hT : L (175 + 81 * p) ≠ 0 → K σ) (hF : L (175 + 81 * p) = 0 → X "java/lang/IllegalStateException" σ) : q_R_needBuilt p K X σ := by
  unfold q_R_needBuilt
  first
  | exact t_L_isBuilt hc hr (fun e => n1b (hT e)) (fun e => n0b (hF e))
  | exact t_L_isBuilt hc hr (fun e => n1a (hT e)) (fun e => n0a (hF e))
end TF
/-- what the law compares behind a call: what was thrown, and the answer where nothing was -/
def Agr (r b : Int) (w : zS) : Prop := w 41 0 = r ∧ (r = 0 → w 64 0 = b) ∧ INV w

/-! ===== the text: the class reads its clauses ===== -/
section TW2
variable {t : Int → Int} {N a : Int} {σ : zS}
theorem LW_GW {c : Int → Int} (h : LW c) (h0 : 2 ≤ c 0) : GW c := by
  rcases h with z | z
  · exact z.1
  · have := z.1; omega
theorem zTW_in : ∀ p ∈ zTWs, (0 ≤ p.1 ∧ p.1 < 11) ∧ wdL p.1 = p.2 ∧ (∀ x ∈ p.2, 97 ≤ x ∧ x ≤ 122) ∧ p.2.length ≤ 5 := by decide
theorem zTW_at : ∀ k : Fin 11, (((k : Nat) : Int), wdL ((k : Nat) : Int)) ∈ zTWs := by decide
theorem zTW_inj : ∀ p ∈ zTWs, ∀ q ∈ zTWs, p.2 = q.2 → p.1 = q.1 := by decide
theorem wd_at {k : Int} (k0 : 0 ≤ k) (k1 : k < 11) : (k, wdL k) ∈ zTWs := by
  have h := zTW_at ⟨k.toNat, by omega⟩
  simp only at h
  rw [Int.toNat_of_nonneg k0] at h
  exact h
theorem wd_ltr {k : Int} (k0 : 0 ≤ k) (k1 : k < 11) : (∀ x ∈ wdL k, ltr x) ∧ (wdL k).length ≤ 5 := ⟨(zTW_in _ (wd_at k0 k1)).2.2.1, (zTW_in _ (wd_at k0 k1)).2.2.2⟩
theorem tmF_sp (b : Int) : ∀ l : List (Int × List Int), (tmF t N b l = -1 ∧ ∀ p ∈ l, ¬ WdP t N b p.2) ∨ ∃ p ∈ l, tmF t N b l = p.1 ∧ WdP t N b p.2
  | [] => Or.inl ⟨rfl, fun _ h => by cases h⟩
  | (k, w) :: r => by
    by_cases c : WdP t N b w
    · exact Or.inr ⟨(k, w), List.mem_cons_self, cif_t c, c⟩
    · have e : tmF t N b ((k, w) :: r) = tmF t N b r := cif_f c
      rw [e]
      rcases tmF_sp b r with ⟨h1, h2⟩ | ⟨p, hp, h1, h2⟩
      · refine Or.inl ⟨h1, fun p hp => ?_⟩
        rcases List.mem_cons.mp hp with z | z
        · rw [z]; exact c
        · exact h2 p z
      · exact Or.inr ⟨p, List.mem_cons_of_mem _ hp, h1, h2⟩
/-- which term stands there -/
theorem tm_cases (t : Int → Int) (N b : Int) : (tmF t N b zTWs = -1 ∧ ∀ k, 0 ≤ k → k < 11 → ¬ WdP t N b (wdL k)) ∨ ((0 ≤ tmF t N b zTWs ∧ tmF t N b zTWs < 11) ∧ WdP t N b (wdL (tmF t N b zTWs))) := by
  rcases tmF_sp (t := t) (N := N) b zTWs with ⟨h1, h2⟩ | ⟨p, hp, h1, h2⟩
  · exact Or.inl ⟨h1, fun k k0 k1 => h2 (k, wdL k) (wd_at k0 k1)⟩
  · have a := zTW_in p hp
    rw [h1, a.2.1]
    exact Or.inr ⟨a.1, h2⟩
theorem tm_eq {b k : Int} (k0 : 0 ≤ k) (k1 : k < 11) (h : WdP t N b (wdL k)) : tmF t N b zTWs = k := by
  rcases tm_cases t N b with ⟨-, h2⟩ | ⟨h1, h2⟩
  · exact absurd h (h2 k k0 k1)
  · exact zTW_inj _ (wd_at h1.1 h1.2) _ (wd_at k0 k1) (Wd_uniq (wd_ltr h1.1 h1.2).1 (wd_ltr k0 k1).1 h2 h)
theorem t_X_wordOf {K : List Int → zS → Prop} {y : Int} (y0 : 0 ≤ y) (y1 : y < 11) (h : K (wdL y) σ) : q_X_wordOf y K σ := by
  unfold q_X_wordOf
  refine ⟨fun e => ?_, fun e => ?_, fun e => ?_, fun e => ?_, fun e => ?_, fun e => ?_, fun e => ?_, fun e => ?_, fun e => ?_, fun e => ?_, fun e => ?_⟩
  any_goals (subst e; exact h)
  have : y = 10 := by omega
  subst this
  exact h
def CS (t : Int → Int) (N a : Int) (c : Int → Int) (T : Int → Prop) (σ : zS) : Prop := CX t N a σ ∧ (∀ j, 0 ≤ j → j < 499 → σ 7 j = c j) ∧ ∀ k, 0 ≤ k → k < 11 → (σ 8 k ≠ 0 ↔ T k)
theorem up_row {r c : Int → Int} {k v : Int} (h : ∀ j, 0 ≤ j → j < 499 → r j = c j) : ∀ j, 0 ≤ j → j < 499 → up r k v j = up c k v j := fun j j0 j1 => by
  unfold up
  rw [h j j0 j1]
theorem lt_wet : ∀ x ∈ ([119, 101, 116] : List Int), ltr x := (by decide : ∀ x ∈ ([119, 101, 116] : List Int), 97 ≤ x ∧ x ≤ 122)
theorem lt_row : ∀ x ∈ ([114, 111, 119] : List Int), ltr x := (by decide : ∀ x ∈ ([114, 111, 119] : List Int), 97 ≤ x ∧ x ≤ 122)
theorem lt_land : ∀ x ∈ ([108, 97, 110, 100] : List Int), ltr x := (by decide : ∀ x ∈ ([108, 97, 110, 100] : List Int), 97 ≤ x ∧ x ≤ 122)
theorem t_X_readClause {K : Int → zS → Prop} {c : Int → Int} {T : Int → Prop} {k : Int → (Int → Int) → (Int → Prop) → Out} (hx : CS t N a c T σ) (hl : LW c) (h2 : 2 ≤ c 0) (h1 : ∀ τ a2 c2 T2, zQ [6, 7, 8] σ τ → CS t N a2 c2 T2 τ → LW c2 → c2 0 = c 0 → sClause t N a c T k = k a2 c2 T2 → K 1 τ) (h0 : ∀ τ b, zQ [6, 7, 8] σ τ → τ 6 5 = b → 0 ≤ b → sClause t N a c T k = er b → K 0 τ) : q_X_readClause K σ := by
  obtain ⟨hx, h7, h8⟩ := hx
  have hG := LW_GW hl h2
  have dn := hG.n
  have sb := sk_b (t := t) hx.2.2.2.2.1
  have a0 := hx.2.2.2.1
  unfold q_X_readClause
  refine t_X_readWord hx lt_wet (by decide) (fun hP τ q hx1 => n1a ?_) (fun nP τ q hx1 h5 => n0a ?_)
  · -- wet
    have eS : sClause t N a c T k = sNum t N 0 (c 0 * c 1 - 1) (sk t N a + 3) (fun v a2 => oif (c (94 + v) = 0) (k a2 (up c (94 + v) 1) T) (er (sk t N (sk t N a + 3)))) := oif_t hP
    have hx1' : CX t N (sk t N a + 3) τ := hx1
    have sb1 := sk_b (t := t) hx1'.2.2.2.2.1
    unfold q_X_readWet
    intro x3 e3
    rw [q 7 (by decide), h7 0 (by decide) (by decide), h7 1 (by decide) (by decide)] at e3
    rw [e3]
    refine ⟨zRi (by omega) (by omega), t_X_number hx1' (by decide) (fun ok τ2 q2 hx2 h5 => ?_) (fun no τ2 q2 h5 => ⟨fun _ => h0 τ2 _ (zQ_t (zQ_m q (by decide)) (zQ_m q2 (by decide))) h5 (by omega) (eS.trans (oif_f no)), fun z => absurd rfl z⟩)⟩
    have eS2 := eS.trans (oif_t ok)
    have vb := vl_b (t := t) (N := N) (b := sk t N (sk t N a + 3)) (y := nd t N (sk t N (sk t N a + 3))) (nd_b _ _ _).1 (Int.le_refl _)
    have v2 := ok.2.2
    generalize vl t (sk t N (sk t N a + 3)) (nd t N (sk t N (sk t N a + 3))) = v at *
    have hp : inP c v := ⟨vb.1, by omega⟩
    have hpb := hp.b hG
    have q12 : zQ [6, 7, 8] σ τ2 := zQ_t (zQ_m q (by decide)) (zQ_m q2 (by decide))
    have e7 : τ2 7 (94 + v) = c (94 + v) := by rw [q2 7 (by decide), q 7 (by decide)]; exact h7 _ (by omega) (by omega)
    rw [e7]
    refine ⟨fun z => by omega, fun _ => ⟨by omega, fun z s11 e11 => h1 s11 _ (up c (94 + v) 1) T (by rw [e11]; exact zQ_t q12 (zQ_U (by decide))) ⟨?_, ?_, ?_⟩ (LW_wet hl hp (Or.inr rfl)) (up_o (by omega)) (eS2.trans (oif_t z)), fun z => h0 τ2 _ q12 h5 (by omega) (eS2.trans (oif_f z))⟩⟩
    · obtain ⟨x1, x2, x3, x4⟩ := hx2
      exact ⟨by rw [e11, zU_row (by decide)]; exact x1, by rw [e11, zU_row (by decide)]; exact x2, by rw [e11, zU_row (by decide)]; exact x3, x4⟩
    · rw [e11, zU_up]
      exact up_row (fun j j0 j1 => by rw [q2 7 (by decide), q 7 (by decide)]; exact h7 j j0 j1)
    · intro k k0 k1
      rw [e11, zU_row (by decide), q2 8 (by decide), q 8 (by decide)]
      exact h8 k k0 k1
  · -- a term
    have eS : sClause t N a c T k = oif (tmF t N (sk t N a) zTWs = -1 ∨ T (tmF t N (sk t N a) zTWs)) (er (sk t N a)) (sNum t N (zSV 0 (tmF t N (sk t N a) zTWs)) (zSV 1 (tmF t N (sk t N a) zTWs)) (sk t N a + (wdL (tmF t N (sk t N a) zTWs)).length) (fun v a2 => k a2 (up c (2 + tmF t N (sk t N a) zTWs) v) (fun j => j = tmF t N (sk t N a) zTWs ∨ T j))) := oif_f nP
    have ski := sk_i (t := t) (N := N) hx.2.2.2.2.1
    generalize eb : sk t N a = b at *
    refine ⟨fun y s => zQ [6] σ s ∧ CX t N b s ∧ s 6 5 = b ∧ 0 ≤ y ∧ y ≤ 11 ∧ ∀ j, 0 ≤ j → j < y → WdP t N b (wdL j) → T j, fun y _ => (11 - y).toNat, ⟨q, hx1, h5, by decide, by decide, fun j j0 j1 => by omega⟩, ?_⟩
    rintro y s ⟨qs, hxs, hs5, y0, y1, hI⟩ -
    have e8 : s 8 = σ 8 := qs 8 (by decide)
    refine ⟨fun e => h0 s b (zQ_m qs (by decide)) hs5 (by omega) (eS.trans (oif_t ?_)), fun e => ⟨⟨y0, e⟩, ?_⟩⟩
    · rcases tm_cases t N b with ⟨e1, -⟩ | ⟨e1, e2⟩
      · exact Or.inl e1
      · exact Or.inr (hI _ e1.1 (by omega) e2)
    rw [e8]
    have t8 := h8 y y0 e
    refine ⟨fun nz => ⟨⟨qs, hxs, hs5, by omega, by omega, fun j j0 j1 hj => ?_⟩, zRi (by omega) (by omega), by dsimp only; omega⟩, fun z => t_X_wordOf y0 e ?_⟩
    · by_cases ej : j = y
      · rw [ej]; exact t8.mp nz
      · exact hI j j0 (by omega) hj
    have wl := wd_ltr y0 e
    refine t_X_readWord hxs wl.1 (by omega) (fun hW τ2 q2 hx2 => n1a ?_) (fun nW τ2 q2 hx2 h52 => n0a ⟨⟨zQ_t qs q2, by rw [ski] at hx2; exact hx2, by rw [ski] at h52; exact h52, by omega, by omega, fun j j0 j1 hj => ?_⟩, zRi (by omega) (by omega), by dsimp only; omega⟩)
    · rw [ski] at hW hx2
      have et := tm_eq y0 e hW
      rw [et] at eS
      have nT : ¬ (y = -1 ∨ T y) := fun w => by
        rcases w with w | w
        · omega
        · exact t8.mpr w z
      have eS1 := eS.trans (oif_f nT)
      intro s21 e21
      have hx21 : CX t N (b + (wdL y).length) s21 := by
        obtain ⟨x1, x2, x3, x4⟩ := hx2
        exact ⟨by rw [e21, zU_row (by decide)]; exact x1, by rw [e21, zU_row (by decide)]; exact x2, by rw [e21, zU_row (by decide)]; exact x3, x4⟩
      have q21 : zQ [6, 7, 8] σ s21 := by rw [e21]; exact zQ_t (zQ_m qs (by decide)) (zQ_t (zQ_m q2 (by decide)) (zQ_U (by decide)))
      have s0 : 0 ≤ zSV 0 y := by
        rw [zSV0 y0 e]
        split <;> decide
      have sb2 := sk_b (t := t) hx21.2.2.2.2.1
      refine ⟨zRi (by omega) (by omega), t_X_readNumber hx21 s0 (by omega) (fun ok τ3 q3 hx3 e7 => ?_) (fun no τ3 q3 h53 => h0 τ3 _ (zQ_t q21 (zQ_m q3 (by decide))) h53 (by omega) (eS1.trans (oif_f no)))⟩
      refine h1 τ3 _ (up c (2 + y) _) (fun j => j = y ∨ T j) (zQ_t q21 (zQ_m q3 (by decide))) ⟨hx3, ?_, ?_⟩ (LW_term hl y0 e ok.2.1 ok.2.2) (up_o (by omega)) (eS1.trans (oif_t ok))
      · rw [e7]
        refine up_row (fun j j0 j1 => ?_)
        rw [e21, zU_row (by decide), q2 7 (by decide), qs 7 (by decide)]
        exact h7 j j0 j1
      · intro j j0 j1
        rw [q3 8 (by decide), e21, zU_if, q2 8 (by decide), qs 8 (by decide)]
        by_cases ej : j = y
        · rw [if_pos ej]
          exact ⟨fun _ => Or.inl ej, fun _ => by decide⟩
        · rw [if_neg ej]
          exact ⟨fun w => Or.inr ((h8 j j0 j1).mp w), fun w => (h8 j j0 j1).mpr (w.resolve_left ej)⟩
    · by_cases ej : j = y
      · rw [ski] at nW
        rw [ej] at hj
        exact absurd hj nW
      · exact hI j j0 (by omega) hj
theorem t_X_readClauses {K : Int → zS → Prop} {c : Int → Int} {T : Int → Prop} (hx : CS t N a c T σ) (hl : LW c) (h2 : 2 ≤ c 0) (h1 : ∀ τ c2, zQ [6, 7, 8] σ τ → sCl t N 15 a c T = (-1, c2) → LW c2 → (∀ j, 0 ≤ j → j < 499 → τ 7 j = c2 j) → K 1 τ) (h0 : ∀ τ b, zQ [6, 7, 8] σ τ → τ 6 5 = b → 0 ≤ b → sCl t N 15 a c T = er b → K 0 τ) : q_X_readClauses K σ := by
  unfold q_X_readClauses
  generalize eO : sCl t N 15 a c T = O at *
  refine ⟨fun y s => zQ [6, 7, 8] σ s ∧ 0 ≤ y ∧ y ≤ 14 ∧ ∃ a c T, CS t N a c T s ∧ LW c ∧ 2 ≤ c 0 ∧ sCl t N (14 - y).toNat.succ a c T = O, fun y _ => (15 - y).toNat, ⟨zQ_r _ _, by decide, by decide, a, c, T, hx, hl, h2, eO⟩, ?_⟩
  clear hx hl h2 eO
  rintro y s ⟨qs, y0, y1, a, c, T, ⟨hx, h7, h8⟩, hl, h2, eO⟩ -
  have sb := sk_b (t := t) hx.2.2.2.2.1
  have a0 := hx.2.2.2.1
  refine ⟨fun z => by omega, fun _ => t_X_toNextThing hx (fun τ q hx1 h5 => ?_)⟩
  have ski := sk_i (t := t) (N := N) hx.2.2.2.2.1
  rw [h5, hx1.2.1]
  refine ⟨fun ne => ?_, fun e => h1 τ c (zQ_t qs (zQ_m q (by decide))) (eO.symm.trans (oif_t e)) hl (fun j j0 j1 => by rw [q 7 (by decide)]; exact h7 j j0 j1)⟩
  have eO1 := eO.symm.trans (oif_f ne)
  refine t_X_readMark hx1 (fun mk τ1 q1 hx2 => n1b ?_) (fun nm τ1 q1 h51 => n0b (h0 τ1 _ (zQ_t qs (zQ_t (zQ_m q (by decide)) (zQ_m q1 (by decide)))) h51 (by omega) (eO1.trans ?_)))
  · rw [ski] at mk hx2
    have eO2 := eO1.trans (oif_t mk)
    have sb2 := sk_b (t := t) hx2.2.2.2.2.1
    refine t_X_toNextThing hx2 (fun τ2 q2 hx3 h52 => ?_)
    have q02 : zQ [6, 7, 8] σ τ2 := zQ_t qs (zQ_t (zQ_m q (by decide)) (zQ_t (zQ_m q1 (by decide)) (zQ_m q2 (by decide))))
    refine ⟨fun e => h0 τ2 _ q02 h52 (by omega) (eO2.trans (oif_t (by omega))), fun ne14 => ?_⟩
    have eO3 := eO2.trans (oif_f (by omega))
    have ski2 := sk_i (t := t) (N := N) hx2.2.2.2.2.1
    have eO4 : O = sClause t N (sk t N (sk t N a + 1)) c T (fun a2 c2 T2 => sCl t N (14 - y).toNat a2 c2 T2) := by
      rw [eO3]
      unfold sClause
      rw [ski2]
    refine t_X_readClause (k := fun a2 c2 T2 => sCl t N (14 - y).toNat a2 c2 T2) ⟨hx3, fun j j0 j1 => by rw [q2 7 (by decide), q1 7 (by decide), q 7 (by decide)]; exact h7 j j0 j1, fun j j0 j1 => by rw [q2 8 (by decide), q1 8 (by decide), q 8 (by decide)]; exact h8 j j0 j1⟩ hl h2 (fun τ3 a2 c2 T2 q3 hx4 hl2 e0 e4 => n1b ⟨⟨zQ_t q02 q3, by omega, by omega, a2, c2, T2, hx4, hl2, by omega, ?_⟩, zRi (by omega) (by omega), by dsimp only; omega⟩) (fun τ3 b q3 h53 b0 e4 => n0b (h0 τ3 b (zQ_t q02 q3) h53 b0 (eO4.trans e4)))
    rw [show (14 - (y + 1)).toNat.succ = (14 - y).toNat by omega]
    exact (eO4.trans e4).symm
  · rw [ski] at nm ⊢
    exact oif_f nm
end TW2

/-! ===== the offsets that both sides take ===== -/
theorem pk_rd {v : Int → Int} {d o : Int} (hd : 0 ≤ d ∧ d ≤ 3) (hv : ∀ o, -d ≤ o → o ≤ d → -3 ≤ v o ∧ v o ≤ 4) (ho : -d ≤ o ∧ o ≤ d) : zAnd (zShr (pk v (-d) (2 * d + 1).toNat) (3 * (o + 3))) 7 - 3 = v o := by
  have zr : ∀ n : Nat, zR (pk v (-d) n) := fun n => by
    cases n with
    | zero => exact ⟨show (-2147483648 : Int) ≤ 0 by decide, show (0 : Int) ≤ 2147483647 by decide⟩
    | succ n => exact zR_or _ _
  have b := (pk_bits (by omega) (by omega) hv (2 * d + 1).toNat (by omega)).2
  rw [rd3 (zr _) (by omega)]
  have w := bit3 (w := v o + 3) (by have := hv o ho.1 ho.2; omega)
  have e : -d + ((o + d).toNat : Int) = o := by omega
  have b0 := b (o + d).toNat 0 (by omega) (by decide)
  have b1 := b (o + d).toNat 1 (by omega) (by decide)
  have b2 := b (o + d).toNat 2 (by omega) (by decide)
  rw [e] at b0 b1 b2
  rw [show 3 * (-d + 3).toNat + 3 * (o + d).toNat + 0 = (3 * (o + 3)).toNat by omega] at b0
  rw [show 3 * (-d + 3).toNat + 3 * (o + d).toNat + 1 = (3 * (o + 3)).toNat + 1 by omega] at b1
  rw [show 3 * (-d + 3).toNat + 3 * (o + d).toNat + 2 = (3 * (o + 3)).toNat + 2 by omega] at b2
  rw [b0, b1, b2, ← w]
  omega
theorem Am_ex (f : Int → Int) (lo : Int) : ∀ n : Nat, ∃ v, Am f lo (lo + n - 1) v
  | 0 => ⟨4, Or.inl ⟨rfl, fun b b0 b1 => by omega⟩⟩
  | n + 1 => by
    obtain ⟨v, hv⟩ := Am_ex f lo n
    rcases hv with ⟨a, b⟩ | ⟨a, b, c, d, e⟩
    · by_cases q : f (lo + n) < 1000000000
      · refine ⟨lo + n, Or.inr ⟨by omega, by omega, q, fun x x0 x1 => ?_, fun x x0 x1 => ?_⟩⟩
        · by_cases z : x = lo + n
          · rw [z]; exact Int.le_refl _
          · have := b x x0 (by omega)
            omega
        · have := b x x0 (by omega)
          omega
      · refine ⟨4, Or.inl ⟨rfl, fun x x0 x1 => ?_⟩⟩
        by_cases z : x = lo + n
        · rw [z]; omega
        · exact b x x0 (by omega)
    · by_cases q : f (lo + n) < f v
      · refine ⟨lo + n, Or.inr ⟨by omega, by omega, by omega, fun x x0 x1 => ?_, fun x x0 x1 => ?_⟩⟩
        · by_cases z : x = lo + n
          · rw [z]; exact Int.le_refl _
          · have := d x x0 (by omega)
            omega
        · have := d x x0 (by omega)
          omega
      · refine ⟨v, Or.inr ⟨a, by omega, c, fun x x0 x1 => ?_, e⟩⟩
        by_cases z : x = lo + n
        · rw [z]; omega
        · exact d x x0 (by omega)
theorem chv_Am {L : Int → Int} {r rule k m o : Int} (hL : GW L) (k1 : k + 1 < L (175 + 81 * r)) : Am (fun b => Gn L r rule (L (175 + 81 * r) - 1 - k - 1) k o b m) (-L 9) (L 9) (chv L r rule k m o) := by
  have h9 := hL.2.1
  obtain ⟨v, hv⟩ := Am_ex (fun b => Gn L r rule (L (175 + 81 * r) - 1 - k - 1) k o b m) (-L 9) (2 * L 9 + 1).toNat
  rw [show -L 9 + ((2 * L 9 + 1).toNat : Int) - 1 = L 9 by omega] at hv
  rw [← chv_eq k1 hv]
  exact hv
theorem chv_b {L : Int → Int} {r rule k m o : Int} (hL : GW L) : -3 ≤ chv L r rule k m o ∧ chv L r rule k m o ≤ 4 := by
  have h9 := hL.2.1
  by_cases c : k + 1 < L (175 + 81 * r)
  · rcases chv_Am (rule := rule) (m := m) (o := o) hL c with z | z
    · have := z.1
      omega
    · have := z.1
      have := z.2.1
      omega
  · unfold chv
    rw [cif_f c]
    omega
/-- offsets and sums, place by place -/
noncomputable def cz (L : Int → Int) (r rule o0 : Int) : Nat → Int × Int
  | 0 => (o0, o0)
  | n + 1 => (chv L r rule n (cz L r rule o0 n).2 (cz L r rule o0 n).1, (cz L r rule o0 n).2 + chv L r rule n (cz L r rule o0 n).2 (cz L r rule o0 n).1)
noncomputable def czo (L : Int → Int) (r rule o0 k : Int) : Int := (cz L r rule o0 k.toNat).1
noncomputable def czs (L : Int → Int) (r rule o0 k : Int) : Int := (cz L r rule o0 k.toNat).2
theorem czo_s {L : Int → Int} {r rule o0 k : Int} (k0 : 0 ≤ k) : czo L r rule o0 (k + 1) = chv L r rule k (czs L r rule o0 k) (czo L r rule o0 k) ∧ czs L r rule o0 (k + 1) = czs L r rule o0 k + czo L r rule o0 (k + 1) := by
  obtain ⟨n, rfl⟩ : ∃ n : Nat, k = n := ⟨k.toNat, by omega⟩
  unfold czo czs
  rw [show ((n : Int) + 1).toNat = n + 1 by omega, Int.toNat_natCast]
  exact ⟨rfl, rfl⟩
def CzP (L : Int → Int) (r rule o0 k : Int) : Prop := (-L 9 ≤ czo L r rule o0 k ∧ czo L r rule o0 k ≤ L 9) ∧ (-bdF L r k ≤ czs L r rule o0 k ∧ czs L r rule o0 k ≤ bdF L r k) ∧ Cv L r rule k (czo L r rule o0 k) (czs L r rule o0 k) < 1000000000
theorem cz_P {L : Int → Int} {r rule o0 : Int} (hL : GW L) (h1 : 2 ≤ L (175 + 81 * r)) (h2 : L (175 + 81 * r) ≤ 40) (hG : Gt L r rule < 1000000000) (hA : Am (Gr L r rule) (-L 9) (L 9) o0) : ∀ n : Nat, (n : Int) < L (175 + 81 * r) → CzP L r rule o0 n
  | 0, _ => by
    have hb := bd_0 (r := r) hL h1 h2
    have h9 := hL.2.1
    have a := Am_gm (d := L 9) (by omega) hA
    have a' : o0 ≠ 4 := fun e => by
      rcases a with z | z
      · have : Gt L r rule = 1000000000 := z.2
        omega
      · exact z.1 e
    obtain ⟨z1, z2, z3, -, -⟩ := hA.resolve_left (fun z => a' z.1)
    refine ⟨⟨z1, z2⟩, ?_, ?_⟩
    · show -bdF L r 0 ≤ o0 ∧ o0 ≤ bdF L r 0
      omega
    · show Cv L r rule 0 o0 o0 < 1000000000
      rw [Gr_Cv]
      exact z3
  | n + 1, hn => by
    obtain ⟨p1, p2, p3⟩ := cz_P hL h1 h2 hG hA n (by omega)
    have k1 : (n : Int) + 1 < L (175 + 81 * r) := by omega
    have s := czo_s (L := L) (r := r) (rule := rule) (o0 := o0) (k := (n : Int)) (by omega)
    have am := chv_Am (rule := rule) (m := czs L r rule o0 n) (o := czo L r rule o0 n) hL k1
    rw [← s.1] at am
    have cs := (Cv_s hL k1 am).resolve_left (fun z => by have := z.2; omega)
    have ci := Cv_in hL h2 (by omega) k1 p2 ⟨cs.2.1, cs.2.2.1⟩ cs.2.2.2.2.1
    have e : ((n + 1 : Nat) : Int) = (n : Int) + 1 := by omega
    unfold CzP
    rw [e, s.2]
    exact ⟨⟨cs.2.1, cs.2.2.1⟩, ci, cs.2.2.2.2.1⟩
/-- a land whose road has other offsets, n places of it -/
def stO (L : Int → Int) (r : Int) (f : Int → Int) (n : Int) : Int → Int := fun x => if 216 + 81 * r ≤ x ∧ x < 216 + 81 * r + n then f (x - (216 + 81 * r)) else L x
theorem stO_s {L : Int → Int} {r : Int} {f : Int → Int} {n : Int} (h : 0 ≤ n) : up (stO L r f n) (216 + 81 * r + n) (f n) = stO L r f (n + 1) := by
  funext x
  unfold up stO
  by_cases e : x = 216 + 81 * r + n
  · rw [if_pos e, if_pos (by omega), e, show 216 + 81 * r + n - (216 + 81 * r) = n by omega]
  · rw [if_neg e]
    by_cases c : 216 + 81 * r ≤ x ∧ x < 216 + 81 * r + n
    · rw [if_pos c, if_pos (by omega)]
    · rw [if_neg c, if_neg (by omega)]
theorem stO_0 {L : Int → Int} {r : Int} {f : Int → Int} : stO L r f 0 = L := by
  funext x
  unfold stO
  rw [if_neg (by omega)]
theorem t_G_settle {K : zS → Prop} {σ : zS} {L : Int → Int} {r rule o0 : Int} (hL : GW L) (hr : 0 ≤ r ∧ r < 4) (h1 : 2 ≤ L (175 + 81 * r)) (h2 : L (175 + 81 * r) ≤ 40) (h4 : σ 4 = L) (h37 : W37 L r rule 0 σ) (h3 : σ 35 3 = o0) (hG : Gt L r rule < 1000000000) (hA : Am (Gr L r rule) (-L 9) (L 9) o0) (h : ∀ τ, zQ [4] σ τ → τ 4 = stO L r (czo L r rule o0) (L (175 + 81 * r)) → K τ) : q_G_settle r K σ := by
  have h9 := hL.2.1
  have hP : ∀ k, 0 ≤ k → k < L (175 + 81 * r) → CzP L r rule o0 k := fun k k0 k1 => by
    have := cz_P hL h1 h2 hG hA k.toNat (by omega)
    rw [Int.toNat_of_nonneg k0] at this
    exact this
  unfold q_G_settle q_L_roadSize q_L_setRoadOffset q_G_choiceShift
  rw [h3]
  intro x2 e2
  refine ⟨fun o sum k s => zQ [4] σ s ∧ s 4 = stO L r (czo L r rule o0) k ∧ 0 ≤ k ∧ k ≤ L (175 + 81 * r) ∧ (k < L (175 + 81 * r) → o = czo L r rule o0 k ∧ sum = czs L r rule o0 k - o), fun _ _ k _ => (40 - k).toNat, ⟨zQ_r _ _, by rw [h4, stO_0], by decide, by omega, fun _ => ⟨e2, by rw [e2]; show 0 = o0 - o0; omega⟩⟩, ?_⟩
  rintro o sum k s ⟨hq, s4, k0, k1, hI⟩ - - -
  have eN : s 4 (175 + r * 81) = L (175 + 81 * r) := by
    rw [s4, show 175 + r * 81 = 175 + 81 * r by omega]
    unfold stO
    rw [if_neg (by omega)]
  refine ⟨by omega, ?_⟩
  dsimp only
  rw [eN]
  refine ⟨fun e => h s hq (by rw [s4, show k = L (175 + 81 * r) by omega]), fun e => ⟨by omega, fun s10 e10 x11 e11 => ?_⟩⟩
  obtain ⟨eo, es⟩ := hI e
  have p := hP k k0 e
  have bb := bd_b hL (r := r) (k := k) h2 k0 e
  have e11' : x11 = czs L r rule o0 k := by omega
  have p1 := p.1
  have p2 := p.2.1
  rw [← eo] at p1
  rw [← e11'] at p2
  refine ⟨by omega, zRi (by omega) (by omega), fun x16 e16 => ?_⟩
  have e37 : s10 37 (k * 151 + x11 + 75) = pk (chv L r rule k x11) (-L 9) (2 * L 9 + 1).toNat := by
    rw [e10, zU_row (by decide), hq 37 (by decide)]
    exact h37 k x11 (by omega) e p2.1 p2.2
  rw [e37, pk_rd (by omega) (fun _ _ _ => chv_b hL) p1] at e16
  have cb := chv_b (r := r) (rule := rule) (k := k) (m := x11) (o := o) hL
  have st := czo_s (L := L) (r := r) (rule := rule) (o0 := o0) k0
  rw [← e11', ← eo, ← e16] at st
  refine ⟨⟨by rw [e10]; exact zQ_t hq (zQ_U (by decide)), ?_, by omega, by omega, fun _ => ⟨st.1.symm, by omega⟩⟩, zRi (by omega) (by omega), zRi (by omega) (by omega), zRi (by omega) (by omega), by omega⟩
  rw [e10, zU_up, s4, eo, show 175 + r * 81 + 1 + 40 + k = 216 + 81 * r + k by omega]
  exact stO_s k0

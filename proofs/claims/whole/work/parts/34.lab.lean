/-! ===== labels: what is least over edges with positive weights ===== -/
/-- d is closed under the base values and the edges -/
def LCl (INF : Int) (B : Int → Int → Prop) (E : Int → Int → Int → Prop) (d : Int → Int) : Prop :=
  (∀ v b, B v b → d v ≤ b) ∧ (∀ v u w, E v u w → d u < INF → d v ≤ d u + w)
/-- each finite d rests on a base value or on an edge from a finite one -/
def LSp (INF : Int) (V : Int → Prop) (B : Int → Int → Prop) (E : Int → Int → Int → Prop) (d : Int → Int) : Prop :=
  ∀ v, V v → d v < INF → B v (d v) ∨ ∃ u w, V u ∧ E v u w ∧ d u < INF ∧ d u + w ≤ d v
def Lab (INF : Int) (V : Int → Prop) (B : Int → Int → Prop) (E : Int → Int → Int → Prop) (d : Int → Int) : Prop :=
  LCl INF B E d ∧ LSp INF V B E d ∧ (∀ v, V v → 0 ≤ d v ∧ d v ≤ INF)
theorem lab_le {INF : Int} {V : Int → Prop} {B : Int → Int → Prop} {E : Int → Int → Int → Prop} {d e : Int → Int} (hE : ∀ v u w, E v u w → 1 ≤ w) (hd : LCl INF B E d) (he : LSp INF V B E e) (h0 : ∀ v, V v → 0 ≤ e v) : ∀ v, V v → e v < INF → d v ≤ e v := by
  have key : ∀ n : Nat, ∀ v, V v → e v < INF → (e v).toNat < n → d v ≤ e v := by
    intro n
    induction n with
    | zero => intro v _ _ h; exact absurd h (Nat.not_lt_zero _)
    | succ n ih =>
      intro v hv hf hn
      rcases he v hv hf with hb | ⟨u, w, hu, hw, hfu, hle⟩
      · exact hd.1 v _ hb
      · have h1 := hE v u w hw
        have h2 := h0 u hu
        have h3 := ih u hu hfu (by omega)
        have h4 := hd.2 v u w hw (by omega)
        omega
  intro v hv hf
  exact key _ v hv hf (Nat.lt_succ_self _)
theorem lab_eq {INF : Int} {V : Int → Prop} {B : Int → Int → Prop} {E : Int → Int → Int → Prop} {d e : Int → Int} (hE : ∀ v u w, E v u w → 1 ≤ w) (hd : Lab INF V B E d) (he : Lab INF V B E e) : ∀ v, V v → d v = e v := by
  intro v hv
  have h1 := lab_le hE hd.1 he.2.1 (fun u hu => (he.2.2 u hu).1) v hv
  have h2 := lab_le hE he.1 hd.2.1 (fun u hu => (hd.2.2 u hu).1) v hv
  have h3 := hd.2.2 v hv
  have h4 := he.2.2 v hv
  by_cases c : e v < INF
  · have := h1 c
    have := h2 (by omega)
    omega
  · by_cases c2 : d v < INF
    · have := h2 c2
      omega
    · omega
/-- one value is another one -/
def up (d : Int → Int) (v x : Int) : Int → Int := fun i => if i = v then x else d i
theorem up_s (d : Int → Int) (v x : Int) : up d v x v = x := by
  unfold up
  exact if_pos rfl
theorem up_o {d : Int → Int} {v x i : Int} (h : i ≠ v) : up d v x i = d i := by
  unfold up
  exact if_neg h
theorem zU_up (σ : zS) (o : Nat) (k v : Int) : zU σ o k v o = up (σ o) k v := by
  funext b
  rw [zU_if]
  rfl
/-- what stays true while labels are made less, edge by edge -/
def RI (N : Nat) (INF M : Int) (B : Int → Int → Prop) (E : Int → Int → Int → Prop) (d : Int → Int) : Prop :=
  (∀ v : Int, 0 ≤ v → v < N → 0 ≤ d v ∧ d v ≤ INF ∧ (d v < INF → d v ≤ M * cnt (fun i => decide (d (i : Nat) < INF)) N)) ∧
  LSp INF (fun v : Int => 0 ≤ v ∧ v < N) B E d ∧
  (∀ v b, B v b → d v ≤ b)
theorem cnt_up {N : Nat} {INF : Int} {d : Int → Int} {v x : Int} (hv0 : 0 ≤ v) (hv : v < N) (hx : x < INF) :
    cnt (fun i => decide (d (i : Nat) < INF)) N + (if d v < INF then 0 else 1) ≤ cnt (fun i => decide (up d v x (i : Nat) < INF)) N := by
  have hm : ∀ i : Nat, i < N → decide (d (i : Nat) < INF) = true → decide (up d v x (i : Nat) < INF) = true := by
    intro i _ h
    simp only [decide_eq_true_eq] at h ⊢
    by_cases e : (i : Int) = v
    · rw [e, up_s]; exact hx
    · rw [up_o e]; exact h
  by_cases c : d v < INF
  · rw [if_pos c]
    exact cnt_mono N hm
  · rw [if_neg c]
    have e : ((v.toNat : Nat) : Int) = v := Int.toNat_of_nonneg hv0
    refine cnt_lt (j := v.toNat) N (by omega) hm ?_ ?_
    · simp only [e]
      exact decide_eq_false c
    · simp only [e, up_s]
      exact decide_eq_true hx
theorem RI_up {N : Nat} {INF M : Int} {B : Int → Int → Prop} {E : Int → Int → Int → Prop} {d : Int → Int} {v u w : Int} (h : RI N INF M B E d) (hv0 : 0 ≤ v) (hv : v < N) (hu0 : 0 ≤ u) (hu : u < N) (hE : E v u w) (hw0 : 0 ≤ w) (hw : w ≤ M) (hf : d u < INF) (hl : d u + w < d v) : RI N INF M B E (up d v (d u + w)) := by
  obtain ⟨h1, h2, h3⟩ := h
  have hne : u ≠ v := by
    intro e
    rw [e] at hl
    omega
  have hx : d u + w < INF := by have := (h1 v hv0 hv).2.1; omega
  have hc := cnt_up (d := d) hv0 hv hx
  have hM : 0 ≤ M := by omega
  generalize hcd : cnt (fun i => decide (d (i : Nat) < INF)) N = c at *
  generalize hce : cnt (fun i => decide (up d v (d u + w) (i : Nat) < INF)) N = c' at *
  have hmono : M * (c : Int) ≤ M * (c' : Int) := Int.mul_le_mul_of_nonneg_left (by split at hc <;> omega) hM
  refine ⟨fun x hx0 hxN => ?_, fun x hxV hxf => ?_, fun x b hb => ?_⟩
  · rw [hce]
    by_cases e : x = v
    · subst e
      rw [up_s]
      have a1 := h1 x hx0 hxN
      have a2 := h1 u hu0 hu
      refine ⟨by omega, by omega, fun _ => ?_⟩
      by_cases cf : d x < INF
      · have := a1.2.2 cf
        omega
      · rw [if_neg cf] at hc
        have a3 := a2.2.2 hf
        have a4 : M * ((c : Int) + 1) ≤ M * (c' : Int) := Int.mul_le_mul_of_nonneg_left (by omega) hM
        rw [Int.mul_add] at a4
        omega
    · rw [up_o e]
      have a1 := h1 x hx0 hxN
      exact ⟨a1.1, a1.2.1, fun q => Int.le_trans (a1.2.2 q) hmono⟩
  · by_cases e : x = v
    · subst e
      rw [up_s]
      exact Or.inr ⟨u, w, ⟨hu0, hu⟩, hE, by rw [up_o hne]; exact hf, by rw [up_o hne]; omega⟩
    · rw [up_o e] at hxf ⊢
      rcases h2 x hxV hxf with q | ⟨u', w', q0, q1, q2, q3⟩
      · exact Or.inl q
      · refine Or.inr ⟨u', w', q0, q1, ?_, ?_⟩
        · by_cases e2 : u' = v
          · rw [e2, up_s]; exact hx
          · rw [up_o e2]; exact q2
        · by_cases e2 : u' = v
          · rw [e2, up_s]
            rw [e2] at q3
            omega
          · rw [up_o e2]; exact q3
  · by_cases e : x = v
    · subst e
      rw [up_s]
      have := h3 x b hb
      omega
    · rw [up_o e]
      exact h3 x b hb
/-- the labels' sum, that falls -/
def sgm (N : Nat) (d : Int → Int) : Nat := smN (fun i => (d (i : Nat)).toNat) N
theorem sgm_up {N : Nat} {d : Int → Int} {v x : Int} (hv0 : 0 ≤ v) (hv : v < N) (hx0 : 0 ≤ x) (hx : x < d v) : sgm N (up d v x) < sgm N d := by
  have e : ((v.toNat : Nat) : Int) = v := Int.toNat_of_nonneg hv0
  refine smN_lt (j := v.toNat) N (by omega) (fun i _ => ?_) ?_
  · by_cases q : (i : Int) = v
    · rw [q, up_s]; omega
    · rw [up_o q]; exact Nat.le_refl _
  · simp only [e, up_s]
    omega
theorem cnt_bd {N : Nat} {M : Int} (hM : 0 ≤ M) (P : Nat → Bool) : M * (cnt P N : Int) ≤ M * N := Int.mul_le_mul_of_nonneg_left (by have := cnt_le P N; omega) hM
theorem RI_lab {N : Nat} {INF M : Int} {B : Int → Int → Prop} {E : Int → Int → Int → Prop} {d : Int → Int} (h : RI N INF M B E d) (hc : ∀ v u w, E v u w → d u < INF → d v ≤ d u + w) : Lab INF (fun v : Int => 0 ≤ v ∧ v < N) B E d :=
  ⟨⟨h.2.2, hc⟩, h.2.1, fun v hv => ⟨(h.1 v hv.1 hv.2).1, (h.1 v hv.1 hv.2).2.1⟩⟩

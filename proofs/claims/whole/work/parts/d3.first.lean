/-! ===== the world as the constructors leave it ===== -/
def zF0 : zS := kS_M_init (kS_R_init (fun _ _ => 0))
def zL0 : Int → Int := zCpy (zSV 2) (fun _ => 0) 0 2 11
theorem f0_4 : zF0 4 = zL0 := by
  funext j
  simp [zF0, zL0, kS_M_init, kS_R_init, kS_U_init, kS_G_init, kS_N_init, kS_W_init, kS_H_init, kS_S_init, kS_P_init, kS_X_init, kS_L_init, kS_T_init, zU, zW, zFill]
  rw [zU_row (by decide)]
theorem f0_R {o : Nat} (h : 41 ≤ o) (j : Int) : kS_R_init (fun _ _ => 0) o j = 0 := kz_R_init (m := 41) (by omega) (fun _ _ _ => rfl) o j h
theorem f0_42 : zF0 42 = zL0 := by
  funext j
  by_cases h : 2 ≤ j ∧ j < 13
  · rcases (show j = 2 ∨ j = 3 ∨ j = 4 ∨ j = 5 ∨ j = 6 ∨ j = 7 ∨ j = 8 ∨ j = 9 ∨ j = 10 ∨ j = 11 ∨ j = 12 by omega) with rfl | rfl | rfl | rfl | rfl | rfl | rfl | rfl | rfl | rfl | rfl <;> decide +kernel
  · have h2 : zL0 j = 0 := by
      unfold zL0 zCpy
      rw [if_neg (by omega)]
    have n2 : ∀ k : Int, 0 ≤ k → k ≤ 10 → j ≠ 2 + k := by omega
    rw [h2]
    unfold zF0 kS_M_init
    rw [zU_k (n2 10 (by decide) (by decide)), zU_k (n2 9 (by decide) (by decide)), zU_k (n2 8 (by decide) (by decide)), zU_k (n2 7 (by decide) (by decide)), zU_k (n2 6 (by decide) (by decide)), zU_k (n2 5 (by decide) (by decide)), zU_k (n2 4 (by decide) (by decide)), zU_k (n2 3 (by decide) (by decide)), zU_k (n2 2 (by decide) (by decide)), zU_k (n2 1 (by decide) (by decide)), zU_k (n2 0 (by decide) (by decide))]
    simp [zU, f0_R]
theorem f0_z {o : Nat} (ho : o = 2 ∨ o = 49 ∨ o = 1 ∨ o = 9) (j : Int) : zF0 o j = 0 := by
  rcases ho with rfl | rfl | rfl | rfl
  · simp [zF0, kS_M_init, kS_R_init, kS_U_init, kS_G_init, kS_N_init, kS_W_init, kS_H_init, kS_S_init, kS_P_init, kS_X_init, kS_L_init, kS_T_init, zU, zW, zFill]
  · simp [zF0, kS_M_init, zU, f0_R]
  · simp [zF0, kS_M_init, kS_R_init, kS_U_init, kS_G_init, kS_N_init, kS_W_init, kS_H_init, kS_S_init, kS_P_init, kS_X_init, kS_L_init, kS_T_init, zU, zW, zFill]
  · simp [zF0, kS_M_init, kS_R_init, kS_U_init, kS_G_init, kS_N_init, kS_W_init, kS_H_init, kS_S_init, kS_P_init, kS_X_init, kS_L_init, kS_T_init, zU, zW, zFill]
theorem f0_at : zF0 41 28 = -1 ∧ zF0 41 29 = -1 ∧ zF0 41 14 = -1 ∧ zF0 41 3 = 0 ∧ zF0 41 5 = 0 ∧ zF0 41 11 = 0 ∧ zF0 0 10 = 0 ∧ zF0 0 11 = -1 := by decide +kernel
theorem f0_g : ∀ g : Fin 8, zF0 47 (g.1 : Nat) = dR (g.1 : Nat) ∧ zF0 48 (g.1 : Nat) = dC (g.1 : Nat) := by decide +kernel
theorem f0_s : ∀ g : Fin 11, zF0 45 (g.1 : Nat) = zSV 2 (g.1 : Nat) ∧ zF0 46 (g.1 : Nat) = zSV 1 (g.1 : Nat) := by decide +kernel
theorem zL0_00 : zL0 0 = 0 ∧ zL0 1 = 0 := by decide +kernel
theorem zL0_LW : LW zL0 := by
  refine Or.inr ⟨zL0_00.1, zL0_00.2, ?_, fun r h0 h1 => ?_⟩
  · unfold TW
    decide +kernel
  · unfold zL0 zCpy
    rw [if_neg (by omega)]
theorem INV_0 : INV zF0 := by
  obtain ⟨a1, a2, a3, a4, a5, a6, a7, a8⟩ := f0_at
  refine ⟨zL0, ⟨f0_4, fun p g hp _ _ => ?_⟩, ⟨f0_42, fun g h0 h1 => ?_, a1, a2⟩, zL0_LW, ⟨?_, ?_, fun i _ _ => ?_⟩, ⟨?_, ?_, ?_, fun i h0 h1 => ?_⟩, ⟨?_, ?_, fun h => ?_⟩, ?_, fun k h0 h1 => ?_⟩
  · unfold inP at hp
    rw [zL0_00.1] at hp
    omega
  · have := f0_g ⟨g.toNat, by omega⟩
    rw [show ((g.toNat : Nat) : Int) = g by omega] at this
    exact this
  · rw [f0_z (by simp), a6]
  · rw [f0_z (by simp)]; omega
  · rw [f0_z (by simp), f0_z (by simp)]; omega
  · rw [f0_z (by simp), a4]
  · rw [f0_z (by simp)]; omega
  · rw [f0_z (by simp)]; omega
  · rw [f0_z (by simp)] at h1
    omega
  · rw [a7, a5]
  · exact Or.inl a7
  · exact absurd a7 h
  · rw [a8, a3]
  · have := f0_s ⟨k.toNat, by omega⟩
    rw [show ((k.toNat : Nat) : Int) = k by omega] at this
    exact this

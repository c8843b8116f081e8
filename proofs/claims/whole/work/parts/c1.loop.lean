/-! ===== one round of the loop, and the loop ===== -/
set_option maxRecDepth 20000 in
theorem c_A_body {Ω : zO} {Γ : zM} {k n : Nat} {Q : State → Prop} {ad : Nat → Nat} {σ : zS} {b L : Nat} {xs : Nat → Int32} {i : Int} (cx : zC Ω Γ c_A_law 7 "GentleRoadLaw") (sc : zScr Ω Γ b L xs) (hi : 0 ≤ i ∧ i + 6 ≤ L) (inv : INV σ) (hk : k + 24 ≤ room_1.cells) (hn : n + 216 ≤ room_1.slots) (nx : ∀ σ', INV σ' → zV Ω Γ room_1 7 Q (k + 24) (n + 216) zLy ad σ' 2235 [(0, .ref b), (1, .ref (ad 0)), (2, .ref (ad 41)), (3, .ref (ad 64)), (4, .int (zI i))] []) : zV Ω Γ room_1 7 Q k n zLy ad σ 33 [(0, .ref b), (1, .ref (ad 0)), (2, .ref (ad 41)), (3, .ref (ad 64)), (4, .int (zI i))] [] := by
  have hL : L ≤ 3072 := sc.2.2.2
  refine v_aload_n cx 0 d_A_law_33 rfl rfl ?_
  refine v_iload cx 4 d_A_law_34 rfl ?_
  refine v_sld cx sc (by omega) (by omega) d_A_law_36 ?_
  refine v_bipush cx (by decide) d_A_law_37 ?_
  refine v_iand cx d_A_law_39 ?_
  have hz := zAnd_63 (zx xs i)
  generalize zAnd (zx xs i) 63 = y at *
  by_cases h32 : 32 < y
  · refine v_tabOut cx 2235 ⟨by omega, by omega⟩ d_A_law_40 (Or.inr h32) (by decide) ?_
    exact v_widen (Nat.le_add_right _ _) (Nat.le_add_right _ _) (nx _ inv)
  · have : y = 0 ∨ y = 1 ∨ y = 2 ∨ y = 3 ∨ y = 4 ∨ y = 5 ∨ y = 6 ∨ y = 7 ∨ y = 8 ∨ y = 9 ∨ y = 10 ∨ y = 11 ∨ y = 12 ∨ y = 13 ∨ y = 14 ∨ y = 15 ∨ y = 16 ∨ y = 17 ∨ y = 18 ∨ y = 19 ∨ y = 20 ∨ y = 21 ∨ y = 22 ∨ y = 23 ∨ y = 24 ∨ y = 25 ∨ y = 26 ∨ y = 27 ∨ y = 28 ∨ y = 29 ∨ y = 30 ∨ y = 31 ∨ y = 32 := by omega
    rcases this with rfl | rfl | rfl | rfl | rfl | rfl | rfl | rfl | rfl | rfl | rfl | rfl | rfl | rfl | rfl | rfl | rfl | rfl | rfl | rfl | rfl | rfl | rfl | rfl | rfl | rfl | rfl | rfl | rfl | rfl | rfl | rfl | rfl
    · exact v_tabIn cx 188 ⟨by decide, by decide⟩ d_A_law_40 (by decide) (by decide) rfl (by decide) (c_A_0 cx sc hi inv hk hn nx)
    · exact v_tabIn cx 261 ⟨by decide, by decide⟩ d_A_law_40 (by decide) (by decide) rfl (by decide) (c_A_1 cx sc hi inv hk hn nx)
    · exact v_tabIn cx 286 ⟨by decide, by decide⟩ d_A_law_40 (by decide) (by decide) rfl (by decide) (c_A_2 cx sc hi inv hk hn nx)
    · exact v_tabIn cx 330 ⟨by decide, by decide⟩ d_A_law_40 (by decide) (by decide) rfl (by decide) (c_A_3 cx sc hi inv hk hn nx)
    · exact v_tabIn cx 343 ⟨by decide, by decide⟩ d_A_law_40 (by decide) (by decide) rfl (by decide) (c_A_4 cx sc hi inv hk hn nx)
    · exact v_tabIn cx 411 ⟨by decide, by decide⟩ d_A_law_40 (by decide) (by decide) rfl (by decide) (c_A_5 cx sc hi inv hk hn nx)
    · exact v_tabIn cx 467 ⟨by decide, by decide⟩ d_A_law_40 (by decide) (by decide) rfl (by decide) (c_A_6 cx sc hi inv hk hn nx)
    · exact v_tabIn cx 535 ⟨by decide, by decide⟩ d_A_law_40 (by decide) (by decide) rfl (by decide) (c_A_7 cx sc hi inv hk hn nx)
    · exact v_tabIn cx 603 ⟨by decide, by decide⟩ d_A_law_40 (by decide) (by decide) rfl (by decide) (c_A_8 cx sc hi inv hk hn nx)
    · exact v_tabIn cx 694 ⟨by decide, by decide⟩ d_A_law_40 (by decide) (by decide) rfl (by decide) (c_A_9 cx sc hi inv hk hn nx)
    · exact v_tabIn cx 774 ⟨by decide, by decide⟩ d_A_law_40 (by decide) (by decide) rfl (by decide) (c_A_10 cx sc hi inv hk hn nx)
    · exact v_tabIn cx 830 ⟨by decide, by decide⟩ d_A_law_40 (by decide) (by decide) rfl (by decide) (c_A_11 cx sc hi inv hk hn nx)
    · exact v_tabIn cx 898 ⟨by decide, by decide⟩ d_A_law_40 (by decide) (by decide) rfl (by decide) (c_A_12 cx sc hi inv hk hn nx)
    · exact v_tabIn cx 942 ⟨by decide, by decide⟩ d_A_law_40 (by decide) (by decide) rfl (by decide) (c_A_13 cx sc hi inv hk hn nx)
    · exact v_tabIn cx 1022 ⟨by decide, by decide⟩ d_A_law_40 (by decide) (by decide) rfl (by decide) (c_A_14 cx sc hi inv hk hn nx)
    · exact v_tabIn cx 1114 ⟨by decide, by decide⟩ d_A_law_40 (by decide) (by decide) rfl (by decide) (c_A_15 cx sc hi inv hk hn nx)
    · exact v_tabIn cx 1170 ⟨by decide, by decide⟩ d_A_law_40 (by decide) (by decide) rfl (by decide) (c_A_16 cx sc hi inv hk hn nx)
    · exact v_tabIn cx 1238 ⟨by decide, by decide⟩ d_A_law_40 (by decide) (by decide) rfl (by decide) (c_A_17 cx sc hi inv hk hn nx)
    · exact v_tabIn cx 1306 ⟨by decide, by decide⟩ d_A_law_40 (by decide) (by decide) rfl (by decide) (c_A_18 cx sc hi inv hk hn nx)
    · exact v_tabIn cx 1386 ⟨by decide, by decide⟩ d_A_law_40 (by decide) (by decide) rfl (by decide) (c_A_19 cx sc hi inv hk hn nx)
    · exact v_tabIn cx 1478 ⟨by decide, by decide⟩ d_A_law_40 (by decide) (by decide) rfl (by decide) (c_A_20 cx sc hi inv hk hn nx)
    · exact v_tabIn cx 1522 ⟨by decide, by decide⟩ d_A_law_40 (by decide) (by decide) rfl (by decide) (c_A_21 cx sc hi inv hk hn nx)
    · exact v_tabIn cx 1590 ⟨by decide, by decide⟩ d_A_law_40 (by decide) (by decide) rfl (by decide) (c_A_22 cx sc hi inv hk hn nx)
    · exact v_tabIn cx 1686 ⟨by decide, by decide⟩ d_A_law_40 (by decide) (by decide) rfl (by decide) (c_A_23 cx sc hi inv hk hn nx)
    · exact v_tabIn cx 1754 ⟨by decide, by decide⟩ d_A_law_40 (by decide) (by decide) rfl (by decide) (c_A_24 cx sc hi inv hk hn nx)
    · exact v_tabIn cx 1822 ⟨by decide, by decide⟩ d_A_law_40 (by decide) (by decide) rfl (by decide) (c_A_25 cx sc hi inv hk hn nx)
    · exact v_tabIn cx 1890 ⟨by decide, by decide⟩ d_A_law_40 (by decide) (by decide) rfl (by decide) (c_A_26 cx sc hi inv hk hn nx)
    · exact v_tabIn cx 1970 ⟨by decide, by decide⟩ d_A_law_40 (by decide) (by decide) rfl (by decide) (c_A_27 cx sc hi inv hk hn nx)
    · exact v_tabIn cx 2050 ⟨by decide, by decide⟩ d_A_law_40 (by decide) (by decide) rfl (by decide) (c_A_28 cx sc hi inv hk hn nx)
    · exact v_tabIn cx 2118 ⟨by decide, by decide⟩ d_A_law_40 (by decide) (by decide) rfl (by decide) (c_A_29 cx sc hi inv hk hn nx)
    · exact v_tabIn cx 2186 ⟨by decide, by decide⟩ d_A_law_40 (by decide) (by decide) rfl (by decide) (c_A_30 cx sc hi inv hk hn nx)
    · exact v_tabIn cx 2197 ⟨by decide, by decide⟩ d_A_law_40 (by decide) (by decide) rfl (by decide) (c_A_31 cx sc hi inv hk hn nx)
    · exact v_tabIn cx 2210 ⟨by decide, by decide⟩ d_A_law_40 (by decide) (by decide) rfl (by decide) (c_A_32 cx sc hi inv hk hn nx)
theorem c_A_loop {Ω : zO} {Γ : zM} {Q : State → Prop} {ad : Nat → Nat} {b L : Nat} {xs : Nat → Int32} {k0 n0 : Nat} (cx : zC Ω Γ c_A_law 7 "GentleRoadLaw") (sc : zScr Ω Γ b L xs) (hk : k0 + 12312 ≤ room_1.cells) (hn : n0 + 110808 ≤ room_1.slots) (fin : ∀ (σ : zS) (i : Int) (k n : Nat), k ≤ room_1.cells → n ≤ room_1.slots → zV Ω Γ room_1 7 Q k n zLy ad σ 2241 [(0, .ref b), (1, .ref (ad 0)), (2, .ref (ad 41)), (3, .ref (ad 64)), (4, .int (zI i))] []) : ∀ (d : Nat) (i : Int) (σ : zS), 0 ≤ i → i ≤ L → ((L : Int) - i).toNat ≤ d → INV σ → zV Ω Γ room_1 7 Q (k0 + 4 * i.toNat) (n0 + 36 * i.toNat) zLy ad σ 23 [(0, .ref b), (1, .ref (ad 0)), (2, .ref (ad 41)), (3, .ref (ad 64)), (4, .int (zI i))] [] := by
  have hL : L ≤ 3072 := sc.2.2.2
  intro d
  induction d with
  | zero =>
    intro i σ i0 i1 hd inv
    refine v_iload cx 4 d_A_law_23 rfl ?_
    refine v_aload_n cx 0 d_A_law_25 rfl rfl ?_
    refine v_scrlen cx sc d_A_law_26 ?_
    refine v_bipush cx (by decide) d_A_law_27 ?_
    refine v_isub cx d_A_law_29 ?_
    refine v_icmp_gt cx 2241 d_A_law_30 (by decide) ⟨by omega, by omega⟩ ⟨by omega, by omega⟩ (fun _ => fin σ i _ _ (by omega) (by omega)) (fun c => by omega)
  | succ d ih =>
    intro i σ i0 i1 hd inv
    refine v_iload cx 4 d_A_law_23 rfl ?_
    refine v_aload_n cx 0 d_A_law_25 rfl rfl ?_
    refine v_scrlen cx sc d_A_law_26 ?_
    refine v_bipush cx (by decide) d_A_law_27 ?_
    refine v_isub cx d_A_law_29 ?_
    refine v_icmp_gt cx 2241 d_A_law_30 (by decide) ⟨by omega, by omega⟩ ⟨by omega, by omega⟩ (fun _ => fin σ i _ _ (by omega) (by omega)) (fun c => ?_)
    refine c_A_body cx sc ⟨i0, by omega⟩ inv (by omega) (by omega) (fun σ' inv' => ?_)
    refine v_iinc (lv' := [(0, .ref b), (1, .ref (ad 0)), (2, .ref (ad 41)), (3, .ref (ad 64)), (4, .int (zI (i + 6)))]) cx 4 d_A_law_2235 rfl (by decide) rfl rfl ?_
    refine v_goto cx 23 d_A_law_2238 (by decide) ?_
    have r := ih (i + 6) σ' (by omega) (by omega) (by omega) inv'
    rw [show k0 + 4 * (i + 6).toNat = k0 + 4 * i.toNat + 24 by omega, show n0 + 36 * (i + 6).toNat = n0 + 36 * i.toNat + 216 by omega] at r
    exact r

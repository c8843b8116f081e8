/-! ===== land: class and reference agree ===== -/
theorem pr_land {σ : zS} (hi : INV σ) : q_R_land (fun r u => q_M_land (fun v w => Agr 0 v w) (zU u 64 0 r)) (fun E u => E = "java/lang/IllegalArgumentException" ∧ q_M_land (fun v w => Agr 1 v w) u) σ := by
  obtain ⟨L, hc, hm, hl, t1, t2, t3, t4, t5⟩ := id hi
  have e11 : σ 1 1 = σ 41 11 := t1.1
  have hN : 0 ≤ σ 41 11 ∧ σ 41 11 ≤ 400 := by have := t1.2.1; omega
  have h2 : ∀ i, 0 ≤ i → i < 400 → σ 2 i = σ 49 i := fun i i0 i1 => (t1.2.2 i i0 i1).1
  unfold q_R_land
  refine t_X_read (N := σ 41 11) h2 e11 hN (fun τ c q eS hlc h7 s3 e3 => ?_) (fun τ b q b0 eS s3 e3 => ?_)
  · -- a text that is right
    unfold q_T_cut
    refine ⟨fun z => absurd z (by decide), fun _ => ⟨fun _ s4 e4 => ?_, fun z => ?_⟩⟩
    · have v4 : s4 0 11 = -1 := by rw [e4, zU_o (by decide), e3, zU_s]
      refine ⟨fun _ => ?_, fun z => absurd v4 z⟩
      unfold q_X_told q_L_take_7
      refine ⟨by decide, by decide, fun s5 e5 => ?_⟩
      have q4 : ∀ o, o ∉ [0, 1, 6, 7, 8] → s4 o = σ o := fun o ho => by
        simp only [List.mem_cons, List.not_mem_nil, or_false, not_or] at ho
        rw [e4, zU_row ho.2.1, e3, zU_row ho.1, q o (by simp [ho])]
      have f4 : s5 4 = frm L c := by
        funext j
        rw [e5, zW_s, q4 4 (by decide), hc.1]
        unfold zCpy frm
        by_cases e : 0 ≤ j ∧ j < 499
        · rw [if_pos (by omega), if_pos e, show 0 + (j - 0) = j by omega, e4, zU_row (by decide), e3, zU_row (by decide)]
          exact h7 j e.1 e.2
        · rw [if_neg (by omega), if_neg e]
      have hl' := frm_LW (L := L) hlc
      refine t_L_layOut f4 (LW_dim hl') (fun τ6 q6 hc6 => ?_)
      unfold q_P_forget
      intro s7 e7
      have hc7 : CC (frm L c) s7 := by
        rw [e7]
        unfold CC
        rw [zU_row (by decide), zU_row (by decide)]
        exact hc6
      refine t_L_places hc7 hl'.n ?_
      have qq : ∀ o, o ∉ [0, 1, 4, 5, 6, 7, 8, 9, 64] → (zU s7 64 0 (frm L c 0 * frm L c 1)) o = σ o := fun o ho => by
        simp only [List.mem_cons, List.not_mem_nil, or_false, not_or] at ho
        rw [zU_row ho.2.2.2.2.2.2.2.2, e7, zU_row ho.2.2.2.2.2.2.2.1, q6 o (by simp [ho]), e5, zW_o ho.2.2.1, q4 o (by simp [ho])]
      have c0 : frm L c 0 = c 0 := if_pos (by decide)
      have c1 : frm L c 1 = c 1 := if_pos (by decide)
      show q_M_land (fun v w => Agr 0 v w) (zU s7 64 0 (frm L c 0 * frm L c 1))
      generalize eu : zU s7 64 0 (frm L c 0 * frm L c 1) = u at *
      have u41 : u 41 = σ 41 := qq 41 (by decide)
      have Su : SaO u := by
        unfold SaO
        rw [qq 45 (by decide), qq 46 (by decide)]
        exact t5
      refine t_M_land (t := σ 49) (N := σ 41 11) Su (qq 49 (by decide)) (by rw [u41]) hN (fun w c' qw eS' hlc' _ w0 w3 w11 w14 wf w42 => ?_) (fun w b qw eS' b0 => ?_)
      · have ec : c' = c := by
          rw [eS] at eS'
          exact (congrArg Prod.snd eS').symm
        rw [ec]
        rw [ec] at w42
        have wo : ∀ o, o ∉ [41, 42, 50] → w o = u o := fun o ho => qw o ho
        refine ⟨w0, fun _ => ?_, frm L c, ?_, ?_, hl', ?_, ?_, ?_, ?_, ?_⟩
        · rw [wo 64 (by decide), ← eu, zU_s, c0, c1]
        · unfold CC
          rw [wo 4 (by decide), wo 5 (by decide), ← eu, zU_row (by decide), zU_row (by decide)]
          exact hc7
        · refine ⟨?_, fun g g0 g1 => ?_, ?_, ?_⟩
          · rw [w42, qq 42 (by decide), hm.1]
          · rw [wo 47 (by decide), wo 48 (by decide), qq 47 (by decide), qq 48 (by decide)]; exact hm.2.1 g g0 g1
          · rw [wf 28 (by decide), u41]; exact hm.2.2.1
          · rw [wf 29 (by decide), u41]; exact hm.2.2.2
        · unfold TpO
          have v1 : w 1 1 = 0 := by
            rw [wo 1 (by decide), ← eu, zU_row (by decide), e7, zU_row (by decide), q6 1 (by decide), e5, zW_o (by decide), e4, zU_s]
          have v2 : w 2 = σ 2 := by rw [wo 2 (by decide), qq 2 (by decide)]
          have v49 : w 49 = σ 49 := by rw [wo 49 (by decide), qq 49 (by decide)]
          rw [v1, w11, v2, v49]
          exact ⟨rfl, by decide, t1.2.2⟩
        · unfold PsO
          have v92 : w 9 2 = 0 := by rw [wo 9 (by decide), ← eu, zU_row (by decide), e7, zU_s]
          have v91 : w 9 1 = σ 9 1 := by rw [wo 9 (by decide), ← eu, zU_row (by decide), e7, zU_k (by decide), q6 9 (by decide), e5, zW_o (by decide), q4 9 (by decide)]
          rw [v92, v91, w3]
          exact ⟨rfl, by decide, t2.2.2.1, fun i i0 i1 => by omega⟩
        · unfold ImO
          have v0 : w 0 10 = σ 0 10 := by rw [wo 0 (by decide), ← eu, zU_row (by decide), e7, zU_row (by decide), q6 0 (by decide), e5, zW_o (by decide), e4, zU_row (by decide), e3, zU_k (by decide), q 0 (by decide)]
          rw [v0, wo 40 (by decide), qq 40 (by decide), wo 44 (by decide), qq 44 (by decide), wf 5 (by decide), u41]
          exact t3
        · rw [w14, wo 0 (by decide), ← eu, zU_row (by decide), e7, zU_row (by decide), q6 0 (by decide), e5, zW_o (by decide)]
          exact v4
        · unfold SaO
          rw [wo 45 (by decide), wo 46 (by decide)]
          exact Su
      · exfalso
        rw [eS] at eS'
        have := congrArg Prod.fst eS'
        have h : (-1 : Int) = b := this
        omega
    · have v : s3 1 1 = σ 41 11 := by rw [e3, zU_o (by decide), q 1 (by decide)]; exact e11
      omega
  · -- a text that is wrong
    unfold q_T_cut
    refine ⟨fun z => absurd z (by decide), fun _ => ⟨fun _ s4 e4 => ?_, fun z => ?_⟩⟩
    · have v4 : s4 0 11 = b := by rw [e4, zU_o (by decide), e3, zU_s]
      refine ⟨fun z => by omega, fun _ => ⟨rfl, ?_⟩⟩
      have q4 : ∀ o, o ∉ [0, 1, 6, 7, 8] → s4 o = σ o := fun o ho => by
        simp only [List.mem_cons, List.not_mem_nil, or_false, not_or] at ho
        rw [e4, zU_row ho.2.1, e3, zU_row ho.1, q o (by simp [ho])]
      have u41 : s4 41 = σ 41 := q4 41 (by decide)
      have Su : SaO s4 := by
        unfold SaO
        rw [q4 45 (by decide), q4 46 (by decide)]
        exact t5
      refine t_M_land (t := σ 49) (N := σ 41 11) Su (q4 49 (by decide)) (by rw [u41]) hN (fun w c' qw eS' => ?_) (fun w b' qw eS' b0' w0 w11 w14 wf => ?_)
      · exfalso
        rw [eS] at eS'
        have := congrArg Prod.fst eS'
        have h : b = (-1 : Int) := this
        omega
      · have eb : b' = b := by
          rw [eS] at eS'
          exact (congrArg Prod.fst eS').symm
        refine ⟨w0, fun z => absurd z (by decide), L, ?_, ?_, hl, ?_, ?_, ?_, ?_, ?_⟩
        · unfold CC
          rw [qw 4 (by decide), qw 5 (by decide), q4 4 (by decide), q4 5 (by decide)]
          exact hc
        · refine ⟨?_, fun g g0 g1 => ?_, ?_, ?_⟩
          · rw [qw 42 (by decide), q4 42 (by decide)]; exact hm.1
          · rw [qw 47 (by decide), qw 48 (by decide), q4 47 (by decide), q4 48 (by decide)]; exact hm.2.1 g g0 g1
          · rw [wf 28 (by decide), u41]; exact hm.2.2.1
          · rw [wf 29 (by decide), u41]; exact hm.2.2.2
        · unfold TpO
          have v1 : w 1 1 = 0 := by rw [qw 1 (by decide), e4, zU_s]
          rw [v1, w11, qw 2 (by decide), qw 49 (by decide), q4 2 (by decide), q4 49 (by decide)]
          exact ⟨rfl, by decide, t1.2.2⟩
        · unfold PsO
          rw [qw 9 (by decide), qw 10 (by decide), qw 43 (by decide), q4 9 (by decide), q4 10 (by decide), q4 43 (by decide), wf 3 (by decide), u41]
          exact t2
        · unfold ImO
          have v0 : w 0 10 = σ 0 10 := by rw [qw 0 (by decide), e4, zU_row (by decide), e3, zU_k (by decide), q 0 (by decide)]
          rw [v0, qw 40 (by decide), q4 40 (by decide), qw 44 (by decide), q4 44 (by decide), wf 5 (by decide), u41]
          exact t3
        · rw [w14, qw 0 (by decide), eb]
          exact v4
        · unfold SaO
          rw [qw 45 (by decide), qw 46 (by decide)]
          exact Su
    · have v : s3 1 1 = σ 41 11 := by rw [e3, zU_o (by decide), q 1 (by decide)]; exact e11
      omega

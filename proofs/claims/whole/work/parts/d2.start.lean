/-! ===== what the start gives ===== -/
theorem zlen {args : Array Value} {s : State} {t : Term} {N : Nat} (hN : N < 2 ^ 31) (h : (Term.length t).eval args s none [] s = some (.int (Int32.ofNat N))) : ∃ a cell, t.eval args s none [] s = some (.ref a) ∧ s.arrayAt? a = some cell ∧ cell.slots.size = N := by
  simp only [Term.eval, Option.bind_eq_bind] at h
  cases ht : t.eval args s none [] s with
  | none => simp [ht] at h
  | some x =>
    cases x <;> simp [ht] at h
    case ref a =>
      obtain ⟨cell, hcell, h⟩ := Option.bind_eq_some_iff.mp h
      by_cases hn : cell.slots.size < 2147483648
      · rw [if_pos hn] at h
        have e : cell.slots.size.toInt32 = Int32.ofNat N := by
          have := Option.some.inj h
          exact Value.int.inj this
        refine ⟨a, cell, rfl, hcell, ?_⟩
        have e2 := congrArg Int32.toNatClampNeg e
        rw [Int32.toNatClampNeg_ofNat_of_lt hN, show cell.slots.size.toInt32 = Int32.ofNat cell.slots.size from rfl, Int32.toNatClampNeg_ofNat_of_lt hn] at e2
        exact e2
      · rw [if_neg hn] at h
        cases h
/-- where a term's reference points -/
def zAdr (args : Array Value) (s : State) (t : Term) : Nat := match t.eval args s none [] s with
  | some (.ref a) => a
  | _ => 0
theorem zAdr_of {args : Array Value} {s : State} {t : Term} {a : Nat} (h : t.eval args s none [] s = some (.ref a)) : zAdr args s t = a := by
  unfold zAdr
  rw [h]
def zTm (j : Nat) : Term := if j < 5 then .static "GentleRoad" (zSA.getD j ("", 0, [])).1 "[I" else if j < 50 then .string (zSR.getD (j - 10) ("", 0, "", 0)).1 (zSR.getD (j - 10) ("", 0, "", 0)).2.1 else .field (.string (zSR.getD (j - 60) ("", 0, "", 0)).1 (zSR.getD (j - 60) ("", 0, "", 0)).2.1) "java/lang/String" "value" "[B"
def cA (j : Nat) (xs : List Int) : List Cond := [.arrayOf (zTm j) .int, .eq (.length (zTm j)) (.int (Int32.ofNat xs.length))] ++ (List.range xs.length).map (fun k => .eq (.elem (zTm j) (.int (Int32.ofNat k))) (.int (zI (xs.getD k 0))))
def cB (j : Nat) (xs : List Int) : List Cond := [.exactly (zTm j) "java/lang/String", .eq (.field (zTm j) "java/lang/String" "coder" "B") (.int 0), .arrayOf (zTm (j + 50)) .byte, .eq (.length (zTm (j + 50))) (.int (Int32.ofNat xs.length))] ++ (List.range xs.length).map (fun k => .eq (.elem (zTm (j + 50)) (.int (Int32.ofNat k))) (.int (zI (xs.getD k 0))))
theorem cA_in : ∀ q ∈ zSA, ∀ w ∈ cA q.2.1 q.2.2, w ∈ flatC (Jvm.Cond.and given_1 narrow_1) := by decide +kernel
theorem cB_0 : cB 10 [108, 97, 110, 100] = ((flatC (Jvm.Cond.and given_1 narrow_1)).drop 352).take 8 := by decide +kernel
theorem cB_1 : cB 11 [114, 111, 119] = ((flatC (Jvm.Cond.and given_1 narrow_1)).drop 360).take 7 := by decide +kernel
theorem cB_2 : cB 12 [119, 101, 116] = ((flatC (Jvm.Cond.and given_1 narrow_1)).drop 367).take 7 := by decide +kernel
theorem cB_3 : cB 13 [103, 114, 97, 100, 101] = ((flatC (Jvm.Cond.and given_1 narrow_1)).drop 374).take 9 := by decide +kernel
theorem cB_4 : cB 14 [98, 101, 110, 100] = ((flatC (Jvm.Cond.and given_1 narrow_1)).drop 383).take 8 := by decide +kernel
theorem cB_5 : cB 15 [102, 108, 97, 116] = ((flatC (Jvm.Cond.and given_1 narrow_1)).drop 391).take 8 := by decide +kernel
theorem cB_6 : cB 16 [114, 105, 115, 101] = ((flatC (Jvm.Cond.and given_1 narrow_1)).drop 399).take 8 := by decide +kernel
theorem cB_7 : cB 17 [116, 117, 114, 110] = ((flatC (Jvm.Cond.and given_1 narrow_1)).drop 407).take 8 := by decide +kernel
theorem cB_8 : cB 18 [104, 97, 105, 114] = ((flatC (Jvm.Cond.and given_1 narrow_1)).drop 415).take 8 := by decide +kernel
theorem cB_9 : cB 19 [98, 111, 114, 101] = ((flatC (Jvm.Cond.and given_1 narrow_1)).drop 423).take 8 := by decide +kernel
theorem cB_10 : cB 20 [100, 101, 112, 116, 104] = ((flatC (Jvm.Cond.and given_1 narrow_1)).drop 431).take 9 := by decide +kernel
theorem cB_11 : cB 21 [100, 105, 103] = ((flatC (Jvm.Cond.and given_1 narrow_1)).drop 440).take 7 := by decide +kernel
theorem cB_12 : cB 22 [102, 105, 108, 108] = ((flatC (Jvm.Cond.and given_1 narrow_1)).drop 447).take 8 := by decide +kernel
theorem cB_13 : cB 23 [115, 112, 111, 105, 108] = ((flatC (Jvm.Cond.and given_1 narrow_1)).drop 455).take 9 := by decide +kernel
theorem cB_14 : cB 34 [108, 97, 110, 100] = ((flatC (Jvm.Cond.and given_1 narrow_1)).drop 806).take 8 := by decide +kernel
theorem cB_15 : cB 35 [114, 111, 119] = ((flatC (Jvm.Cond.and given_1 narrow_1)).drop 815).take 7 := by decide +kernel
theorem cB_16 : cB 36 [119, 101, 116] = ((flatC (Jvm.Cond.and given_1 narrow_1)).drop 823).take 7 := by decide +kernel
theorem cB_17 : cB 37 [103, 114, 97, 100, 101] = ((flatC (Jvm.Cond.and given_1 narrow_1)).drop 831).take 9 := by decide +kernel
theorem cB_18 : cB 38 [98, 101, 110, 100] = ((flatC (Jvm.Cond.and given_1 narrow_1)).drop 841).take 8 := by decide +kernel
theorem cB_19 : cB 39 [102, 108, 97, 116] = ((flatC (Jvm.Cond.and given_1 narrow_1)).drop 850).take 8 := by decide +kernel
theorem cB_20 : cB 40 [114, 105, 115, 101] = ((flatC (Jvm.Cond.and given_1 narrow_1)).drop 859).take 8 := by decide +kernel
theorem cB_21 : cB 41 [116, 117, 114, 110] = ((flatC (Jvm.Cond.and given_1 narrow_1)).drop 868).take 8 := by decide +kernel
theorem cB_22 : cB 42 [104, 97, 105, 114] = ((flatC (Jvm.Cond.and given_1 narrow_1)).drop 877).take 8 := by decide +kernel
theorem cB_23 : cB 43 [98, 111, 114, 101] = ((flatC (Jvm.Cond.and given_1 narrow_1)).drop 886).take 8 := by decide +kernel
theorem cB_24 : cB 44 [100, 101, 112, 116, 104] = ((flatC (Jvm.Cond.and given_1 narrow_1)).drop 895).take 9 := by decide +kernel
theorem cB_25 : cB 45 [100, 105, 103] = ((flatC (Jvm.Cond.and given_1 narrow_1)).drop 905).take 7 := by decide +kernel
theorem cB_26 : cB 46 [102, 105, 108, 108] = ((flatC (Jvm.Cond.and given_1 narrow_1)).drop 913).take 8 := by decide +kernel
theorem cB_27 : cB 47 [115, 112, 111, 105, 108] = ((flatC (Jvm.Cond.and given_1 narrow_1)).drop 922).take 9 := by decide +kernel
theorem cB_in : ∀ q ∈ zSB, ∀ w ∈ cB q.1 q.2, w ∈ flatC (Jvm.Cond.and given_1 narrow_1) := by
  intro w hw
  obtain ⟨k, hk⟩ := List.getElem?_of_mem hw
  match k, hk with
  | 0, hk => cases Option.some.inj hk; exact fun w hw => List.mem_of_mem_drop (List.mem_of_mem_take (cB_0 ▸ hw))
  | 1, hk => cases Option.some.inj hk; exact fun w hw => List.mem_of_mem_drop (List.mem_of_mem_take (cB_1 ▸ hw))
  | 2, hk => cases Option.some.inj hk; exact fun w hw => List.mem_of_mem_drop (List.mem_of_mem_take (cB_2 ▸ hw))
  | 3, hk => cases Option.some.inj hk; exact fun w hw => List.mem_of_mem_drop (List.mem_of_mem_take (cB_3 ▸ hw))
  | 4, hk => cases Option.some.inj hk; exact fun w hw => List.mem_of_mem_drop (List.mem_of_mem_take (cB_4 ▸ hw))
  | 5, hk => cases Option.some.inj hk; exact fun w hw => List.mem_of_mem_drop (List.mem_of_mem_take (cB_5 ▸ hw))
  | 6, hk => cases Option.some.inj hk; exact fun w hw => List.mem_of_mem_drop (List.mem_of_mem_take (cB_6 ▸ hw))
  | 7, hk => cases Option.some.inj hk; exact fun w hw => List.mem_of_mem_drop (List.mem_of_mem_take (cB_7 ▸ hw))
  | 8, hk => cases Option.some.inj hk; exact fun w hw => List.mem_of_mem_drop (List.mem_of_mem_take (cB_8 ▸ hw))
  | 9, hk => cases Option.some.inj hk; exact fun w hw => List.mem_of_mem_drop (List.mem_of_mem_take (cB_9 ▸ hw))
  | 10, hk => cases Option.some.inj hk; exact fun w hw => List.mem_of_mem_drop (List.mem_of_mem_take (cB_10 ▸ hw))
  | 11, hk => cases Option.some.inj hk; exact fun w hw => List.mem_of_mem_drop (List.mem_of_mem_take (cB_11 ▸ hw))
  | 12, hk => cases Option.some.inj hk; exact fun w hw => List.mem_of_mem_drop (List.mem_of_mem_take (cB_12 ▸ hw))
  | 13, hk => cases Option.some.inj hk; exact fun w hw => List.mem_of_mem_drop (List.mem_of_mem_take (cB_13 ▸ hw))
  | 14, hk => cases Option.some.inj hk; exact fun w hw => List.mem_of_mem_drop (List.mem_of_mem_take (cB_14 ▸ hw))
  | 15, hk => cases Option.some.inj hk; exact fun w hw => List.mem_of_mem_drop (List.mem_of_mem_take (cB_15 ▸ hw))
  | 16, hk => cases Option.some.inj hk; exact fun w hw => List.mem_of_mem_drop (List.mem_of_mem_take (cB_16 ▸ hw))
  | 17, hk => cases Option.some.inj hk; exact fun w hw => List.mem_of_mem_drop (List.mem_of_mem_take (cB_17 ▸ hw))
  | 18, hk => cases Option.some.inj hk; exact fun w hw => List.mem_of_mem_drop (List.mem_of_mem_take (cB_18 ▸ hw))
  | 19, hk => cases Option.some.inj hk; exact fun w hw => List.mem_of_mem_drop (List.mem_of_mem_take (cB_19 ▸ hw))
  | 20, hk => cases Option.some.inj hk; exact fun w hw => List.mem_of_mem_drop (List.mem_of_mem_take (cB_20 ▸ hw))
  | 21, hk => cases Option.some.inj hk; exact fun w hw => List.mem_of_mem_drop (List.mem_of_mem_take (cB_21 ▸ hw))
  | 22, hk => cases Option.some.inj hk; exact fun w hw => List.mem_of_mem_drop (List.mem_of_mem_take (cB_22 ▸ hw))
  | 23, hk => cases Option.some.inj hk; exact fun w hw => List.mem_of_mem_drop (List.mem_of_mem_take (cB_23 ▸ hw))
  | 24, hk => cases Option.some.inj hk; exact fun w hw => List.mem_of_mem_drop (List.mem_of_mem_take (cB_24 ▸ hw))
  | 25, hk => cases Option.some.inj hk; exact fun w hw => List.mem_of_mem_drop (List.mem_of_mem_take (cB_25 ▸ hw))
  | 26, hk => cases Option.some.inj hk; exact fun w hw => List.mem_of_mem_drop (List.mem_of_mem_take (cB_26 ▸ hw))
  | 27, hk => cases Option.some.inj hk; exact fun w hw => List.mem_of_mem_drop (List.mem_of_mem_take (cB_27 ▸ hw))
  | k + 28, hk => exact absurd hk (by simp [zSB])
theorem cS_in : ∀ q ∈ zSR, Cond.exactly (zTm q.2.2.2) "java/lang/String" ∈ flatC (Jvm.Cond.and given_1 narrow_1) := by decide +kernel
theorem cN_in : ∀ q ∈ zNC, Cond.not (.castable q.1 q.2) ∈ flatC (Jvm.Cond.and given_1 narrow_1) := by decide +kernel
theorem cZ_in : Cond.eq (.static "java/lang/String" "COMPACT_STRINGS" "Z") (.int 1) ∈ flatC (Jvm.Cond.and given_1 narrow_1) ∧ Cond.isRef (.static Bundle.tN "UNASSIGNED_STACK" Bundle.steD) ∈ flatC (Jvm.Cond.and given_1 narrow_1) ∧ Cond.isRef (.static Bundle.tN "SUPPRESSED_SENTINEL" Bundle.listD) ∈ flatC (Jvm.Cond.and given_1 narrow_1) ∧ Cond.isRef (.static "jdk/internal/util/Preconditions" "SIOOBE_FORMATTER" "Ljava/util/function/BiFunction;") ∈ flatC (Jvm.Cond.and given_1 narrow_1) := by decide +kernel
theorem zNw_in : ∀ w ∈ zNw, w ∈ lw_tbl := by
  intro w hw
  obtain ⟨k, hk⟩ := List.getElem?_of_mem hw
  match k, hk with
  | 0, hk => cases Option.some.inj hk; exact List.mem_append_right _ (List.mem_of_getElem? (i := 64) (by decide +kernel))
  | 1, hk => cases Option.some.inj hk; exact List.mem_append_right _ (List.mem_of_getElem? (i := 389) (by decide +kernel))
  | 2, hk => cases Option.some.inj hk; exact List.mem_append_right _ (List.mem_of_getElem? (i := 391) (by decide +kernel))
  | 3, hk => cases Option.some.inj hk; exact List.mem_append_right _ (List.mem_of_getElem? (i := 458) (by decide +kernel))
  | 4, hk => cases Option.some.inj hk; exact List.mem_append_right _ (List.mem_of_getElem? (i := 569) (by decide +kernel))
  | 5, hk => cases Option.some.inj hk; exact List.mem_append_right _ (List.mem_of_getElem? (i := 571) (by decide +kernel))
  | 6, hk => cases Option.some.inj hk; exact List.mem_append_right _ (List.mem_of_getElem? (i := 575) (by decide +kernel))
  | 7, hk => cases Option.some.inj hk; exact List.mem_append_right _ (List.mem_of_getElem? (i := 576) (by decide +kernel))
  | 8, hk => cases Option.some.inj hk; exact List.mem_append_right _ (List.mem_of_getElem? (i := 577) (by decide +kernel))
  | 9, hk => cases Option.some.inj hk; exact List.mem_append_right _ (List.mem_of_getElem? (i := 578) (by decide +kernel))
  | 10, hk => cases Option.some.inj hk; exact List.mem_append_right _ (List.mem_of_getElem? (i := 579) (by decide +kernel))
  | 11, hk => cases Option.some.inj hk; exact List.mem_append_right _ (List.mem_of_getElem? (i := 580) (by decide +kernel))
  | 12, hk => cases Option.some.inj hk; exact List.mem_append_right _ (List.mem_of_getElem? (i := 581) (by decide +kernel))
  | 13, hk => cases Option.some.inj hk; exact List.mem_append_right _ (List.mem_of_getElem? (i := 663) (by decide +kernel))
  | 14, hk => cases Option.some.inj hk; exact List.mem_append_right _ (List.mem_of_getElem? (i := 683) (by decide +kernel))
  | 15, hk => cases Option.some.inj hk; exact List.mem_append_right _ (List.mem_of_getElem? (i := 732) (by decide +kernel))
  | 16, hk => cases Option.some.inj hk; exact List.mem_append_right _ (List.mem_of_getElem? (i := 850) (by decide +kernel))
  | 17, hk => cases Option.some.inj hk; exact List.mem_append_right _ (List.mem_of_getElem? (i := 871) (by decide +kernel))
  | 18, hk => cases Option.some.inj hk; exact List.mem_append_right _ (List.mem_of_getElem? (i := 961) (by decide +kernel))
  | 19, hk => cases Option.some.inj hk; exact List.mem_append_right _ (List.mem_of_getElem? (i := 1110) (by decide +kernel))
  | 20, hk => cases Option.some.inj hk; exact List.mem_append_right _ (List.mem_of_getElem? (i := 1111) (by decide +kernel))
  | 21, hk => cases Option.some.inj hk; exact List.mem_append_right _ (List.mem_of_getElem? (i := 1112) (by decide +kernel))
  | 22, hk => cases Option.some.inj hk; exact List.mem_append_right _ (List.mem_of_getElem? (i := 1139) (by decide +kernel))
  | 23, hk => cases Option.some.inj hk; exact List.mem_append_right _ (List.mem_of_getElem? (i := 1190) (by decide +kernel))
  | 24, hk => cases Option.some.inj hk; exact List.mem_append_right _ (List.mem_of_getElem? (i := 1260) (by decide +kernel))
  | 25, hk => cases Option.some.inj hk; exact List.mem_append_right _ (List.mem_of_getElem? (i := 1471) (by decide +kernel))
  | 26, hk => cases Option.some.inj hk; exact List.mem_append_right _ (List.mem_of_getElem? (i := 1491) (by decide +kernel))
  | 27, hk => cases Option.some.inj hk; exact List.mem_append_right _ (List.mem_of_getElem? (i := 1637) (by decide +kernel))
  | 28, hk => cases Option.some.inj hk; exact List.mem_append_right _ (List.mem_of_getElem? (i := 1674) (by decide +kernel))
  | 29, hk => cases Option.some.inj hk; exact List.mem_append_right _ (List.mem_of_getElem? (i := 2257) (by decide +kernel))
  | 30, hk => cases Option.some.inj hk; exact List.mem_append_right _ (List.mem_of_getElem? (i := 2258) (by decide +kernel))
  | 31, hk => cases Option.some.inj hk; exact List.mem_append_right _ (List.mem_of_getElem? (i := 2259) (by decide +kernel))
  | 32, hk => cases Option.some.inj hk; exact List.mem_append_right _ (List.mem_of_getElem? (i := 2260) (by decide +kernel))
  | 33, hk => cases Option.some.inj hk; exact List.mem_append_right _ (List.mem_of_getElem? (i := 2261) (by decide +kernel))
  | 34, hk => cases Option.some.inj hk; exact List.mem_append_right _ (List.mem_of_getElem? (i := 2262) (by decide +kernel))
  | 35, hk => cases Option.some.inj hk; exact List.mem_append_right _ (List.mem_of_getElem? (i := 2263) (by decide +kernel))
  | 36, hk => cases Option.some.inj hk; exact List.mem_append_right _ (List.mem_of_getElem? (i := 2264) (by decide +kernel))
  | 37, hk => cases Option.some.inj hk; exact List.mem_append_right _ (List.mem_of_getElem? (i := 2265) (by decide +kernel))
  | 38, hk => cases Option.some.inj hk; exact List.mem_append_right _ (List.mem_of_getElem? (i := 2266) (by decide +kernel))
  | 39, hk => cases Option.some.inj hk; exact List.mem_append_right _ (List.mem_of_getElem? (i := 2267) (by decide +kernel))
  | 40, hk => cases Option.some.inj hk; exact List.mem_append_right _ (List.mem_of_getElem? (i := 2268) (by decide +kernel))
  | 41, hk => cases Option.some.inj hk; exact List.mem_append_right _ (List.mem_of_getElem? (i := 2269) (by decide +kernel))
  | 42, hk => cases Option.some.inj hk; exact List.mem_append_right _ (List.mem_of_getElem? (i := 2270) (by decide +kernel))
  | 43, hk => cases Option.some.inj hk; exact List.mem_append_right _ (List.mem_of_getElem? (i := 2271) (by decide +kernel))
  | 44, hk => cases Option.some.inj hk; exact List.mem_append_right _ (List.mem_of_getElem? (i := 2272) (by decide +kernel))
  | 45, hk => cases Option.some.inj hk; exact List.mem_append_right _ (List.mem_of_getElem? (i := 2273) (by decide +kernel))
  | 46, hk => cases Option.some.inj hk; exact List.mem_append_right _ (List.mem_of_getElem? (i := 2274) (by decide +kernel))
  | 47, hk => cases Option.some.inj hk; exact List.mem_append_right _ (List.mem_of_getElem? (i := 2275) (by decide +kernel))
  | 48, hk => cases Option.some.inj hk; exact List.mem_append_right _ (List.mem_of_getElem? (i := 2276) (by decide +kernel))
  | 49, hk => cases Option.some.inj hk; exact List.mem_append_right _ (List.mem_of_getElem? (i := 2277) (by decide +kernel))
  | k + 50, hk => exact absurd hk (by simp [zNw])
theorem zLs_in : ∀ q ∈ zSA, Cond.laysStatic "GentleRoad" q.1 "[I" ∈ lw_tbl := by
  intro w hw
  obtain ⟨k, hk⟩ := List.getElem?_of_mem hw
  match k, hk with
  | 0, hk => cases Option.some.inj hk; exact List.mem_append_right _ (List.mem_of_getElem? (i := 570) (by decide +kernel))
  | 1, hk => cases Option.some.inj hk; exact List.mem_append_right _ (List.mem_of_getElem? (i := 572) (by decide +kernel))
  | 2, hk => cases Option.some.inj hk; exact List.mem_append_right _ (List.mem_of_getElem? (i := 65) (by decide +kernel))
  | 3, hk => cases Option.some.inj hk; exact List.mem_append_right _ (List.mem_of_getElem? (i := 390) (by decide +kernel))
  | 4, hk => cases Option.some.inj hk; exact List.mem_append_right _ (List.mem_of_getElem? (i := 392) (by decide +kernel))
  | k + 5, hk => exact absurd hk (by simp [zSA])
theorem zSr_in : ∀ q ∈ zSR, Cond.stringRef q.1 q.2.1 q.2.2.1 ∈ lw_tbl := by
  intro w hw
  obtain ⟨k, hk⟩ := List.getElem?_of_mem hw
  match k, hk with
  | 0, hk => cases Option.some.inj hk; exact List.mem_append_right _ (List.mem_of_getElem? (i := 464) (by decide +kernel))
  | 1, hk => cases Option.some.inj hk; exact List.mem_append_right _ (List.mem_of_getElem? (i := 541) (by decide +kernel))
  | 2, hk => cases Option.some.inj hk; exact List.mem_append_right _ (List.mem_of_getElem? (i := 550) (by decide +kernel))
  | 3, hk => cases Option.some.inj hk; exact List.mem_append_right _ (List.mem_of_getElem? (i := 558) (by decide +kernel))
  | 4, hk => cases Option.some.inj hk; exact List.mem_append_right _ (List.mem_of_getElem? (i := 559) (by decide +kernel))
  | 5, hk => cases Option.some.inj hk; exact List.mem_append_right _ (List.mem_of_getElem? (i := 560) (by decide +kernel))
  | 6, hk => cases Option.some.inj hk; exact List.mem_append_right _ (List.mem_of_getElem? (i := 561) (by decide +kernel))
  | 7, hk => cases Option.some.inj hk; exact List.mem_append_right _ (List.mem_of_getElem? (i := 562) (by decide +kernel))
  | 8, hk => cases Option.some.inj hk; exact List.mem_append_right _ (List.mem_of_getElem? (i := 563) (by decide +kernel))
  | 9, hk => cases Option.some.inj hk; exact List.mem_append_right _ (List.mem_of_getElem? (i := 564) (by decide +kernel))
  | 10, hk => cases Option.some.inj hk; exact List.mem_append_right _ (List.mem_of_getElem? (i := 565) (by decide +kernel))
  | 11, hk => cases Option.some.inj hk; exact List.mem_append_right _ (List.mem_of_getElem? (i := 566) (by decide +kernel))
  | 12, hk => cases Option.some.inj hk; exact List.mem_append_right _ (List.mem_of_getElem? (i := 567) (by decide +kernel))
  | 13, hk => cases Option.some.inj hk; exact List.mem_append_right _ (List.mem_of_getElem? (i := 568) (by decide +kernel))
  | 14, hk => cases Option.some.inj hk; exact List.mem_append_right _ (List.mem_of_getElem? (i := 616) (by decide +kernel))
  | 15, hk => cases Option.some.inj hk; exact List.mem_append_right _ (List.mem_of_getElem? (i := 670) (by decide +kernel))
  | 16, hk => cases Option.some.inj hk; exact List.mem_append_right _ (List.mem_of_getElem? (i := 690) (by decide +kernel))
  | 17, hk => cases Option.some.inj hk; exact List.mem_append_right _ (List.mem_of_getElem? (i := 756) (by decide +kernel))
  | 18, hk => cases Option.some.inj hk; exact List.mem_append_right _ (List.mem_of_getElem? (i := 808) (by decide +kernel))
  | 19, hk => cases Option.some.inj hk; exact List.mem_append_right _ (List.mem_of_getElem? (i := 817) (by decide +kernel))
  | 20, hk => cases Option.some.inj hk; exact List.mem_append_right _ (List.mem_of_getElem? (i := 1228) (by decide +kernel))
  | 21, hk => cases Option.some.inj hk; exact List.mem_append_right _ (List.mem_of_getElem? (i := 1277) (by decide +kernel))
  | 22, hk => cases Option.some.inj hk; exact List.mem_append_right _ (List.mem_of_getElem? (i := 1293) (by decide +kernel))
  | 23, hk => cases Option.some.inj hk; exact List.mem_append_right _ (List.mem_of_getElem? (i := 1436) (by decide +kernel))
  | 24, hk => cases Option.some.inj hk; exact List.mem_append_right _ (List.mem_of_getElem? (i := 1859) (by decide +kernel))
  | 25, hk => cases Option.some.inj hk; exact List.mem_append_right _ (List.mem_of_getElem? (i := 1890) (by decide +kernel))
  | 26, hk => cases Option.some.inj hk; exact List.mem_append_right _ (List.mem_of_getElem? (i := 1895) (by decide +kernel))
  | 27, hk => cases Option.some.inj hk; exact List.mem_append_right _ (List.mem_of_getElem? (i := 1902) (by decide +kernel))
  | 28, hk => cases Option.some.inj hk; exact List.mem_append_right _ (List.mem_of_getElem? (i := 1903) (by decide +kernel))
  | 29, hk => cases Option.some.inj hk; exact List.mem_append_right _ (List.mem_of_getElem? (i := 1904) (by decide +kernel))
  | 30, hk => cases Option.some.inj hk; exact List.mem_append_right _ (List.mem_of_getElem? (i := 1905) (by decide +kernel))
  | 31, hk => cases Option.some.inj hk; exact List.mem_append_right _ (List.mem_of_getElem? (i := 1906) (by decide +kernel))
  | 32, hk => cases Option.some.inj hk; exact List.mem_append_right _ (List.mem_of_getElem? (i := 1907) (by decide +kernel))
  | 33, hk => cases Option.some.inj hk; exact List.mem_append_right _ (List.mem_of_getElem? (i := 1908) (by decide +kernel))
  | 34, hk => cases Option.some.inj hk; exact List.mem_append_right _ (List.mem_of_getElem? (i := 1909) (by decide +kernel))
  | 35, hk => cases Option.some.inj hk; exact List.mem_append_right _ (List.mem_of_getElem? (i := 1910) (by decide +kernel))
  | 36, hk => cases Option.some.inj hk; exact List.mem_append_right _ (List.mem_of_getElem? (i := 1911) (by decide +kernel))
  | 37, hk => cases Option.some.inj hk; exact List.mem_append_right _ (List.mem_of_getElem? (i := 1912) (by decide +kernel))
  | k + 38, hk => exact absurd hk (by simp [zSR])
theorem zi_G : Cond.initialized "GentleRoad" ∈ lw_tbl := List.mem_append_right _ (List.mem_of_getElem? (i := 1) (by decide +kernel))
theorem zl_S : Cond.laysStatic "java/lang/String" "COMPACT_STRINGS" "Z" ∈ lw_tbl := List.mem_append_right _ (List.mem_of_getElem? (i := 486) (by decide +kernel))
theorem zi_S : Cond.initialized "java/lang/String" ∈ lw_tbl := List.mem_append_right _ (List.mem_of_getElem? (i := 15) (by decide +kernel))
theorem zl_U : Cond.laysStatic Bundle.tN "UNASSIGNED_STACK" Bundle.steD ∈ lw_tbl := List.mem_append_right _ (List.mem_of_getElem? (i := 600) (by decide +kernel))
theorem zl_P : Cond.laysStatic Bundle.tN "SUPPRESSED_SENTINEL" Bundle.listD ∈ lw_tbl := List.mem_append_right _ (List.mem_of_getElem? (i := 602) (by decide +kernel))
theorem zi_T : Cond.initialized Bundle.tN ∈ lw_tbl := List.mem_append_right _ (List.mem_of_getElem? (i := 19) (by decide +kernel))
theorem zl_F : Cond.laysStatic "jdk/internal/util/Preconditions" "SIOOBE_FORMATTER" "Ljava/util/function/BiFunction;" ∈ lw_tbl := List.mem_append_right _ (List.mem_of_getElem? (i := 502) (by decide +kernel))
theorem zi_F : Cond.initialized "jdk/internal/util/Preconditions" ∈ lw_tbl := List.mem_append_right _ (List.mem_of_getElem? (i := 17) (by decide +kernel))
theorem za_O : Cond.arrayOver (.object "java/lang/String") ∈ lw_tbl := List.mem_append_right _ (List.mem_of_getElem? (i := 1901) (by decide +kernel))
theorem zTm_s : ∀ q ∈ zSA, q.2.1 < 5 ∧ zTm q.2.1 = .static "GentleRoad" q.1 "[I" := by decide +kernel
theorem zTm_r : ∀ q ∈ zSR, zTm q.2.2.2 = .string q.1 q.2.1 := by decide +kernel
theorem zTm_b : ∀ q ∈ zSB, zTm (q.1 + 50) = .field (zTm q.1) "java/lang/String" "value" "[B" ∧ q.2.length < 2 ^ 31 := by decide +kernel
theorem zSt_start {s : State} {args : Array Value} {l : Launch} (hflags : l.flags = flags0) (hts : ∀ w ∈ lw_tbl, w.before args s = true) (hgv : (Jvm.Cond.and given_1 narrow_1).before args s = true) : zSt l (fun j => zAdr args s (zTm j)) (fun q => s.heap.size ≤ q) s s.heap := by
  have hs := flat_of_before _ hgv
  have hA : ∀ a : Nat, a < s.heap.size → ¬ (fun q : Nat => s.heap.size ≤ q) a := fun a h => Nat.not_le.mpr h
  refine ⟨?_, fun w hw => va_Nw.of (zNw_k w hw).2 (hts w (zNw_in w hw)), fun q hq => ?_, fun q hq => ?_, fun q hq => ?_, ?_, ?_, ?_, fun q hq => va_Nc.of (hs _ (cN_in q hq)), ?_, va_AO.of (hts _ za_O)⟩
  · unfold Launch.stackTraces
    rw [hflags]
    decide +kernel
  · have hc := fun w hw => hs w (cA_in q hq w hw)
    obtain ⟨h5, et⟩ := zTm_s q hq
    have hL : q.2.2.length < 2 ^ 31 := (by decide : ∀ q ∈ zSA, q.2.2.length < 2 ^ 31) q hq
    obtain ⟨a, cell, ha, hcell, hsz⟩ := zlen hL (va_eqt (hc (.eq (.length (zTm q.2.1)) (.int (Int32.ofNat q.2.2.length))) (List.mem_append_left _ (List.mem_cons_of_mem _ List.mem_cons_self))))
    obtain ⟨hcl, hkn, -, -⟩ := State.arrayAt?_spec hcell
    obtain ⟨hof, -⟩ := Cond.arrayOf_spec (hc (.arrayOf (zTm q.2.1) .int) (List.mem_append_left _ List.mem_cons_self)) ha hcl
    have e : zAdr args s (zTm q.2.1) = a := zAdr_of ha
    unfold zStA
    dsimp only
    rw [e]
    rw [et] at ha
    refine ⟨va_Zof (hts _ (zLs_in q hq)) (hts _ zi_G) ha hA, ⟨cell, hcl, hof, hkn, hsz, fun j hj => ?_⟩, (Array.getElem?_eq_some_iff.mp hcl).1, hA _ (Array.getElem?_eq_some_iff.mp hcl).1⟩
    obtain ⟨a2, i, cell2, h1, h2, h3, h4, h5'⟩ := Term.elem_spec (va_eqt (hc (.eq (.elem (zTm q.2.1) (.int (Int32.ofNat j))) (.int (zI (q.2.2.getD j 0)))) (List.mem_append_right _ (List.mem_map.mpr ⟨j, List.mem_range.mpr hj, rfl⟩))))
    rw [et] at h1
    cases ha.symm.trans h1
    cases hcell.symm.trans h3
    have hi : i = Int32.ofNat j := by
      have e : (Term.int (Int32.ofNat j)).eval args s none [] s = some (.int (Int32.ofNat j)) := rfl
      cases h2.symm.trans e
      rfl
    rw [hi, Int32.toNatClampNeg_ofNat_of_lt (Nat.lt_trans hj hL)] at h5'
    exact h5'
  · obtain ⟨a, c, cA, kA, q1, -⟩ := Cond.exactly_spec (args := args) (first := s) (o := none) (s := s) (idx := []) (t := zTm q.2.2.2) (cls := "java/lang/String") (hs _ (cS_in q hq))
    have e : zAdr args s (zTm q.2.2.2) = a := zAdr_of q1
    show vk_R q.1 q.2.1 q.2.2.1 (zAdr args s (zTm q.2.2.2)) s
    rw [e]
    rw [zTm_r q hq] at q1
    exact vk_R.of (hts _ (zSr_in q hq)) q1
  · have hc := fun w hw => hs w (cB_in q hq w hw)
    obtain ⟨et, hL⟩ := zTm_b q hq
    obtain ⟨a, c, cA, kA, q1, q2, q3, q4, q5, q6, -⟩ := Cond.exactly_spec (args := args) (first := s) (o := none) (s := s) (idx := []) (t := zTm q.1) (cls := "java/lang/String") (hc (.exactly (zTm q.1) "java/lang/String") (List.mem_append_left _ List.mem_cons_self))
    obtain ⟨t, ht, hT⟩ := va_Tof (f := fun j => .int (zI (q.2.getD j 0))) (A := fun q : Nat => s.heap.size ≤ q) hL (hc (.arrayOf (zTm (q.1 + 50)) .byte) (List.mem_append_left _ (List.mem_cons_of_mem _ (List.mem_cons_of_mem _ List.mem_cons_self)))) (va_eqt (hc (.eq (.length (zTm (q.1 + 50))) (.int (Int32.ofNat q.2.length))) (List.mem_append_left _ (List.mem_cons_of_mem _ (List.mem_cons_of_mem _ (List.mem_cons_of_mem _ List.mem_cons_self)))))) (fun j hj => va_eqt (hc (.eq (.elem (zTm (q.1 + 50)) (.int (Int32.ofNat j))) (.int (zI (q.2.getD j 0)))) (List.mem_append_right _ (List.mem_map.mpr ⟨j, List.mem_range.mpr hj, rfl⟩)))) hA
    have e1 : zAdr args s (zTm q.1) = a := zAdr_of q1
    have e2 : zAdr args s (zTm (q.1 + 50)) = t := zAdr_of ht
    unfold zStB
    dsimp only
    rw [e1, e2]
    rw [et] at ht
    exact ⟨⟨cA, q3, q5, by rw [q6]; exact q2, hA a (Array.getElem?_eq_some_iff.mp q3).1⟩, vk_OFof q1 (va_eqt (hc (.eq (.field (zTm q.1) "java/lang/String" "coder" "B") (.int 0)) (List.mem_append_left _ (List.mem_cons_of_mem _ List.mem_cons_self)))) hA, vk_OFof q1 ht hA, hT⟩
  · exact va_Zof (hts _ zl_S) (hts _ zi_S) (va_eqi (hs _ cZ_in.1)) hA
  · exact vx_Zqof (hts _ zl_U) (hts _ zi_T) (hs _ cZ_in.2.1) hA
  · exact vx_Zqof (hts _ zl_P) (hts _ zi_T) (hs _ cZ_in.2.2.1) hA
  · exact va_Zqof (hts _ zl_F) (hts _ zi_F) (hs _ cZ_in.2.2.2) hA

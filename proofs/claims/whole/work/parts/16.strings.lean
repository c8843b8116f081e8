/-! ===== strings: length and charAt of the constants ===== -/
abbrev c_J_coder : ByteArray := prog_29_method_152_code
def y_J_coder : MethodName := ⟨"java/lang/String", "coder", "()B"⟩
abbrev c_J_len : ByteArray := prog_29_method_54_code
def y_J_len : MethodName := ⟨"java/lang/String", "length", "()I"⟩
abbrev c_J_charAt : ByteArray := prog_29_method_56_code
def y_J_charAt : MethodName := ⟨"java/lang/String", "charAt", "(I)C"⟩
abbrev c_J_isLat : ByteArray := prog_29_method_154_code
def y_J_isLat : MethodName := ⟨"java/lang/String", "isLatin1", "()Z"⟩
abbrev c_J_chL : ByteArray := prog_31_method_2_code
def y_J_chL : MethodName := ⟨"java/lang/StringLatin1", "charAt", "([BI)C"⟩
abbrev c_J_cki : ByteArray := prog_29_method_155_code
def y_J_cki : MethodName := ⟨"java/lang/String", "checkIndex", "(II)V"⟩
abbrev c_J_pci : ByteArray := prog_40_method_11_code
def y_J_pci : MethodName := ⟨"jdk/internal/util/Preconditions", "checkIndex", "(IILjava/util/function/BiFunction;)I"⟩
theorem yk_J_coder : zYv y_J_coder c_J_coder 1 (some .byte) 0 := ⟨ztc3 4 rfl rfl, ztc3 2 (by decide +kernel) rfl, ztc3 3 (by decide +kernel) rfl, ztc1 15 (by decide +kernel) rfl, by decide +kernel⟩
theorem yk_J_len : zYv y_J_len c_J_len 1 (some .int) 0 := ⟨ztc3 0 rfl rfl, ztc2 238 (by decide +kernel) rfl, ztc2 239 (by decide +kernel) rfl, ztc1 15 (by decide +kernel) rfl, by decide +kernel⟩
theorem yk_J_charAt : zYv y_J_charAt c_J_charAt 2 (some .char) 1 := ⟨ztc3 10 rfl rfl, ztc3 8 (by decide +kernel) rfl, ztc3 9 (by decide +kernel) rfl, ztc1 15 (by decide +kernel) rfl, by decide +kernel⟩
theorem yk_J_isLat : zYv y_J_isLat c_J_isLat 1 (some .boolean) 0 := ⟨ztc3 14 rfl rfl, ztc3 12 (by decide +kernel) rfl, ztc3 13 (by decide +kernel) rfl, ztc1 15 (by decide +kernel) rfl, by decide +kernel⟩
theorem yk_J_chL : zYs y_J_chL c_J_chL 2 (some .char) 2 := ⟨ztc3 17 rfl rfl, ztc3 16 (by decide +kernel) rfl, ztc1 16 (by decide +kernel) rfl, by decide +kernel⟩
theorem yk_J_cki : zYs y_J_cki c_J_cki 2 none 2 := ⟨ztc3 20 rfl rfl, ztc3 19 (by decide +kernel) rfl, ztc1 15 (by decide +kernel) rfl, by decide +kernel⟩
theorem yk_J_pci : zYs y_J_pci c_J_pci 3 (some .int) 3 := ⟨ztc3 25 rfl rfl, ztc3 24 (by decide +kernel) rfl, ztc1 17 (by decide +kernel) rfl, by decide +kernel⟩
theorem lk_J_335 : Cond.methodLink "java/lang/String" 335 y_J_coder ∈ zT := ztc3 1 (by decide +kernel) rfl
theorem lk_J_492 : Cond.methodLink "java/lang/String" 492 y_J_isLat ∈ zT := ztc3 11 (by decide +kernel) rfl
theorem lk_J_495 : Cond.methodLink "java/lang/String" 495 y_J_chL ∈ zT := ztc3 15 (by decide +kernel) rfl
theorem lk_JL_9 : Cond.methodLink "java/lang/StringLatin1" 9 y_J_cki ∈ zT := ztc3 18 (by decide +kernel) rfl
theorem lk_J_1059 : Cond.methodLink "java/lang/String" 1059 y_J_pci ∈ zT := ztc3 23 (by decide +kernel) rfl
theorem lk_X_109 : Cond.methodLink "GentleRoad$Text" 109 y_J_len ∈ zT := ztc2 237 (by decide +kernel) rfl
theorem lk_X_114 : Cond.methodLink "GentleRoad$Text" 114 y_J_charAt ∈ zT := ztc3 7 (by decide +kernel) rfl
theorem lk_M_227 : Cond.methodLink "GentleRoadModel" 227 y_J_len ∈ zT := ztc8 192 (by decide +kernel) rfl
theorem lk_M_232 : Cond.methodLink "GentleRoadModel" 232 y_J_charAt ∈ zT := ztc8 193 (by decide +kernel) rfl
theorem fl_J_9 : Cond.fieldLink "java/lang/String" 9 "java/lang/String" "value" "[B" ∈ zT := ztc5 137 (by decide +kernel) rfl
theorem fl_J_15 : Cond.fieldLink "java/lang/String" 15 "java/lang/String" "coder" "B" ∈ zT := ztc5 138 (by decide +kernel) rfl
theorem fl_J_38 : Cond.fieldLink "java/lang/String" 38 "java/lang/String" "COMPACT_STRINGS" "Z" ∈ zT := ztc3 5 (by decide +kernel) rfl
theorem fl_J_1053 : Cond.fieldLink "java/lang/String" 1053 "jdk/internal/util/Preconditions" "SIOOBE_FORMATTER" "Ljava/util/function/BiFunction;" ∈ zT := ztc3 21 (by decide +kernel) rfl
theorem d_J_coder_0 : decode c_J_coder 0 = .ok (.getstatic 38, 3) := by decide +kernel
theorem d_J_coder_3 : decode c_J_coder 3 = .ok (.ifCond .eq 10, 3) := by decide +kernel
theorem d_J_coder_6 : decode c_J_coder 6 = .ok (.aload_n 0, 1) := by decide +kernel
theorem d_J_coder_7 : decode c_J_coder 7 = .ok (.getfield 15, 3) := by decide +kernel
theorem d_J_coder_10 : decode c_J_coder 10 = .ok (.goto 4, 3) := by decide +kernel
theorem d_J_coder_13 : decode c_J_coder 13 = .ok (.iconst 1, 1) := by decide +kernel
theorem d_J_coder_14 : decode c_J_coder 14 = .ok (.ireturn, 1) := by decide +kernel
theorem d_J_len_0 : decode c_J_len 0 = .ok (.aload_n 0, 1) := by decide +kernel
theorem d_J_len_1 : decode c_J_len 1 = .ok (.getfield 9, 3) := by decide +kernel
theorem d_J_len_4 : decode c_J_len 4 = .ok (.arraylength, 1) := by decide +kernel
theorem d_J_len_5 : decode c_J_len 5 = .ok (.aload_n 0, 1) := by decide +kernel
theorem d_J_len_6 : decode c_J_len 6 = .ok (.invokevirtual 335, 3) := by decide +kernel
theorem d_J_len_9 : decode c_J_len 9 = .ok (.ishr, 1) := by decide +kernel
theorem d_J_len_10 : decode c_J_len 10 = .ok (.ireturn, 1) := by decide +kernel
theorem d_J_charAt_0 : decode c_J_charAt 0 = .ok (.aload_n 0, 1) := by decide +kernel
theorem d_J_charAt_1 : decode c_J_charAt 1 = .ok (.invokevirtual 492, 3) := by decide +kernel
theorem d_J_charAt_4 : decode c_J_charAt 4 = .ok (.ifCond .eq 12, 3) := by decide +kernel
theorem d_J_charAt_7 : decode c_J_charAt 7 = .ok (.aload_n 0, 1) := by decide +kernel
theorem d_J_charAt_8 : decode c_J_charAt 8 = .ok (.getfield 9, 3) := by decide +kernel
theorem d_J_charAt_11 : decode c_J_charAt 11 = .ok (.iload_n 1, 1) := by decide +kernel
theorem d_J_charAt_12 : decode c_J_charAt 12 = .ok (.invokestatic 495, 3) := by decide +kernel
theorem d_J_charAt_15 : decode c_J_charAt 15 = .ok (.ireturn, 1) := by decide +kernel
theorem d_J_charAt_16 : decode c_J_charAt 16 = .ok (.aload_n 0, 1) := by decide +kernel
theorem d_J_charAt_17 : decode c_J_charAt 17 = .ok (.getfield 9, 3) := by decide +kernel
theorem d_J_charAt_20 : decode c_J_charAt 20 = .ok (.iload_n 1, 1) := by decide +kernel
theorem d_J_charAt_21 : decode c_J_charAt 21 = .ok (.invokestatic 498, 3) := by decide +kernel
theorem d_J_charAt_24 : decode c_J_charAt 24 = .ok (.ireturn, 1) := by decide +kernel
theorem d_J_isLat_0 : decode c_J_isLat 0 = .ok (.getstatic 38, 3) := by decide +kernel
theorem d_J_isLat_3 : decode c_J_isLat 3 = .ok (.ifCond .eq 14, 3) := by decide +kernel
theorem d_J_isLat_6 : decode c_J_isLat 6 = .ok (.aload_n 0, 1) := by decide +kernel
theorem d_J_isLat_7 : decode c_J_isLat 7 = .ok (.getfield 15, 3) := by decide +kernel
theorem d_J_isLat_10 : decode c_J_isLat 10 = .ok (.ifCond .ne 7, 3) := by decide +kernel
theorem d_J_isLat_13 : decode c_J_isLat 13 = .ok (.iconst 1, 1) := by decide +kernel
theorem d_J_isLat_14 : decode c_J_isLat 14 = .ok (.goto 4, 3) := by decide +kernel
theorem d_J_isLat_17 : decode c_J_isLat 17 = .ok (.iconst 0, 1) := by decide +kernel
theorem d_J_isLat_18 : decode c_J_isLat 18 = .ok (.ireturn, 1) := by decide +kernel
theorem d_J_chL_0 : decode c_J_chL 0 = .ok (.iload_n 1, 1) := by decide +kernel
theorem d_J_chL_1 : decode c_J_chL 1 = .ok (.aload_n 0, 1) := by decide +kernel
theorem d_J_chL_2 : decode c_J_chL 2 = .ok (.arraylength, 1) := by decide +kernel
theorem d_J_chL_3 : decode c_J_chL 3 = .ok (.invokestatic 9, 3) := by decide +kernel
theorem d_J_chL_6 : decode c_J_chL 6 = .ok (.aload_n 0, 1) := by decide +kernel
theorem d_J_chL_7 : decode c_J_chL 7 = .ok (.iload_n 1, 1) := by decide +kernel
theorem d_J_chL_8 : decode c_J_chL 8 = .ok (.baload, 1) := by decide +kernel
theorem d_J_chL_9 : decode c_J_chL 9 = .ok (.sipush 255, 3) := by decide +kernel
theorem d_J_chL_12 : decode c_J_chL 12 = .ok (.iand, 1) := by decide +kernel
theorem d_J_chL_13 : decode c_J_chL 13 = .ok (.i2c, 1) := by decide +kernel
theorem d_J_chL_14 : decode c_J_chL 14 = .ok (.ireturn, 1) := by decide +kernel
theorem d_J_cki_0 : decode c_J_cki 0 = .ok (.iload_n 0, 1) := by decide +kernel
theorem d_J_cki_1 : decode c_J_cki 1 = .ok (.iload_n 1, 1) := by decide +kernel
theorem d_J_cki_2 : decode c_J_cki 2 = .ok (.getstatic 1053, 3) := by decide +kernel
theorem d_J_cki_5 : decode c_J_cki 5 = .ok (.invokestatic 1059, 3) := by decide +kernel
theorem d_J_cki_8 : decode c_J_cki 8 = .ok (.pop, 1) := by decide +kernel
theorem d_J_cki_9 : decode c_J_cki 9 = .ok (.return_, 1) := by decide +kernel
theorem d_J_pci_0 : decode c_J_pci 0 = .ok (.iload_n 0, 1) := by decide +kernel
theorem d_J_pci_1 : decode c_J_pci 1 = .ok (.ifCond .lt 8, 3) := by decide +kernel
theorem d_J_pci_4 : decode c_J_pci 4 = .ok (.iload_n 0, 1) := by decide +kernel
theorem d_J_pci_5 : decode c_J_pci 5 = .ok (.iload_n 1, 1) := by decide +kernel
theorem d_J_pci_6 : decode c_J_pci 6 = .ok (.if_icmp .lt 10, 3) := by decide +kernel
theorem d_J_pci_9 : decode c_J_pci 9 = .ok (.aload_n 2, 1) := by decide +kernel
theorem d_J_pci_10 : decode c_J_pci 10 = .ok (.iload_n 0, 1) := by decide +kernel
theorem d_J_pci_11 : decode c_J_pci 11 = .ok (.iload_n 1, 1) := by decide +kernel
theorem d_J_pci_12 : decode c_J_pci 12 = .ok (.invokestatic 95, 3) := by decide +kernel
theorem d_J_pci_15 : decode c_J_pci 15 = .ok (.athrow, 1) := by decide +kernel
theorem d_J_pci_16 : decode c_J_pci 16 = .ok (.iload_n 0, 1) := by decide +kernel
theorem d_J_pci_17 : decode c_J_pci 17 = .ok (.ireturn, 1) := by decide +kernel
section ZT2
variable {Ω : zO} {Γ : zM} {R rm : Room} {nL k n maxL nA idx : Nat} {Q : State → Prop} {Ls : List zL} {ad : Nat → Nat} {σ : zS} {pc : Nat} {lv lv' : List (Nat × Value)} {st st0 As av : List Value} {cc bytes : ByteArray} {own : String} {o j : Nat} {y : MethodName} {ret : Option FieldType} {a b i : Int} {w : List Int}
/-- an entry of a method that gives a small number -/
theorem z_oft {K : Int → zS → Prop} {ty : FieldType} (hy : plainName y.cls = true) (hlv : lv_args 0 av = lv) (hav : (lg_sl av).length ≤ maxL) (body : ∀ (Γ : zM) (Q : State → Prop), zC Ω Γ cc maxL y.cls → (∀ (k n : Nat) (σ1 : zS) (pc : Nat) (lv : List (Nat × Value)) (x : Int), k ≤ rm.cells → n ≤ rm.slots → decode cc pc = .ok (.ireturn, 1) → zR x → narrow ty (.int (zI x)) = .int (zI x) → K x σ1 → zV Ω Γ rm maxL Q k n Ls ad σ1 pc lv [.int (zI x)]) → zV Ω Γ rm maxL Q 0 0 Ls ad σ 0 lv []) : zMi Ω y (.code y cc maxL (some ty)) rm Ls ad av σ K := by
  obtain ⟨l, D, dA, A, sx⟩ := Ω
  refine Met.ofW (cc := cc) (maxL := maxL) (ret := (some ty)) hy rfl ?_
  intro p e s m args below meth c s₁ B hml hv
  obtain ⟨rfl, hP, hK, hD, hr, hA, hst⟩ := hv
  have hts0 := atoms_spec (ws := .code y cc maxL (some ty) :: zT) B.pre
  have cx : zC (l, D, dA, A, sx) (p, e, s, m, av.toArray, below, meth, c) cc maxL y.cls := ⟨B.exec, B.bytes, hml, findClass_of_methodNamed B.named, fun w hw => hts0 w (List.mem_cons_of_mem _ hw), hK, hA, B.notSynchronized, hst⟩
  have hl := lv_entry av (n := maxL) hav
  rw [lg_entry_eq]
  refine body (p, e, s, m, av.toArray, below, meth, c) _ cx ?_ s.heap [] _ (hlv ▸ hl) hP hD va_S.rf hr
  · intro k n σ1 pc lv x hk hn hd hx hnar hKx H locs ls hl hP hD hS hr
    refine W.widen hk hn (W.zret (ty := ty) B.exec B.bytes B.returns hnar (fun t ht hW => ⟨⟨zI x, σ1, rfl, ⟨x, rfl, hx, hKx⟩, by rw [show zPo _ Ls ad σ1 t = (va_P D zCl (zw dA ad Ls σ1) t.heap ∧ zRG σ1) from rfl, ht]; exact ⟨hP, hr⟩⟩, hS.F ht⟩) hS.2.2 hd B.notSynchronized)
theorem v_sval (cx : zC Ω Γ cc nL own) (hj : (j, w) ∈ zSB) (hw : Cond.fieldLink own idx "java/lang/String" "value" "[B" ∈ zT) (hd : decode cc pc = .ok (.getfield idx, 3)) (h : zV Ω Γ R nL Q k n Ls ad σ (pc + 3) lv (.ref (Ω.2.2.2.2 (j + 50)) :: st)) : zV Ω Γ R nL Q k n Ls ad σ pc lv (.ref (Ω.2.2.2.2 j) :: st) := by
  obtain ⟨l, D, dA, A, sx⟩ := Ω
  obtain ⟨p, e, s, m, args, below, meth, c⟩ := Γ
  obtain ⟨hx', hb, hml, hown, hts, hK, hA, hlk, hst⟩ := cx
  intro H locs ls hl hP hD hS hr
  exact vk_getf hx' hb (hst.2.2.2.2.1 _ hj).2.2.1 hS hown (hts _ hw) (fun _ q => q) hd (h H locs ls hl hP hD hS hr)
theorem v_scod (cx : zC Ω Γ cc nL own) (hj : (j, w) ∈ zSB) (hw : Cond.fieldLink own idx "java/lang/String" "coder" "B" ∈ zT) (hd : decode cc pc = .ok (.getfield idx, 3)) (h : zV Ω Γ R nL Q k n Ls ad σ (pc + 3) lv (.int (zI 0) :: st)) : zV Ω Γ R nL Q k n Ls ad σ pc lv (.ref (Ω.2.2.2.2 j) :: st) := by
  obtain ⟨l, D, dA, A, sx⟩ := Ω
  obtain ⟨p, e, s, m, args, below, meth, c⟩ := Γ
  obtain ⟨hx', hb, hml, hown, hts, hK, hA, hlk, hst⟩ := cx
  intro H locs ls hl hP hD hS hr
  exact vk_getf hx' hb (hst.2.2.2.2.1 _ hj).2.1 hS hown (hts _ hw) (fun _ q => q) hd (h H locs ls hl hP hD hS hr)
theorem v_slen (cx : zC Ω Γ cc nL own) (hj : (j, w) ∈ zSB) (hd : decode cc pc = .ok (.arraylength, 1)) (h : zV Ω Γ R nL Q k n Ls ad σ (pc + 1) lv (.int (zI (w.length : Int)) :: st)) : zV Ω Γ R nL Q k n Ls ad σ pc lv (.ref (Ω.2.2.2.2 (j + 50)) :: st) := by
  obtain ⟨l, D, dA, A, sx⟩ := Ω
  obtain ⟨p, e, s, m, args, below, meth, c⟩ := Γ
  obtain ⟨hx', hb, hml, hown, hts, hK, hA, hlk, hst⟩ := cx
  intro H locs ls hl hP hD hS hr
  exact va_tlen hx' hb (hst.2.2.2.2.1 _ hj).2.2.2 hS (zI_nat _).symm hd (h H locs ls hl hP hD hS hr)
theorem v_sbyt (cx : zC Ω Γ cc nL own) (hj : (j, w) ∈ zSB) (hN : w.length ≤ 2147483648) (h0 : 0 ≤ i) (h1 : i < w.length) (hd : decode cc pc = .ok (.baload, 1)) (h : zV Ω Γ R nL Q k n Ls ad σ (pc + 1) lv (.int (zI (w.getD i.toNat 0)) :: st)) : zV Ω Γ R nL Q k n Ls ad σ pc lv (.int (zI i) :: .ref (Ω.2.2.2.2 (j + 50)) :: st) := by
  obtain ⟨l, D, dA, A, sx⟩ := Ω
  obtain ⟨p, e, s, m, args, below, meth, c⟩ := Γ
  obtain ⟨hx', hb, hml, hown, hts, hK, hA, hlk, hst⟩ := cx
  intro H locs ls hl hP hD hS hr
  have hz : zR i := ⟨by omega, by omega⟩
  refine va_tb hx' hb (hst.2.2.2.2.1 _ hj).2.2.2 hS (zI_in h0 h1 hN) rfl hd ?_
  rw [zI_clamp hz]
  exact h H locs ls hl hP hD hS hr
theorem v_gcs (cx : zC Ω Γ cc nL own) (hw : Cond.fieldLink own idx "java/lang/String" "COMPACT_STRINGS" "Z" ∈ zT) (hd : decode cc pc = .ok (.getstatic idx, 3)) (h : zV Ω Γ R nL Q k n Ls ad σ (pc + 3) lv (.int (zI 1) :: st)) : zV Ω Γ R nL Q k n Ls ad σ pc lv st := by
  obtain ⟨l, D, dA, A, sx⟩ := Ω
  obtain ⟨p, e, s, m, args, below, meth, c⟩ := Γ
  obtain ⟨hx', hb, hml, hown, hts, hK, hA, hlk, hst⟩ := cx
  intro H locs ls hl hP hD hS hr
  exact va_gets hx' hb hst.2.2.2.2.2.1 hS hown (hts _ hw) (fun _ q => q) hd (h H locs ls hl hP hD hS hr)
theorem v_gsf (cx : zC Ω Γ cc nL own) (hw : Cond.fieldLink own idx "jdk/internal/util/Preconditions" "SIOOBE_FORMATTER" "Ljava/util/function/BiFunction;" ∈ zT) (hd : decode cc pc = .ok (.getstatic idx, 3)) (h : ∀ v : Value, (v = .null ∨ ∃ t, v = .ref t) → zV Ω Γ R nL Q k n Ls ad σ (pc + 3) lv (v :: st)) : zV Ω Γ R nL Q k n Ls ad σ pc lv st := by
  obtain ⟨l, D, dA, A, sx⟩ := Ω
  obtain ⟨p, e, s, m, args, below, meth, c⟩ := Γ
  obtain ⟨hx', hb, hml, hown, hts, hK, hA, hlk, hst⟩ := cx
  intro H locs ls hl hP hD hS hr
  rcases hst.2.2.2.2.2.2.2.2.2.1 with hz | ⟨t, hz⟩
  · exact va_gets hx' hb hz hS hown (hts _ hw) (fun _ q => q) hd (h _ (Or.inl rfl) H locs ls hl hP hD hS hr)
  · exact va_gets hx' hb hz hS hown (hts _ hw) (fun _ q => q) hd (h _ (Or.inr ⟨t, rfl⟩) H locs ls hl hP hD hS hr)
theorem z_i2c {x : Int} (h0 : 0 ≤ x) (h1 : x < 65536) : ((zI x).toUInt32 % 65536).toInt32 = zI x := by
  have e : zI x = nI x.toNat := by
    have q := zI_nat x.toNat
    rw [zi_cast h0] at q
    exact q
  rw [e, pk_char, pk_tn (by omega), Nat.mod_eq_of_lt (by omega)]
theorem v_i2c (cx : zC Ω Γ cc nL own) (h0 : 0 ≤ a) (h1 : a < 65536) (hd : decode cc pc = .ok (.i2c, 1)) (h : zV Ω Γ R nL Q k n Ls ad σ (pc + 1) lv (.int (zI a) :: st)) : zV Ω Γ R nL Q k n Ls ad σ pc lv (.int (zI a) :: st) := by
  obtain ⟨l, D, dA, A, sx⟩ := Ω
  obtain ⟨p, e, s, m, args, below, meth, c⟩ := Γ
  obtain ⟨hx', hb, hml, hown, hts, hK, hA, hlk, hst⟩ := cx
  intro H locs ls hl hP hD hS hr
  exact lv_i2c hx' hb hd (z_i2c h0 h1) (h H locs ls hl hP hD hS hr)
theorem v_callTi0 {K : Int → zS → Prop} (cx : zC Ω Γ cc nL own) (hM : zMi Ω y (.code y bytes maxL ret) rm Ls ad (.ref (Ω.2.2.2.2 j) :: As) σ K) (hY : zYv y bytes maxL ret nA) (hln : Cond.methodLink own idx y ∈ zT) (hj : (j, w) ∈ zSB) (hyc : y.cls = "java/lang/String") (hn : As.length = nA) (hs : st0 = As.reverse ++ .ref (Ω.2.2.2.2 j) :: st) (hw : (st.map fun v => v.category).sum ≤ 8) (hR : rm.frames + 1 ≤ R.frames ∧ 8 + (maxL + 11) + rm.locals ≤ R.locals) (hz : rm.cells = 0 ∧ rm.slots = 0) (hf : k ≤ R.cells ∧ n ≤ R.slots) (hd : decode cc pc = .ok (.invokevirtual idx, 3)) (h : ∀ (x : Int) (σ1 : zS), zR x → K x σ1 → zV Ω Γ R nL Q k n Ls ad σ1 (pc + 3) lv (.int (zI x) :: st)) : zV Ω Γ R nL Q k n Ls ad σ pc lv st0 := by
  subst hs
  have hpre := fun {H : Heap} {locs : List Loc} (hP) (hD) (hS : va_S Ω.2.2.2.1 Γ.2.2.1.heap H locs) (hr) => zc_pre (As := .ref (Ω.2.2.2.2 j) :: As) (ad := ad) (Ls := Ls) (σ := σ) cx hP hD hS hr
  obtain ⟨l, D, dA, A, sx⟩ := Ω
  obtain ⟨p, e, s, m, args, below, meth, c⟩ := Γ
  obtain ⟨hx', hb, hml, hown, hts, hK, hA, hlk, hst⟩ := cx
  intro H locs ls hl hP hD hS hr
  have hp := hpre hP hD hS hr
  have cw := cwV (R := R) (own := own) (index := idx) (C := y.cls) (y := y) (bytes := bytes) (maxL := maxL) (ret := ret) (ws := .code y bytes maxL ret :: zT) (rm := rm) nA hts (zGoodL _ (fun w hw => by
    rcases List.mem_append.mp hw with q | q
    · simp only [List.mem_cons, List.not_mem_nil, or_false] at q
      rcases q with rfl | rfl | rfl | rfl
      · exact hln
      · exact hY.2.1
      · exact hY.2.2.1
      · exact hY.2.2.2.1
    · rcases List.mem_cons.mp q with rfl | q
      · exact hY.1
      · exact q)) rfl rfl rfl hY.2.2.2.2 hR
  refine va_calli (va_runV (As := As) (rest := st) (b := sx j) ⟨hx', hb, hml, hown, hts⟩ hM cw ⟨hp.1, by rw [hyc]; exact va_Orecv (hst.2.2.2.2.1 _ hj).1 hS, hp.2⟩ rfl hn hl.1 rfl (lv_room hw) hd (by rw [hz.1, hz.2]; exact hf)) hS (fun q _ h => h) (fun q h => h) (fun r u t H1 locs1 ht hvm hw hB hz1 hk1 hS1 => ?_)
  obtain ⟨x, rfl, hx, hKx⟩ := hw
  obtain ⟨hP1, hr1⟩ := hB
  rw [ht] at hP1
  rw [hz.1, hz.2]
  exact h x u hx hKx H1 locs1 ls hl hP1 (zw_D hD) hS1 hr1
theorem v_callTz0 {K : Int → zS → Prop} (cx : zC Ω Γ cc nL own) (hM : zMz Ω y (.code y bytes maxL ret) rm Ls ad (.ref (Ω.2.2.2.2 j) :: As) σ K) (hY : zYv y bytes maxL ret nA) (hln : Cond.methodLink own idx y ∈ zT) (hj : (j, w) ∈ zSB) (hyc : y.cls = "java/lang/String") (hn : As.length = nA) (hs : st0 = As.reverse ++ .ref (Ω.2.2.2.2 j) :: st) (hw : (st.map fun v => v.category).sum ≤ 8) (hR : rm.frames + 1 ≤ R.frames ∧ 8 + (maxL + 11) + rm.locals ≤ R.locals) (hz : rm.cells = 0 ∧ rm.slots = 0) (hf : k ≤ R.cells ∧ n ≤ R.slots) (hd : decode cc pc = .ok (.invokevirtual idx, 3)) (h : ∀ (x : Int) (σ1 : zS), (x = 0 ∨ x = 1) → K x σ1 → zV Ω Γ R nL Q k n Ls ad σ1 (pc + 3) lv (.int (zI x) :: st)) : zV Ω Γ R nL Q k n Ls ad σ pc lv st0 := by
  subst hs
  have hpre := fun {H : Heap} {locs : List Loc} (hP) (hD) (hS : va_S Ω.2.2.2.1 Γ.2.2.1.heap H locs) (hr) => zc_pre (As := .ref (Ω.2.2.2.2 j) :: As) (ad := ad) (Ls := Ls) (σ := σ) cx hP hD hS hr
  obtain ⟨l, D, dA, A, sx⟩ := Ω
  obtain ⟨p, e, s, m, args, below, meth, c⟩ := Γ
  obtain ⟨hx', hb, hml, hown, hts, hK, hA, hlk, hst⟩ := cx
  intro H locs ls hl hP hD hS hr
  have hp := hpre hP hD hS hr
  have cw := cwV (R := R) (own := own) (index := idx) (C := y.cls) (y := y) (bytes := bytes) (maxL := maxL) (ret := ret) (ws := .code y bytes maxL ret :: zT) (rm := rm) nA hts (zGoodL _ (fun w hw => by
    rcases List.mem_append.mp hw with q | q
    · simp only [List.mem_cons, List.not_mem_nil, or_false] at q
      rcases q with rfl | rfl | rfl | rfl
      · exact hln
      · exact hY.2.1
      · exact hY.2.2.1
      · exact hY.2.2.2.1
    · rcases List.mem_cons.mp q with rfl | q
      · exact hY.1
      · exact q)) rfl rfl rfl hY.2.2.2.2 hR
  refine va_calli (va_runV (As := As) (rest := st) (b := sx j) ⟨hx', hb, hml, hown, hts⟩ hM cw ⟨hp.1, by rw [hyc]; exact va_Orecv (hst.2.2.2.2.1 _ hj).1 hS, hp.2⟩ rfl hn hl.1 rfl (lv_room hw) hd (by rw [hz.1, hz.2]; exact hf)) hS (fun q _ h => h) (fun q h => h) (fun r u t H1 locs1 ht hvm hw hB hz1 hk1 hS1 => ?_)
  obtain ⟨x, rfl, hx, hKx⟩ := hw
  obtain ⟨hP1, hr1⟩ := hB
  rw [ht] at hP1
  rw [hz.1, hz.2]
  exact h x u hx hKx H1 locs1 ls hl hP1 (zw_D hD) hS1 hr1
end ZT2
theorem zSB_ok : ∀ q ∈ zSB, q.2.length ≤ 5 ∧ ∀ x ∈ q.2, 97 ≤ x ∧ x ≤ 122 := by decide +kernel
theorem zSB_at {j : Nat} {w : List Int} (hj : (j, w) ∈ zSB) {i : Int} (h0 : 0 ≤ i) (h1 : i < w.length) : 97 ≤ w.getD i.toNat 0 ∧ w.getD i.toNat 0 ≤ 122 := by
  have hl : i.toNat < w.length := by omega
  rw [List.getD_eq_getElem?_getD, List.getElem?_eq_getElem hl, Option.getD_some]
  exact (zSB_ok _ hj).2 _ (List.getElem_mem hl)
theorem zAnd255 {x : Int} (h0 : 0 ≤ x) (h1 : x < 256) : zAnd x 255 = x := by
  have e : zI x = nI x.toNat := by
    have q := zI_nat x.toNat
    rw [zi_cast h0] at q
    exact q
  have e2 : zI x &&& zI 255 = zI x := by
    rw [e]
    rw [show zI 255 = (255 : Int32) from rfl, pk_andN (n := x.toNat) (by omega) 8 (by decide), Nat.mod_eq_of_lt (by omega)]
  unfold zAnd
  rw [e2, zI_toInt ⟨by omega, by omega⟩]
abbrev rm_J_coder : Room := { frames := 0, cells := 0, slots := 0, locals := 0 }
set_option maxRecDepth 20000 in
theorem s_J_coder {Ω : zO} {ad : Nat → Nat} {j : Nat} {w : List Int} {K : Int → zS → Prop} {σ : zS} (hj : (j, w) ∈ zSB) (h : K 0 σ) : zMi Ω y_J_coder (.code y_J_coder c_J_coder 1 (some .byte)) rm_J_coder zLy ad [.ref (Ω.2.2.2.2 j)] σ K := by
  refine z_oft (lv := [(0, .ref (Ω.2.2.2.2 j))]) (by decide) rfl (Nat.le_of_ble_eq_true rfl) ?_
  intro Γ Q cx rt
  refine v_gcs cx fl_J_38 d_J_coder_0 ?_
  refine v_if_eq cx 13 d_J_coder_3 (by decide) ⟨by decide, by decide⟩ (fun c => absurd c (by decide)) (fun c => ?_)
  refine v_aload_n cx 0 d_J_coder_6 rfl rfl ?_
  refine v_scod cx hj fl_J_15 d_J_coder_7 ?_
  refine v_goto cx 14 d_J_coder_10 (by decide) ?_
  exact rt _ _ _ _ _ _ (Nat.le_of_ble_eq_true rfl) (Nat.le_of_ble_eq_true rfl) d_J_coder_14 zR_0 rfl h
abbrev rm_J_isLat : Room := { frames := 0, cells := 0, slots := 0, locals := 0 }
set_option maxRecDepth 20000 in
theorem s_J_isLat {Ω : zO} {ad : Nat → Nat} {j : Nat} {w : List Int} {K : Int → zS → Prop} {σ : zS} (hj : (j, w) ∈ zSB) (h : K 1 σ) : zMz Ω y_J_isLat (.code y_J_isLat c_J_isLat 1 (some .boolean)) rm_J_isLat zLy ad [.ref (Ω.2.2.2.2 j)] σ K := by
  refine z_ofz (lv := [(0, .ref (Ω.2.2.2.2 j))]) (by decide) rfl (Nat.le_of_ble_eq_true rfl) ?_
  intro Γ Q cx rt
  refine v_gcs cx fl_J_38 d_J_isLat_0 ?_
  refine v_if_eq cx 17 d_J_isLat_3 (by decide) ⟨by decide, by decide⟩ (fun c => absurd c (by decide)) (fun c => ?_)
  refine v_aload_n cx 0 d_J_isLat_6 rfl rfl ?_
  refine v_scod cx hj fl_J_15 d_J_isLat_7 ?_
  refine v_if_ne cx 17 d_J_isLat_10 (by decide) zR_0 (fun c => absurd rfl c) (fun c => ?_)
  refine v_iconst cx d_J_isLat_13 ?_
  refine v_goto cx 18 d_J_isLat_14 (by decide) ?_
  exact rt _ _ _ _ _ _ (Nat.le_of_ble_eq_true rfl) (Nat.le_of_ble_eq_true rfl) d_J_isLat_18 (Or.inr rfl) h
abbrev rm_J_len : Room := { frames := 1, cells := 0, slots := 0, locals := 20 }
theorem zShr0 {x : Int} (h : zR x) : zShr x 0 = x := by
  unfold zShr
  rw [show zI 0 = (0 : Int32) from rfl, sb_shr0, zI_toInt h]
set_option maxRecDepth 20000 in
theorem s_J_len {Ω : zO} {ad : Nat → Nat} {j : Nat} {w : List Int} {K : Int → zS → Prop} {σ : zS} (hj : (j, w) ∈ zSB) (h : K (w.length : Int) σ) : zMi Ω y_J_len (.code y_J_len c_J_len 1 (some .int)) rm_J_len zLy ad [.ref (Ω.2.2.2.2 j)] σ K := by
  have hl5 : w.length ≤ 5 := (zSB_ok _ hj).1
  have hR : zR (w.length : Int) := ⟨by omega, by omega⟩
  refine z_ofi (lv := [(0, .ref (Ω.2.2.2.2 j))]) (by decide) rfl (Nat.le_of_ble_eq_true rfl) ?_
  intro Γ Q cx rt
  refine v_aload_n cx 0 d_J_len_0 rfl rfl ?_
  refine v_sval cx hj fl_J_9 d_J_len_1 ?_
  refine v_slen cx hj d_J_len_4 ?_
  refine v_aload_n cx 0 d_J_len_5 rfl rfl ?_
  refine v_callTi0 (st := [.int (zI (w.length : Int))]) cx (s_J_coder (K := fun x u => x = 0 ∧ u = σ) hj ⟨rfl, rfl⟩) yk_J_coder lk_J_335 hj rfl rfl rfl (Nat.le_of_ble_eq_true rfl) ⟨Nat.le_of_ble_eq_true rfl, Nat.le_of_ble_eq_true rfl⟩ ⟨rfl, rfl⟩ ⟨Nat.le_of_ble_eq_true rfl, Nat.le_of_ble_eq_true rfl⟩ d_J_len_6 (fun x u hx hu => ?_)
  obtain ⟨rfl, rfl⟩ := hu
  refine v_ishr cx d_J_len_9 ?_
  rw [zShr0 hR]
  exact rt _ _ _ _ _ _ (Nat.le_of_ble_eq_true rfl) (Nat.le_of_ble_eq_true rfl) d_J_len_10 hR h
abbrev rm_J_pci : Room := { frames := 0, cells := 0, slots := 0, locals := 0 }
set_option maxRecDepth 20000 in
theorem s_J_pci {Ω : zO} {ad : Nat → Nat} {i N : Int} {v : Value} {K : Int → zS → Prop} {σ : zS} (hv : v = .null ∨ ∃ t, v = .ref t) (h0 : 0 ≤ i) (h1 : i < N) (hN : zR N) (h : K i σ) : zMi Ω y_J_pci (.code y_J_pci c_J_pci 3 (some .int)) rm_J_pci zLy ad [.int (zI i), .int (zI N), v] σ K := by
  have hi : zR i := by unfold zR at *; omega
  have e : lv_args 0 [Value.int (zI i), .int (zI N), v] = [(0, .int (zI i)), (1, .int (zI N)), (2, v)] := by rcases hv with rfl | ⟨t, rfl⟩ <;> rfl
  have e2 : (lg_sl [Value.int (zI i), .int (zI N), v]).length ≤ 3 := by rcases hv with rfl | ⟨t, rfl⟩ <;> exact Nat.le_of_ble_eq_true rfl
  refine z_ofi (lv := [(0, .int (zI i)), (1, .int (zI N)), (2, v)]) (by decide) e e2 ?_
  intro Γ Q cx rt
  refine v_iload_n cx 0 d_J_pci_0 rfl rfl ?_
  refine v_if_lt cx 9 d_J_pci_1 (by decide) hi (fun c => absurd c (by omega)) (fun c => ?_)
  refine v_iload_n cx 0 d_J_pci_4 rfl rfl ?_
  refine v_iload_n cx 1 d_J_pci_5 rfl rfl ?_
  refine v_icmp_lt cx 16 d_J_pci_6 (by decide) hi hN (fun c => ?_) (fun c => absurd c (by omega))
  refine v_iload_n cx 0 d_J_pci_16 rfl rfl ?_
  exact rt _ _ _ _ _ _ (Nat.le_of_ble_eq_true rfl) (Nat.le_of_ble_eq_true rfl) d_J_pci_17 hi h
abbrev rm_J_cki : Room := { frames := 1, cells := 0, slots := 0, locals := 22 }
set_option maxRecDepth 20000 in
theorem s_J_cki {Ω : zO} {ad : Nat → Nat} {i N : Int} {K : zS → Prop} {σ : zS} (h0 : 0 ≤ i) (h1 : i < N) (hN : zR N) (h : K σ) : zMv Ω y_J_cki (.code y_J_cki c_J_cki 2 none) rm_J_cki zLy ad [.int (zI i), .int (zI N)] σ K := by
  refine z_ofv (lv := [(0, .int (zI i)), (1, .int (zI N))]) (by decide) rfl (Nat.le_of_ble_eq_true rfl) ?_
  intro Γ Q cx rt
  refine v_iload_n cx 0 d_J_cki_0 rfl rfl ?_
  refine v_iload_n cx 1 d_J_cki_1 rfl rfl ?_
  refine v_gsf cx fl_J_1053 d_J_cki_2 (fun v hv => ?_)
  refine v_callSi0 (st := []) cx (s_J_pci (K := fun _ u => u = σ) hv h0 h1 hN rfl) yk_J_pci lk_J_1059 rfl rfl (Nat.le_of_ble_eq_true rfl) ⟨Nat.le_of_ble_eq_true rfl, Nat.le_of_ble_eq_true rfl⟩ ⟨rfl, rfl⟩ ⟨Nat.le_of_ble_eq_true rfl, Nat.le_of_ble_eq_true rfl⟩ d_J_cki_5 (fun x u hx hu => ?_)
  subst hu
  refine v_pop cx d_J_cki_8 rfl ?_
  exact rt _ _ _ _ _ (Nat.le_of_ble_eq_true rfl) (Nat.le_of_ble_eq_true rfl) d_J_cki_9 h
theorem z_narC {x : Int} (h0 : 0 ≤ x) (h1 : x < 65536) : narrow .char (.int (zI x)) = .int (zI x) := by
  have e : zI x = nI x.toNat := by
    have q := zI_nat x.toNat
    rw [zi_cast h0] at q
    exact q
  rw [e]
  exact (pk_charN (by omega)).1
abbrev rm_J_chL : Room := { frames := 2, cells := 0, slots := 0, locals := 43 }
set_option maxRecDepth 20000 in
theorem s_J_chL {Ω : zO} {ad : Nat → Nat} {j : Nat} {w : List Int} {i : Int} {K : Int → zS → Prop} {σ : zS} (hj : (j, w) ∈ zSB) (h0 : 0 ≤ i) (h1 : i < w.length) (h : K (w.getD i.toNat 0) σ) : zMi Ω y_J_chL (.code y_J_chL c_J_chL 2 (some .char)) rm_J_chL zLy ad [.ref (Ω.2.2.2.2 (j + 50)), .int (zI i)] σ K := by
  have hl5 : w.length ≤ 5 := (zSB_ok _ hj).1
  obtain ⟨g1, g2⟩ := zSB_at hj h0 h1
  have hR : zR (w.length : Int) := ⟨by omega, by omega⟩
  refine z_oft (lv := [(0, .ref (Ω.2.2.2.2 (j + 50))), (1, .int (zI i))]) (by decide) rfl (Nat.le_of_ble_eq_true rfl) ?_
  intro Γ Q cx rt
  refine v_iload_n cx 1 d_J_chL_0 rfl rfl ?_
  refine v_aload_n cx 0 d_J_chL_1 rfl rfl ?_
  refine v_slen cx hj d_J_chL_2 ?_
  refine v_callSv0 (st := []) cx (s_J_cki (K := fun u => u = σ) h0 h1 hR rfl) yk_J_cki lk_JL_9 rfl rfl (Nat.le_of_ble_eq_true rfl) ⟨Nat.le_of_ble_eq_true rfl, Nat.le_of_ble_eq_true rfl⟩ ⟨rfl, rfl⟩ ⟨Nat.le_of_ble_eq_true rfl, Nat.le_of_ble_eq_true rfl⟩ d_J_chL_3 (fun u hu => ?_)
  subst hu
  refine v_aload_n cx 0 d_J_chL_6 rfl rfl ?_
  refine v_iload_n cx 1 d_J_chL_7 rfl rfl ?_
  refine v_sbyt cx hj (by omega) h0 h1 d_J_chL_8 ?_
  refine v_sipush cx (by decide) d_J_chL_9 ?_
  refine v_iand cx d_J_chL_12 ?_
  rw [zAnd255 (by omega) (by omega)]
  refine v_i2c cx (by omega) (by omega) d_J_chL_13 ?_
  exact rt _ _ _ _ _ _ (Nat.le_of_ble_eq_true rfl) (Nat.le_of_ble_eq_true rfl) d_J_chL_14 ⟨by omega, by omega⟩ (z_narC (by omega) (by omega)) h
abbrev rm_J_charAt : Room := { frames := 3, cells := 0, slots := 0, locals := 64 }
set_option maxRecDepth 20000 in
theorem s_J_charAt {Ω : zO} {ad : Nat → Nat} {j : Nat} {w : List Int} {i : Int} {K : Int → zS → Prop} {σ : zS} (hj : (j, w) ∈ zSB) (h0 : 0 ≤ i) (h1 : i < w.length) (h : K (w.getD i.toNat 0) σ) : zMi Ω y_J_charAt (.code y_J_charAt c_J_charAt 2 (some .char)) rm_J_charAt zLy ad [.ref (Ω.2.2.2.2 j), .int (zI i)] σ K := by
  obtain ⟨g1, g2⟩ := zSB_at hj h0 h1
  refine z_oft (lv := [(0, .ref (Ω.2.2.2.2 j)), (1, .int (zI i))]) (by decide) rfl (Nat.le_of_ble_eq_true rfl) ?_
  intro Γ Q cx rt
  refine v_aload_n cx 0 d_J_charAt_0 rfl rfl ?_
  refine v_callTz0 (st := []) cx (s_J_isLat (K := fun x u => x = 1 ∧ u = σ) hj ⟨rfl, rfl⟩) yk_J_isLat lk_J_492 hj rfl rfl rfl (Nat.le_of_ble_eq_true rfl) ⟨Nat.le_of_ble_eq_true rfl, Nat.le_of_ble_eq_true rfl⟩ ⟨rfl, rfl⟩ ⟨Nat.le_of_ble_eq_true rfl, Nat.le_of_ble_eq_true rfl⟩ d_J_charAt_1 (fun x u hx hu => ?_)
  obtain ⟨rfl, rfl⟩ := hu
  refine v_if_eq cx 16 d_J_charAt_4 (by decide) ⟨by decide, by decide⟩ (fun c => absurd c (by decide)) (fun c => ?_)
  refine v_aload_n cx 0 d_J_charAt_7 rfl rfl ?_
  refine v_sval cx hj fl_J_9 d_J_charAt_8 ?_
  refine v_iload_n cx 1 d_J_charAt_11 rfl rfl ?_
  refine v_callSi0 (st := []) cx (s_J_chL (K := fun x v => x = w.getD i.toNat 0 ∧ v = u) hj h0 h1 ⟨rfl, rfl⟩) yk_J_chL lk_J_495 rfl rfl (Nat.le_of_ble_eq_true rfl) ⟨Nat.le_of_ble_eq_true rfl, Nat.le_of_ble_eq_true rfl⟩ ⟨rfl, rfl⟩ ⟨Nat.le_of_ble_eq_true rfl, Nat.le_of_ble_eq_true rfl⟩ d_J_charAt_12 (fun x v hx hu => ?_)
  obtain ⟨rfl, rfl⟩ := hu
  exact rt _ _ _ _ _ _ (Nat.le_of_ble_eq_true rfl) (Nat.le_of_ble_eq_true rfl) d_J_charAt_15 hx (z_narC (by omega) (by omega)) h
def q_J_len (w : List Int) (K : Int → zS → Prop) (σ : zS) : Prop := K (w.length : Int) σ
def q_J_charAt (w : List Int) (i : Int) (K : Int → zS → Prop) (σ : zS) : Prop := (0 ≤ i ∧ i < w.length) ∧ K (w.getD i.toNat 0) σ
theorem s2_J_len {Ω : zO} {ad : Nat → Nat} {j : Nat} {w : List Int} {K : Int → zS → Prop} {σ : zS} (hj : (j, w) ∈ zSB) (h : q_J_len w K σ) : zMi Ω y_J_len (.code y_J_len c_J_len 1 (some .int)) rm_J_len zLy ad [.ref (Ω.2.2.2.2 j)] σ K := s_J_len hj h
theorem s2_J_charAt {Ω : zO} {ad : Nat → Nat} {j : Nat} {w : List Int} {i : Int} {K : Int → zS → Prop} {σ : zS} (hj : (j, w) ∈ zSB) (_ : zR i) (h : q_J_charAt w i K σ) : zMi Ω y_J_charAt (.code y_J_charAt c_J_charAt 2 (some .char)) rm_J_charAt zLy ad [.ref (Ω.2.2.2.2 j), .int (zI i)] σ K := s_J_charAt hj h.1.1 h.1.2 h.2

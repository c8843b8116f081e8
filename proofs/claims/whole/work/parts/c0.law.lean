/-! ===== the law's loop ===== -/
theorem zAnd_63 (x : Int) : 0 ≤ zAnd x 63 ∧ zAnd x 63 < 64 := by
  have e : zAnd x 63 = (zI x &&& zI 63).toInt := rfl
  have h : ∀ y : BitVec 32, 0 ≤ (y &&& 63#32).toInt ∧ (y &&& 63#32).toInt < 64 := fun y => by
    have h1 : (y &&& 63#32).toNat ≤ 63 := by
      rw [BitVec.toNat_and]
      exact Nat.and_le_right
    rw [BitVec.toInt_eq_toNat_of_lt (by omega)]
    omega
  rw [e]
  exact h (zI x).toBitVec
/-- the script, which lies outside the world -/
def zScr (Ω : zO) (Γ : zM) (b L : Nat) (xs : Nat → Int32) : Prop := va_X b L xs Γ.2.2.1 Γ.2.2.1.heap ∧ b < Γ.2.2.1.heap.size ∧ ¬ Ω.2.2.2.1 b ∧ L ≤ 3072
def zx (xs : Nat → Int32) (i : Int) : Int := (xs i.toNat).toInt
theorem zx_R (xs : Nat → Int32) (i : Int) : zR (zx xs i) := ⟨Int32.le_toInt _, by have := Int32.toInt_lt (xs i.toNat); unfold zx; omega⟩
theorem zk1 {k a N : Nat} (h : k + 24 ≤ N) (ha : a ≤ 24) : k + a ≤ N := by omega
theorem zk2 {k a b N : Nat} (h : k + 24 ≤ N) (ha : a + b ≤ 24) : k + a + b ≤ N := by omega
theorem zk3 {k a b c N : Nat} (h : k + 24 ≤ N) (ha : a + b + c ≤ 24) : k + a + b + c ≤ N := by omega
theorem zn1 {k a N : Nat} (h : k + 216 ≤ N) (ha : a ≤ 216) : k + a ≤ N := by omega
theorem zn2 {k a b N : Nat} (h : k + 216 ≤ N) (ha : a + b ≤ 216) : k + a + b ≤ N := by omega
theorem zn3 {k a b c N : Nat} (h : k + 216 ≤ N) (ha : a + b + c ≤ 216) : k + a + b + c ≤ N := by omega
section ZLW
variable {Ω : zO} {Γ : zM} {R : Room} {nL k n : Nat} {Q : State → Prop} {Ls : List zL} {ad : Nat → Nat} {σ : zS} {pc : Nat} {lv lv' : List (Nat × Value)} {st : List Value} {cc : ByteArray} {own : String} {b L : Nat} {xs : Nat → Int32} {i : Int}
theorem v_sld (cx : zC Ω Γ cc nL own) (sc : zScr Ω Γ b L xs) (h0 : 0 ≤ i) (h1 : i < L) (hd : decode cc pc = .ok (.iaload, 1)) (h : zV Ω Γ R nL Q k n Ls ad σ (pc + 1) lv (.int (zI (zx xs i)) :: st)) : zV Ω Γ R nL Q k n Ls ad σ pc lv (.int (zI i) :: .ref b :: st) := by
  obtain ⟨l, D, dA, A, sx⟩ := Ω
  obtain ⟨p, e, s, m, args, below, meth, c⟩ := Γ
  obtain ⟨hx', hb, hml, hown, hts, hK, hA, hlk, hst⟩ := cx
  intro H locs ls hl hP hD hS hr
  have hL : L ≤ 3072 := sc.2.2.2
  refine va_sld hx' hb sc.1 sc.2.1 sc.2.2.1 hS (zI_in h0 h1 (by omega)) hd ?_
  rw [zI_clamp ⟨by omega, by omega⟩, ← zI_of (xs i.toNat)]
  exact h H locs ls hl hP hD hS hr
theorem v_scrlen (cx : zC Ω Γ cc nL own) (sc : zScr Ω Γ b L xs) (hd : decode cc pc = .ok (.arraylength, 1)) (h : zV Ω Γ R nL Q k n Ls ad σ (pc + 1) lv (.int (zI (L : Int)) :: st)) : zV Ω Γ R nL Q k n Ls ad σ pc lv (.ref b :: st) := by
  obtain ⟨l, D, dA, A, sx⟩ := Ω
  obtain ⟨p, e, s, m, args, below, meth, c⟩ := Γ
  obtain ⟨hx', hb, hml, hown, hts, hK, hA, hlk, hst⟩ := cx
  intro H locs ls hl hP hD hS hr
  exact va_slen hx' hb sc.1 sc.2.1 sc.2.2.1 hS hd (h H locs ls hl hP hD hS hr)
theorem v_tabIn (cx : zC Ω Γ cc nL own) {a : Int} {dflt lo hi : Int} {offs : Array Int} {len : Nat} {off : Int} (tgt : Nat) (ha : zR a) (hd : decode cc pc = .ok (.tableswitch dflt lo hi offs, len)) (h1 : ¬ a < lo) (h2 : ¬ hi < a) (ho : offs[(a - lo).toNat]? = some off) (ht : (pc : Int) + off = (tgt : Int)) (h : zV Ω Γ R nL Q k n Ls ad σ tgt lv st) : zV Ω Γ R nL Q k n Ls ad σ pc lv (.int (zI a) :: st) := by
  obtain ⟨l, D, dA, A, sx⟩ := Ω
  obtain ⟨p, e, s, m, args, below, meth, c⟩ := Γ
  obtain ⟨hx', hb, hml, hown, hts, hK, hA, hlk, hst⟩ := cx
  intro H locs ls hl hP hD hS hr
  exact lv_tableIn hx' hb hd (by rw [zI_toInt ha]; exact h1) (by rw [zI_toInt ha]; exact h2) (by rw [zI_toInt ha]; exact ho) ht (h H locs ls hl hP hD hS hr)
theorem v_tabOut (cx : zC Ω Γ cc nL own) {a : Int} {dflt lo hi : Int} {offs : Array Int} {len : Nat} (tgt : Nat) (ha : zR a) (hd : decode cc pc = .ok (.tableswitch dflt lo hi offs, len)) (h1 : a < lo ∨ hi < a) (ht : (pc : Int) + dflt = (tgt : Int)) (h : zV Ω Γ R nL Q k n Ls ad σ tgt lv st) : zV Ω Γ R nL Q k n Ls ad σ pc lv (.int (zI a) :: st) := by
  obtain ⟨l, D, dA, A, sx⟩ := Ω
  obtain ⟨p, e, s, m, args, below, meth, c⟩ := Γ
  obtain ⟨hx', hb, hml, hown, hts, hK, hA, hlk, hst⟩ := cx
  intro H locs ls hl hP hD hS hr
  exact lv_tableOut hx' hb hd (by rw [zI_toInt ha]; exact h1) ht (h H locs ls hl hP hD hS hr)
end ZLW

theorem pr_landA {σ : zS} (hi : INV σ) : q_A_land (fun r u => q_M_land (fun v w => Agr r v w) u) σ := pr_land hi
theorem zk1' {k a : Nat} (ha : a ≤ 24) : k + a ≤ k + 24 := by omega
theorem zk2' {k a b : Nat} (ha : a + b ≤ 24) : k + a + b ≤ k + 24 := by omega
theorem zk3' {k a b c : Nat} (ha : a + b + c ≤ 24) : k + a + b + c ≤ k + 24 := by omega
theorem zn1' {k a : Nat} (ha : a ≤ 216) : k + a ≤ k + 216 := by omega
theorem zn2' {k a b : Nat} (ha : a + b ≤ 216) : k + a + b ≤ k + 216 := by omega
theorem zn3' {k a b c : Nat} (ha : a + b + c ≤ 216) : k + a + b + c ≤ k + 216 := by omega
def nz (x : Int) : Int := if x = 0 then 0 else 1
theorem nz_b (x : Int) : nz x = 0 ∨ nz x = 1 := by
  unfold nz
  split
  · exact Or.inl rfl
  · exact Or.inr rfl
theorem v_bit {Ω : zO} {Γ : zM} {R : Room} {nL k n : Nat} {Q : State → Prop} {Ls : List zL} {ad : Nat → Nat} {σ : zS} {pc : Nat} {lv : List (Nat × Value)} {st : List Value} {cc : ByteArray} {own : String} (cx : zC Ω Γ cc nL own) {a : Int} {off off2 : Int} {t0 t1 : Nat} (hd : decode cc pc = .ok (.ifCond .eq off, 3)) (ht : (pc : Int) + off = (t0 : Int)) (hd1 : decode cc (pc + 3) = .ok (.iconst 1, 1)) (hd2 : decode cc (pc + 3 + 1) = .ok (.goto off2, 3)) (ht2 : ((pc + 3 + 1 : Nat) : Int) + off2 = (t1 : Int)) (hd3 : decode cc t0 = .ok (.iconst 0, 1)) (ha : zR a) (h : zV Ω Γ R nL Q k n Ls ad σ t1 lv (.int (zI (nz a)) :: st)) (e : t0 + 1 = t1 := by rfl) : zV Ω Γ R nL Q k n Ls ad σ pc lv (.int (zI a) :: st) := by
  refine v_if_eq cx t0 hd ht ha (fun c => ?_) (fun c => ?_)
  · refine v_iconst cx hd3 ?_
    rw [e]
    unfold nz at h
    rw [if_pos c] at h
    exact h
  · refine v_iconst cx hd1 ?_
    refine v_goto cx t1 hd2 ht2 ?_
    unfold nz at h
    rw [if_neg c] at h
    exact h
theorem lw_A_109 : Cond.methodLink "GentleRoadLaw" 109 y_R_feed ∈ zT := ztc2 89 (by decide +kernel) rfl
theorem lw_A_113 : Cond.methodLink "GentleRoadLaw" 113 y_M_feed ∈ zT := ztc8 167 (by decide +kernel) rfl
theorem lw_A_114 : Cond.methodLink "GentleRoadLaw" 114 y_R_end ∈ zT := ztc2 105 (by decide +kernel) rfl
theorem lw_A_118 : Cond.methodLink "GentleRoadLaw" 118 y_M_end ∈ zT := ztc8 171 (by decide +kernel) rfl
theorem lw_A_119 : Cond.methodLink "GentleRoadLaw" 119 y_A_land ∈ zT := ztc2 204 (by decide +kernel) rfl
theorem lw_A_124 : Cond.methodLink "GentleRoadLaw" 124 y_M_land ∈ zT := ztc8 175 (by decide +kernel) rfl
theorem lw_A_125 : Cond.methodLink "GentleRoadLaw" 125 y_M_thrown ∈ zT := ztc8 108 (by decide +kernel) rfl
theorem lw_A_128 : Cond.methodLink "GentleRoadLaw" 128 y_R_fault ∈ zT := ztc2 113 (by decide +kernel) rfl
theorem lw_A_131 : Cond.methodLink "GentleRoadLaw" 131 y_M_fault ∈ zT := ztc8 233 (by decide +kernel) rfl
theorem lw_A_132 : Cond.methodLink "GentleRoadLaw" 132 y_A_place ∈ zT := ztc3 168 (by decide +kernel) rfl
theorem lw_A_135 : Cond.methodLink "GentleRoadLaw" 135 y_M_place ∈ zT := ztc8 237 (by decide +kernel) rfl
theorem lw_A_136 : Cond.methodLink "GentleRoadLaw" 136 y_A_term ∈ zT := ztc4 15 (by decide +kernel) rfl
theorem lw_A_139 : Cond.methodLink "GentleRoadLaw" 139 y_M_term ∈ zT := ztc9 31 (by decide +kernel) rfl
theorem lw_A_140 : Cond.methodLink "GentleRoadLaw" 140 y_A_tune ∈ zT := ztc4 23 (by decide +kernel) rfl
theorem lw_A_142 : Cond.methodLink "GentleRoadLaw" 142 y_M_tune ∈ zT := ztc9 35 (by decide +kernel) rfl
theorem lw_A_143 : Cond.methodLink "GentleRoadLaw" 143 y_A_raise ∈ zT := ztc4 54 (by decide +kernel) rfl
theorem lw_A_145 : Cond.methodLink "GentleRoadLaw" 145 y_M_raise ∈ zT := ztc9 43 (by decide +kernel) rfl
theorem lw_A_146 : Cond.methodLink "GentleRoadLaw" 146 y_A_flood ∈ zT := ztc4 65 (by decide +kernel) rfl
theorem lw_A_149 : Cond.methodLink "GentleRoadLaw" 149 y_M_flood ∈ zT := ztc9 47 (by decide +kernel) rfl
theorem lw_A_150 : Cond.methodLink "GentleRoadLaw" 150 y_A_build ∈ zT := ztc4 76 (by decide +kernel) rfl
theorem lw_A_153 : Cond.methodLink "GentleRoadLaw" 153 y_M_build ∈ zT := ztc9 51 (by decide +kernel) rfl
theorem lw_A_154 : Cond.methodLink "GentleRoadLaw" 154 y_A_drop ∈ zT := ztc6 16 (by decide +kernel) rfl
theorem lw_A_156 : Cond.methodLink "GentleRoadLaw" 156 y_M_drop ∈ zT := ztc9 117 (by decide +kernel) rfl
theorem lw_A_157 : Cond.methodLink "GentleRoadLaw" 157 y_A_level ∈ zT := ztc6 31 (by decide +kernel) rfl
theorem lw_A_159 : Cond.methodLink "GentleRoadLaw" 159 y_M_level ∈ zT := ztc9 125 (by decide +kernel) rfl
theorem lw_A_160 : Cond.methodLink "GentleRoadLaw" 160 y_A_undo ∈ zT := ztc6 86 (by decide +kernel) rfl
theorem lw_A_162 : Cond.methodLink "GentleRoadLaw" 162 y_M_undo ∈ zT := ztc9 121 (by decide +kernel) rfl
theorem lw_A_163 : Cond.methodLink "GentleRoadLaw" 163 y_A_best ∈ zT := ztc6 99 (by decide +kernel) rfl
theorem lw_A_165 : Cond.methodLink "GentleRoadLaw" 165 y_M_best ∈ zT := ztc9 163 (by decide +kernel) rfl
theorem lw_A_166 : Cond.methodLink "GentleRoadLaw" 166 y_A_along ∈ zT := ztc6 110 (by decide +kernel) rfl
theorem lw_A_169 : Cond.methodLink "GentleRoadLaw" 169 y_M_along ∈ zT := ztc9 167 (by decide +kernel) rfl
theorem lw_A_170 : Cond.methodLink "GentleRoadLaw" 170 y_A_reach ∈ zT := ztc6 117 (by decide +kernel) rfl
theorem lw_A_172 : Cond.methodLink "GentleRoadLaw" 172 y_M_reach ∈ zT := ztc9 171 (by decide +kernel) rfl
theorem lw_A_173 : Cond.methodLink "GentleRoadLaw" 173 y_A_grade ∈ zT := ztc6 139 (by decide +kernel) rfl
theorem lw_A_175 : Cond.methodLink "GentleRoadLaw" 175 y_M_grade ∈ zT := ztc9 187 (by decide +kernel) rfl
theorem lw_A_176 : Cond.methodLink "GentleRoadLaw" 176 y_A_gate ∈ zT := ztc6 154 (by decide +kernel) rfl
theorem lw_A_178 : Cond.methodLink "GentleRoadLaw" 178 y_M_gate ∈ zT := ztc9 195 (by decide +kernel) rfl
theorem lw_A_179 : Cond.methodLink "GentleRoadLaw" 179 y_A_bored ∈ zT := ztc6 181 (by decide +kernel) rfl
theorem lw_A_181 : Cond.methodLink "GentleRoadLaw" 181 y_M_bored ∈ zT := ztc9 199 (by decide +kernel) rfl
theorem lw_A_182 : Cond.methodLink "GentleRoadLaw" 182 y_A_meet ∈ zT := ztc6 192 (by decide +kernel) rfl
theorem lw_A_184 : Cond.methodLink "GentleRoadLaw" 184 y_M_meet ∈ zT := ztc9 211 (by decide +kernel) rfl
theorem lw_A_185 : Cond.methodLink "GentleRoadLaw" 185 y_A_round ∈ zT := ztc6 224 (by decide +kernel) rfl
theorem lw_A_187 : Cond.methodLink "GentleRoadLaw" 187 y_M_round ∈ zT := ztc9 219 (by decide +kernel) rfl
theorem lw_A_188 : Cond.methodLink "GentleRoadLaw" 188 y_A_road ∈ zT := ztc7 10 (by decide +kernel) rfl
theorem lw_A_190 : Cond.methodLink "GentleRoadLaw" 190 y_M_road ∈ zT := ztc9 231 (by decide +kernel) rfl
theorem lw_A_191 : Cond.methodLink "GentleRoadLaw" 191 y_A_at ∈ zT := ztc7 106 (by decide +kernel) rfl
theorem lw_A_194 : Cond.methodLink "GentleRoadLaw" 194 y_M_at ∈ zT := ztc10 51 (by decide +kernel) rfl
theorem lw_A_195 : Cond.methodLink "GentleRoadLaw" 195 y_A_earth ∈ zT := ztc7 115 (by decide +kernel) rfl
theorem lw_A_197 : Cond.methodLink "GentleRoadLaw" 197 y_M_earth ∈ zT := ztc9 159 (by decide +kernel) rfl
theorem lw_A_198 : Cond.methodLink "GentleRoadLaw" 198 y_A_water ∈ zT := ztc7 122 (by decide +kernel) rfl
theorem lw_A_200 : Cond.methodLink "GentleRoadLaw" 200 y_M_water ∈ zT := ztc8 112 (by decide +kernel) rfl
theorem lw_A_201 : Cond.methodLink "GentleRoadLaw" 201 y_A_bridges ∈ zT := ztc7 150 (by decide +kernel) rfl
theorem lw_A_203 : Cond.methodLink "GentleRoadLaw" 203 y_M_bridges ∈ zT := ztc8 152 (by decide +kernel) rfl
theorem lw_A_204 : Cond.methodLink "GentleRoadLaw" 204 y_A_joins ∈ zT := ztc7 164 (by decide +kernel) rfl
theorem lw_A_206 : Cond.methodLink "GentleRoadLaw" 206 y_M_joins ∈ zT := ztc10 59 (by decide +kernel) rfl
theorem lw_A_207 : Cond.methodLink "GentleRoadLaw" 207 y_A_spare ∈ zT := ztc7 178 (by decide +kernel) rfl
theorem lw_A_209 : Cond.methodLink "GentleRoadLaw" 209 y_M_spare ∈ zT := ztc10 63 (by decide +kernel) rfl
theorem lw_A_210 : Cond.methodLink "GentleRoadLaw" 210 y_A_stages ∈ zT := ztc7 208 (by decide +kernel) rfl
theorem lw_A_212 : Cond.methodLink "GentleRoadLaw" 212 y_M_stages ∈ zT := ztc10 67 (by decide +kernel) rfl
theorem lw_A_213 : Cond.methodLink "GentleRoadLaw" 213 y_A_common ∈ zT := ztc7 223 (by decide +kernel) rfl
theorem lw_A_215 : Cond.methodLink "GentleRoadLaw" 215 y_M_common ∈ zT := ztc10 55 (by decide +kernel) rfl
theorem lw_A_216 : Cond.methodLink "GentleRoadLaw" 216 y_R_image ∈ zT := ztc2 117 (by decide +kernel) rfl
theorem lw_A_219 : Cond.methodLink "GentleRoadLaw" 219 y_M_image ∈ zT := ztc10 75 (by decide +kernel) rfl
theorem lw_A_220 : Cond.methodLink "GentleRoadLaw" 220 y_R_back ∈ zT := ztc2 125 (by decide +kernel) rfl
theorem lw_A_224 : Cond.methodLink "GentleRoadLaw" 224 y_M_back ∈ zT := ztc10 79 (by decide +kernel) rfl
theorem lw_A_225 : Cond.methodLink "GentleRoadLaw" 225 y_R_count ∈ zT := ztc2 157 (by decide +kernel) rfl
theorem lw_A_228 : Cond.methodLink "GentleRoadLaw" 228 y_M_count ∈ zT := ztc10 83 (by decide +kernel) rfl
set_option maxRecDepth 20000 in
theorem c_A_0 {Ω : zO} {Γ : zM} {k n : Nat} {Q : State → Prop} {ad : Nat → Nat} {σ : zS} {b L : Nat} {xs : Nat → Int32} {i : Int} (cx : zC Ω Γ c_A_law 7 "GentleRoadLaw") (sc : zScr Ω Γ b L xs) (hi : 0 ≤ i ∧ i + 6 ≤ L) (inv : INV σ) (hk : k + 24 ≤ room_1.cells) (hn : n + 216 ≤ room_1.slots) (nx : ∀ σ', INV σ' → zV Ω Γ room_1 7 Q (k + 24) (n + 216) zLy ad σ' 2235 [(0, .ref b), (1, .ref (ad 0)), (2, .ref (ad 41)), (3, .ref (ad 64)), (4, .int (zI i))] []) : zV Ω Γ room_1 7 Q k n zLy ad σ 188 [(0, .ref b), (1, .ref (ad 0)), (2, .ref (ad 41)), (3, .ref (ad 64)), (4, .int (zI i))] [] := by
  refine v_aload_n cx 1 d_A_law_188 rfl rfl ?_
  refine v_aload_n cx 0 d_A_law_189 rfl rfl ?_
  refine v_iload cx 4 d_A_law_190 rfl ?_
  refine v_iconst cx d_A_law_192 ?_
  refine v_iadd cx d_A_law_193 ?_
  refine v_sld cx sc (by omega) (by omega) d_A_law_194 ?_
  refine v_aload_n cx 0 d_A_law_195 rfl rfl ?_
  refine v_iload cx 4 d_A_law_196 rfl ?_
  refine v_iconst cx d_A_law_198 ?_
  refine v_iadd cx d_A_law_199 ?_
  refine v_sld cx sc (by omega) (by omega) d_A_law_200 ?_
  refine v_aload_n cx 0 d_A_law_201 rfl rfl ?_
  refine v_iload cx 4 d_A_law_202 rfl ?_
  refine v_iconst cx d_A_law_204 ?_
  refine v_iadd cx d_A_law_205 ?_
  refine v_sld cx sc (by omega) (by omega) d_A_law_206 ?_
  refine v_aload_n cx 0 d_A_law_207 rfl rfl ?_
  refine v_iload cx 4 d_A_law_208 rfl ?_
  refine v_iconst cx d_A_law_210 ?_
  refine v_iadd cx d_A_law_211 ?_
  refine v_sld cx sc (by omega) (by omega) d_A_law_212 ?_
  refine v_aload_n cx 0 d_A_law_213 rfl rfl ?_
  refine v_iload cx 4 d_A_law_214 rfl ?_
  refine v_iconst cx d_A_law_216 ?_
  refine v_iadd cx d_A_law_217 ?_
  refine v_sld cx sc (by omega) (by omega) d_A_law_218 ?_
  refine v_callVi (st := []) cx (s_R_feed (zx_R _ _) (zx_R _ _) (zx_R _ _) (zx_R _ _) (zx_R _ _) (pr_feed inv)) yk_R_feed lw_A_109 zl_0 rfl rfl rfl (Nat.le_of_ble_eq_true rfl) ⟨(Nat.le_of_ble_eq_true rfl), (Nat.le_of_ble_eq_true rfl)⟩ ⟨zk1 hk (Nat.le_of_ble_eq_true rfl), zn1 hn (Nat.le_of_ble_eq_true rfl)⟩ d_A_law_219 (fun r u hr h => ?_)
  refine v_aload_n cx 2 d_A_law_222 rfl rfl ?_
  refine v_aload_n cx 0 d_A_law_223 rfl rfl ?_
  refine v_iload cx 4 d_A_law_224 rfl ?_
  refine v_iconst cx d_A_law_226 ?_
  refine v_iadd cx d_A_law_227 ?_
  refine v_sld cx sc (by omega) (by omega) d_A_law_228 ?_
  refine v_aload_n cx 0 d_A_law_229 rfl rfl ?_
  refine v_iload cx 4 d_A_law_230 rfl ?_
  refine v_iconst cx d_A_law_232 ?_
  refine v_iadd cx d_A_law_233 ?_
  refine v_sld cx sc (by omega) (by omega) d_A_law_234 ?_
  refine v_aload_n cx 0 d_A_law_235 rfl rfl ?_
  refine v_iload cx 4 d_A_law_236 rfl ?_
  refine v_iconst cx d_A_law_238 ?_
  refine v_iadd cx d_A_law_239 ?_
  refine v_sld cx sc (by omega) (by omega) d_A_law_240 ?_
  refine v_aload_n cx 0 d_A_law_241 rfl rfl ?_
  refine v_iload cx 4 d_A_law_242 rfl ?_
  refine v_iconst cx d_A_law_244 ?_
  refine v_iadd cx d_A_law_245 ?_
  refine v_sld cx sc (by omega) (by omega) d_A_law_246 ?_
  refine v_aload_n cx 0 d_A_law_247 rfl rfl ?_
  refine v_iload cx 4 d_A_law_248 rfl ?_
  refine v_iconst cx d_A_law_250 ?_
  refine v_iadd cx d_A_law_251 ?_
  refine v_sld cx sc (by omega) (by omega) d_A_law_252 ?_
  refine v_callVi (st := [.int (zI r)]) cx (s_M_feed (zx_R _ _) (zx_R _ _) (zx_R _ _) (zx_R _ _) (zx_R _ _) h) yk_M_feed lw_A_113 zl_41 rfl rfl rfl (Nat.le_of_ble_eq_true rfl) ⟨(Nat.le_of_ble_eq_true rfl), (Nat.le_of_ble_eq_true rfl)⟩ ⟨zk2 hk (Nat.le_of_ble_eq_true rfl), zn2 hn (Nat.le_of_ble_eq_true rfl)⟩ d_A_law_253 (fun v u2 hv h => ?_)
  refine v_icmp_eq cx 2235 d_A_law_256 (by decide) hr hv (fun _ => ?_) (fun c => absurd h.1 c)
  exact v_widen (zk2' (Nat.le_of_ble_eq_true rfl)) (zn2' (Nat.le_of_ble_eq_true rfl)) (nx _ h.2)
set_option maxRecDepth 20000 in
theorem c_A_1 {Ω : zO} {Γ : zM} {k n : Nat} {Q : State → Prop} {ad : Nat → Nat} {σ : zS} {b L : Nat} {xs : Nat → Int32} {i : Int} (cx : zC Ω Γ c_A_law 7 "GentleRoadLaw") (sc : zScr Ω Γ b L xs) (hi : 0 ≤ i ∧ i + 6 ≤ L) (inv : INV σ) (hk : k + 24 ≤ room_1.cells) (hn : n + 216 ≤ room_1.slots) (nx : ∀ σ', INV σ' → zV Ω Γ room_1 7 Q (k + 24) (n + 216) zLy ad σ' 2235 [(0, .ref b), (1, .ref (ad 0)), (2, .ref (ad 41)), (3, .ref (ad 64)), (4, .int (zI i))] []) : zV Ω Γ room_1 7 Q k n zLy ad σ 261 [(0, .ref b), (1, .ref (ad 0)), (2, .ref (ad 41)), (3, .ref (ad 64)), (4, .int (zI i))] [] := by
  refine v_aload_n cx 1 d_A_law_261 rfl rfl ?_
  refine v_aload_n cx 0 d_A_law_262 rfl rfl ?_
  refine v_iload cx 4 d_A_law_263 rfl ?_
  refine v_iconst cx d_A_law_265 ?_
  refine v_iadd cx d_A_law_266 ?_
  refine v_sld cx sc (by omega) (by omega) d_A_law_267 ?_
  refine v_callVz (st := []) cx (s_R_end (zx_R _ _) (pr_end inv)) yk_R_end lw_A_114 zl_0 rfl rfl rfl (Nat.le_of_ble_eq_true rfl) ⟨(Nat.le_of_ble_eq_true rfl), (Nat.le_of_ble_eq_true rfl)⟩ ⟨zk1 hk (Nat.le_of_ble_eq_true rfl), zn1 hn (Nat.le_of_ble_eq_true rfl)⟩ d_A_law_268 (fun r u hr h => ?_)
  refine v_aload_n cx 2 d_A_law_271 rfl rfl ?_
  refine v_aload_n cx 0 d_A_law_272 rfl rfl ?_
  refine v_iload cx 4 d_A_law_273 rfl ?_
  refine v_iconst cx d_A_law_275 ?_
  refine v_iadd cx d_A_law_276 ?_
  refine v_sld cx sc (by omega) (by omega) d_A_law_277 ?_
  refine v_callVz (st := [.int (zI r)]) cx (s_M_end (zx_R _ _) h) yk_M_end lw_A_118 zl_41 rfl rfl rfl (Nat.le_of_ble_eq_true rfl) ⟨(Nat.le_of_ble_eq_true rfl), (Nat.le_of_ble_eq_true rfl)⟩ ⟨zk2 hk (Nat.le_of_ble_eq_true rfl), zn2 hn (Nat.le_of_ble_eq_true rfl)⟩ d_A_law_278 (fun v u2 hv h => ?_)
  refine v_icmp_eq cx 2235 d_A_law_281 (by decide) (zR_b hr) (zR_b hv) (fun _ => ?_) (fun c => absurd h.1 c)
  exact v_widen (zk2' (Nat.le_of_ble_eq_true rfl)) (zn2' (Nat.le_of_ble_eq_true rfl)) (nx _ h.2)
set_option maxRecDepth 20000 in
theorem c_A_2 {Ω : zO} {Γ : zM} {k n : Nat} {Q : State → Prop} {ad : Nat → Nat} {σ : zS} {b L : Nat} {xs : Nat → Int32} {i : Int} (cx : zC Ω Γ c_A_law 7 "GentleRoadLaw") (sc : zScr Ω Γ b L xs) (hi : 0 ≤ i ∧ i + 6 ≤ L) (inv : INV σ) (hk : k + 24 ≤ room_1.cells) (hn : n + 216 ≤ room_1.slots) (nx : ∀ σ', INV σ' → zV Ω Γ room_1 7 Q (k + 24) (n + 216) zLy ad σ' 2235 [(0, .ref b), (1, .ref (ad 0)), (2, .ref (ad 41)), (3, .ref (ad 64)), (4, .int (zI i))] []) : zV Ω Γ room_1 7 Q k n zLy ad σ 286 [(0, .ref b), (1, .ref (ad 0)), (2, .ref (ad 41)), (3, .ref (ad 64)), (4, .int (zI i))] [] := by
  refine v_aload_n cx 1 d_A_law_286 rfl rfl ?_
  refine v_aload_n cx 3 d_A_law_287 rfl rfl ?_
  refine v_wcall (st := []) cx (s_A_land  (pr_landA inv)) yk_A_land lw_A_119 rfl rfl (Nat.le_of_ble_eq_true rfl) ⟨(Nat.le_of_ble_eq_true rfl), (Nat.le_of_ble_eq_true rfl)⟩ ⟨zk1 hk (Nat.le_of_ble_eq_true rfl), zn1 hn (Nat.le_of_ble_eq_true rfl)⟩ d_A_law_288 (fun r u hr h => ?_)
  refine v_istore (lv' := [(0, .ref b), (1, .ref (ad 0)), (2, .ref (ad 41)), (3, .ref (ad 64)), (4, .int (zI i)), (5, .int (zI r))]) cx d_A_law_291 (by decide) rfl rfl ?_
  refine v_aload_n cx 2 d_A_law_293 rfl rfl ?_
  refine v_callVi (st := []) cx (s_M_land  h) yk_M_land lw_A_124 zl_41 rfl rfl rfl (Nat.le_of_ble_eq_true rfl) ⟨(Nat.le_of_ble_eq_true rfl), (Nat.le_of_ble_eq_true rfl)⟩ ⟨zk2 hk (Nat.le_of_ble_eq_true rfl), zn2 hn (Nat.le_of_ble_eq_true rfl)⟩ d_A_law_294 (fun v u2 hv h => ?_)
  refine v_istore (lv' := [(0, .ref b), (1, .ref (ad 0)), (2, .ref (ad 41)), (3, .ref (ad 64)), (4, .int (zI i)), (5, .int (zI r)), (6, .int (zI v))]) cx d_A_law_297 (by decide) rfl rfl ?_
  refine v_aload_n cx 2 d_A_law_299 rfl rfl ?_
  refine v_callVi (st := []) cx (s_M_thrown  (K := fun v w => v = u2 41 0 ∧ w = u2) (show q_M_thrown (fun v w => v = u2 41 0 ∧ w = u2) u2 from ⟨rfl, rfl⟩)) yk_M_thrown lw_A_125 zl_41 rfl rfl rfl (Nat.le_of_ble_eq_true rfl) ⟨(Nat.le_of_ble_eq_true rfl), (Nat.le_of_ble_eq_true rfl)⟩ ⟨zk3 hk (Nat.le_of_ble_eq_true rfl), zn3 hn (Nat.le_of_ble_eq_true rfl)⟩ d_A_law_300 (fun v3 u3 hv3 h3 => ?_)
  obtain ⟨rfl, rfl⟩ := h3
  refine v_iload cx 5 d_A_law_303 rfl ?_
  refine v_icmp_eq cx 310 d_A_law_305 (by decide) hv3 hr (fun _ => ?_) (fun c => absurd h.1 c)
  refine v_iload cx 5 d_A_law_310 rfl ?_
  refine v_if_ne cx 327 d_A_law_312 (by decide) hr (fun c => ?_) (fun c => ?_)
  · refine v_goto cx 2235 d_A_law_327 (by decide) ?_
    refine v_sb [0, 1, 2, 3, 4] rfl ?_
    exact v_widen (zk3' (Nat.le_of_ble_eq_true rfl)) (zn3' (Nat.le_of_ble_eq_true rfl)) (nx _ h.2.2)
  · refine v_aload_n cx 3 d_A_law_315 rfl rfl ?_
    refine v_iconst cx d_A_law_316 ?_
    refine v_lald cx zl_64 (by decide) (by decide) (by decide) d_A_law_317 (fun h64 => ?_)
    refine v_iload cx 6 d_A_law_318 rfl ?_
    refine v_i2l cx hv d_A_law_320 ?_
    refine v_lcmp_eq cx 327 h64 hv d_A_law_321 d_A_law_322 (by decide) (fun _ => ?_) (fun q => absurd (h.2.1 c) q)
    refine v_goto cx 2235 d_A_law_327 (by decide) ?_
    refine v_sb [0, 1, 2, 3, 4] rfl ?_
    exact v_widen (zk3' (Nat.le_of_ble_eq_true rfl)) (zn3' (Nat.le_of_ble_eq_true rfl)) (nx _ h.2.2)
set_option maxRecDepth 20000 in
theorem c_A_3 {Ω : zO} {Γ : zM} {k n : Nat} {Q : State → Prop} {ad : Nat → Nat} {σ : zS} {b L : Nat} {xs : Nat → Int32} {i : Int} (cx : zC Ω Γ c_A_law 7 "GentleRoadLaw") (sc : zScr Ω Γ b L xs) (hi : 0 ≤ i ∧ i + 6 ≤ L) (inv : INV σ) (hk : k + 24 ≤ room_1.cells) (hn : n + 216 ≤ room_1.slots) (nx : ∀ σ', INV σ' → zV Ω Γ room_1 7 Q (k + 24) (n + 216) zLy ad σ' 2235 [(0, .ref b), (1, .ref (ad 0)), (2, .ref (ad 41)), (3, .ref (ad 64)), (4, .int (zI i))] []) : zV Ω Γ room_1 7 Q k n zLy ad σ 330 [(0, .ref b), (1, .ref (ad 0)), (2, .ref (ad 41)), (3, .ref (ad 64)), (4, .int (zI i))] [] := by
  refine v_aload_n cx 1 d_A_law_330 rfl rfl ?_
  refine v_callVi (st := []) cx (s_R_fault  (pr_fault inv)) yk_R_fault lw_A_128 zl_0 rfl rfl rfl (Nat.le_of_ble_eq_true rfl) ⟨(Nat.le_of_ble_eq_true rfl), (Nat.le_of_ble_eq_true rfl)⟩ ⟨zk1 hk (Nat.le_of_ble_eq_true rfl), zn1 hn (Nat.le_of_ble_eq_true rfl)⟩ d_A_law_331 (fun r u hr h => ?_)
  refine v_aload_n cx 2 d_A_law_334 rfl rfl ?_
  refine v_callVi (st := [.int (zI r)]) cx (s_M_fault  h) yk_M_fault lw_A_131 zl_41 rfl rfl rfl (Nat.le_of_ble_eq_true rfl) ⟨(Nat.le_of_ble_eq_true rfl), (Nat.le_of_ble_eq_true rfl)⟩ ⟨zk2 hk (Nat.le_of_ble_eq_true rfl), zn2 hn (Nat.le_of_ble_eq_true rfl)⟩ d_A_law_335 (fun v u2 hv h => ?_)
  refine v_icmp_eq cx 2235 d_A_law_338 (by decide) hr hv (fun _ => ?_) (fun c => absurd h.1 c)
  exact v_widen (zk2' (Nat.le_of_ble_eq_true rfl)) (zn2' (Nat.le_of_ble_eq_true rfl)) (nx _ h.2)
set_option maxRecDepth 20000 in
theorem c_A_4 {Ω : zO} {Γ : zM} {k n : Nat} {Q : State → Prop} {ad : Nat → Nat} {σ : zS} {b L : Nat} {xs : Nat → Int32} {i : Int} (cx : zC Ω Γ c_A_law 7 "GentleRoadLaw") (sc : zScr Ω Γ b L xs) (hi : 0 ≤ i ∧ i + 6 ≤ L) (inv : INV σ) (hk : k + 24 ≤ room_1.cells) (hn : n + 216 ≤ room_1.slots) (nx : ∀ σ', INV σ' → zV Ω Γ room_1 7 Q (k + 24) (n + 216) zLy ad σ' 2235 [(0, .ref b), (1, .ref (ad 0)), (2, .ref (ad 41)), (3, .ref (ad 64)), (4, .int (zI i))] []) : zV Ω Γ room_1 7 Q k n zLy ad σ 343 [(0, .ref b), (1, .ref (ad 0)), (2, .ref (ad 41)), (3, .ref (ad 64)), (4, .int (zI i))] [] := by
  refine v_aload_n cx 1 d_A_law_343 rfl rfl ?_
  refine v_aload_n cx 0 d_A_law_344 rfl rfl ?_
  refine v_iload cx 4 d_A_law_345 rfl ?_
  refine v_iconst cx d_A_law_347 ?_
  refine v_iadd cx d_A_law_348 ?_
  refine v_sld cx sc (by omega) (by omega) d_A_law_349 ?_
  refine v_aload_n cx 0 d_A_law_350 rfl rfl ?_
  refine v_iload cx 4 d_A_law_351 rfl ?_
  refine v_iconst cx d_A_law_353 ?_
  refine v_iadd cx d_A_law_354 ?_
  refine v_sld cx sc (by omega) (by omega) d_A_law_355 ?_
  refine v_aload_n cx 3 d_A_law_356 rfl rfl ?_
  refine v_wcall (st := []) cx (s_A_place (zx_R _ _) (zx_R _ _) (pr_place inv)) yk_A_place lw_A_132 rfl rfl (Nat.le_of_ble_eq_true rfl) ⟨(Nat.le_of_ble_eq_true rfl), (Nat.le_of_ble_eq_true rfl)⟩ ⟨zk1 hk (Nat.le_of_ble_eq_true rfl), zn1 hn (Nat.le_of_ble_eq_true rfl)⟩ d_A_law_357 (fun r u hr h => ?_)
  refine v_istore (lv' := [(0, .ref b), (1, .ref (ad 0)), (2, .ref (ad 41)), (3, .ref (ad 64)), (4, .int (zI i)), (5, .int (zI r))]) cx d_A_law_360 (by decide) rfl rfl ?_
  refine v_aload_n cx 2 d_A_law_362 rfl rfl ?_
  refine v_aload_n cx 0 d_A_law_363 rfl rfl ?_
  refine v_iload cx 4 d_A_law_364 rfl ?_
  refine v_iconst cx d_A_law_366 ?_
  refine v_iadd cx d_A_law_367 ?_
  refine v_sld cx sc (by omega) (by omega) d_A_law_368 ?_
  refine v_aload_n cx 0 d_A_law_369 rfl rfl ?_
  refine v_iload cx 4 d_A_law_370 rfl ?_
  refine v_iconst cx d_A_law_372 ?_
  refine v_iadd cx d_A_law_373 ?_
  refine v_sld cx sc (by omega) (by omega) d_A_law_374 ?_
  refine v_callVi (st := []) cx (s_M_place (zx_R _ _) (zx_R _ _) h) yk_M_place lw_A_135 zl_41 rfl rfl rfl (Nat.le_of_ble_eq_true rfl) ⟨(Nat.le_of_ble_eq_true rfl), (Nat.le_of_ble_eq_true rfl)⟩ ⟨zk2 hk (Nat.le_of_ble_eq_true rfl), zn2 hn (Nat.le_of_ble_eq_true rfl)⟩ d_A_law_375 (fun v u2 hv h => ?_)
  refine v_istore (lv' := [(0, .ref b), (1, .ref (ad 0)), (2, .ref (ad 41)), (3, .ref (ad 64)), (4, .int (zI i)), (5, .int (zI r)), (6, .int (zI v))]) cx d_A_law_378 (by decide) rfl rfl ?_
  refine v_aload_n cx 2 d_A_law_380 rfl rfl ?_
  refine v_callVi (st := []) cx (s_M_thrown  (K := fun v w => v = u2 41 0 ∧ w = u2) (show q_M_thrown (fun v w => v = u2 41 0 ∧ w = u2) u2 from ⟨rfl, rfl⟩)) yk_M_thrown lw_A_125 zl_41 rfl rfl rfl (Nat.le_of_ble_eq_true rfl) ⟨(Nat.le_of_ble_eq_true rfl), (Nat.le_of_ble_eq_true rfl)⟩ ⟨zk3 hk (Nat.le_of_ble_eq_true rfl), zn3 hn (Nat.le_of_ble_eq_true rfl)⟩ d_A_law_381 (fun v3 u3 hv3 h3 => ?_)
  obtain ⟨rfl, rfl⟩ := h3
  refine v_iload cx 5 d_A_law_384 rfl ?_
  refine v_icmp_eq cx 391 d_A_law_386 (by decide) hv3 hr (fun _ => ?_) (fun c => absurd h.1 c)
  refine v_iload cx 5 d_A_law_391 rfl ?_
  refine v_if_ne cx 408 d_A_law_393 (by decide) hr (fun c => ?_) (fun c => ?_)
  · refine v_goto cx 2235 d_A_law_408 (by decide) ?_
    refine v_sb [0, 1, 2, 3, 4] rfl ?_
    exact v_widen (zk3' (Nat.le_of_ble_eq_true rfl)) (zn3' (Nat.le_of_ble_eq_true rfl)) (nx _ h.2.2)
  · refine v_aload_n cx 3 d_A_law_396 rfl rfl ?_
    refine v_iconst cx d_A_law_397 ?_
    refine v_lald cx zl_64 (by decide) (by decide) (by decide) d_A_law_398 (fun h64 => ?_)
    refine v_iload cx 6 d_A_law_399 rfl ?_
    refine v_i2l cx hv d_A_law_401 ?_
    refine v_lcmp_eq cx 408 h64 hv d_A_law_402 d_A_law_403 (by decide) (fun _ => ?_) (fun q => absurd (h.2.1 c) q)
    refine v_goto cx 2235 d_A_law_408 (by decide) ?_
    refine v_sb [0, 1, 2, 3, 4] rfl ?_
    exact v_widen (zk3' (Nat.le_of_ble_eq_true rfl)) (zn3' (Nat.le_of_ble_eq_true rfl)) (nx _ h.2.2)
set_option maxRecDepth 20000 in
theorem c_A_5 {Ω : zO} {Γ : zM} {k n : Nat} {Q : State → Prop} {ad : Nat → Nat} {σ : zS} {b L : Nat} {xs : Nat → Int32} {i : Int} (cx : zC Ω Γ c_A_law 7 "GentleRoadLaw") (sc : zScr Ω Γ b L xs) (hi : 0 ≤ i ∧ i + 6 ≤ L) (inv : INV σ) (hk : k + 24 ≤ room_1.cells) (hn : n + 216 ≤ room_1.slots) (nx : ∀ σ', INV σ' → zV Ω Γ room_1 7 Q (k + 24) (n + 216) zLy ad σ' 2235 [(0, .ref b), (1, .ref (ad 0)), (2, .ref (ad 41)), (3, .ref (ad 64)), (4, .int (zI i))] []) : zV Ω Γ room_1 7 Q k n zLy ad σ 411 [(0, .ref b), (1, .ref (ad 0)), (2, .ref (ad 41)), (3, .ref (ad 64)), (4, .int (zI i))] [] := by
  refine v_aload_n cx 1 d_A_law_411 rfl rfl ?_
  refine v_aload_n cx 0 d_A_law_412 rfl rfl ?_
  refine v_iload cx 4 d_A_law_413 rfl ?_
  refine v_iconst cx d_A_law_415 ?_
  refine v_iadd cx d_A_law_416 ?_
  refine v_sld cx sc (by omega) (by omega) d_A_law_417 ?_
  refine v_aload_n cx 3 d_A_law_418 rfl rfl ?_
  refine v_wcall (st := []) cx (s_A_term (zx_R _ _) (pr_term inv)) yk_A_term lw_A_136 rfl rfl (Nat.le_of_ble_eq_true rfl) ⟨(Nat.le_of_ble_eq_true rfl), (Nat.le_of_ble_eq_true rfl)⟩ ⟨zk1 hk (Nat.le_of_ble_eq_true rfl), zn1 hn (Nat.le_of_ble_eq_true rfl)⟩ d_A_law_419 (fun r u hr h => ?_)
  refine v_istore (lv' := [(0, .ref b), (1, .ref (ad 0)), (2, .ref (ad 41)), (3, .ref (ad 64)), (4, .int (zI i)), (5, .int (zI r))]) cx d_A_law_422 (by decide) rfl rfl ?_
  refine v_aload_n cx 2 d_A_law_424 rfl rfl ?_
  refine v_aload_n cx 0 d_A_law_425 rfl rfl ?_
  refine v_iload cx 4 d_A_law_426 rfl ?_
  refine v_iconst cx d_A_law_428 ?_
  refine v_iadd cx d_A_law_429 ?_
  refine v_sld cx sc (by omega) (by omega) d_A_law_430 ?_
  refine v_callVi (st := []) cx (s_M_term (zx_R _ _) h) yk_M_term lw_A_139 zl_41 rfl rfl rfl (Nat.le_of_ble_eq_true rfl) ⟨(Nat.le_of_ble_eq_true rfl), (Nat.le_of_ble_eq_true rfl)⟩ ⟨zk2 hk (Nat.le_of_ble_eq_true rfl), zn2 hn (Nat.le_of_ble_eq_true rfl)⟩ d_A_law_431 (fun v u2 hv h => ?_)
  refine v_istore (lv' := [(0, .ref b), (1, .ref (ad 0)), (2, .ref (ad 41)), (3, .ref (ad 64)), (4, .int (zI i)), (5, .int (zI r)), (6, .int (zI v))]) cx d_A_law_434 (by decide) rfl rfl ?_
  refine v_aload_n cx 2 d_A_law_436 rfl rfl ?_
  refine v_callVi (st := []) cx (s_M_thrown  (K := fun v w => v = u2 41 0 ∧ w = u2) (show q_M_thrown (fun v w => v = u2 41 0 ∧ w = u2) u2 from ⟨rfl, rfl⟩)) yk_M_thrown lw_A_125 zl_41 rfl rfl rfl (Nat.le_of_ble_eq_true rfl) ⟨(Nat.le_of_ble_eq_true rfl), (Nat.le_of_ble_eq_true rfl)⟩ ⟨zk3 hk (Nat.le_of_ble_eq_true rfl), zn3 hn (Nat.le_of_ble_eq_true rfl)⟩ d_A_law_437 (fun v3 u3 hv3 h3 => ?_)
  obtain ⟨rfl, rfl⟩ := h3
  refine v_iload cx 5 d_A_law_440 rfl ?_
  refine v_icmp_eq cx 447 d_A_law_442 (by decide) hv3 hr (fun _ => ?_) (fun c => absurd h.1 c)
  refine v_iload cx 5 d_A_law_447 rfl ?_
  refine v_if_ne cx 464 d_A_law_449 (by decide) hr (fun c => ?_) (fun c => ?_)
  · refine v_goto cx 2235 d_A_law_464 (by decide) ?_
    refine v_sb [0, 1, 2, 3, 4] rfl ?_
    exact v_widen (zk3' (Nat.le_of_ble_eq_true rfl)) (zn3' (Nat.le_of_ble_eq_true rfl)) (nx _ h.2.2)
  · refine v_aload_n cx 3 d_A_law_452 rfl rfl ?_
    refine v_iconst cx d_A_law_453 ?_
    refine v_lald cx zl_64 (by decide) (by decide) (by decide) d_A_law_454 (fun h64 => ?_)
    refine v_iload cx 6 d_A_law_455 rfl ?_
    refine v_i2l cx hv d_A_law_457 ?_
    refine v_lcmp_eq cx 464 h64 hv d_A_law_458 d_A_law_459 (by decide) (fun _ => ?_) (fun q => absurd (h.2.1 c) q)
    refine v_goto cx 2235 d_A_law_464 (by decide) ?_
    refine v_sb [0, 1, 2, 3, 4] rfl ?_
    exact v_widen (zk3' (Nat.le_of_ble_eq_true rfl)) (zn3' (Nat.le_of_ble_eq_true rfl)) (nx _ h.2.2)
set_option maxRecDepth 20000 in
theorem c_A_6 {Ω : zO} {Γ : zM} {k n : Nat} {Q : State → Prop} {ad : Nat → Nat} {σ : zS} {b L : Nat} {xs : Nat → Int32} {i : Int} (cx : zC Ω Γ c_A_law 7 "GentleRoadLaw") (sc : zScr Ω Γ b L xs) (hi : 0 ≤ i ∧ i + 6 ≤ L) (inv : INV σ) (hk : k + 24 ≤ room_1.cells) (hn : n + 216 ≤ room_1.slots) (nx : ∀ σ', INV σ' → zV Ω Γ room_1 7 Q (k + 24) (n + 216) zLy ad σ' 2235 [(0, .ref b), (1, .ref (ad 0)), (2, .ref (ad 41)), (3, .ref (ad 64)), (4, .int (zI i))] []) : zV Ω Γ room_1 7 Q k n zLy ad σ 467 [(0, .ref b), (1, .ref (ad 0)), (2, .ref (ad 41)), (3, .ref (ad 64)), (4, .int (zI i))] [] := by
  refine v_aload_n cx 1 d_A_law_467 rfl rfl ?_
  refine v_aload_n cx 0 d_A_law_468 rfl rfl ?_
  refine v_iload cx 4 d_A_law_469 rfl ?_
  refine v_iconst cx d_A_law_471 ?_
  refine v_iadd cx d_A_law_472 ?_
  refine v_sld cx sc (by omega) (by omega) d_A_law_473 ?_
  refine v_aload_n cx 0 d_A_law_474 rfl rfl ?_
  refine v_iload cx 4 d_A_law_475 rfl ?_
  refine v_iconst cx d_A_law_477 ?_
  refine v_iadd cx d_A_law_478 ?_
  refine v_sld cx sc (by omega) (by omega) d_A_law_479 ?_
  refine v_aload_n cx 3 d_A_law_480 rfl rfl ?_
  refine v_wcall (st := []) cx (s_A_tune (zx_R _ _) (zx_R _ _) (pr_tune inv)) yk_A_tune lw_A_140 rfl rfl (Nat.le_of_ble_eq_true rfl) ⟨(Nat.le_of_ble_eq_true rfl), (Nat.le_of_ble_eq_true rfl)⟩ ⟨zk1 hk (Nat.le_of_ble_eq_true rfl), zn1 hn (Nat.le_of_ble_eq_true rfl)⟩ d_A_law_481 (fun r u hr h => ?_)
  refine v_istore (lv' := [(0, .ref b), (1, .ref (ad 0)), (2, .ref (ad 41)), (3, .ref (ad 64)), (4, .int (zI i)), (5, .int (zI r))]) cx d_A_law_484 (by decide) rfl rfl ?_
  refine v_aload_n cx 2 d_A_law_486 rfl rfl ?_
  refine v_aload_n cx 0 d_A_law_487 rfl rfl ?_
  refine v_iload cx 4 d_A_law_488 rfl ?_
  refine v_iconst cx d_A_law_490 ?_
  refine v_iadd cx d_A_law_491 ?_
  refine v_sld cx sc (by omega) (by omega) d_A_law_492 ?_
  refine v_aload_n cx 0 d_A_law_493 rfl rfl ?_
  refine v_iload cx 4 d_A_law_494 rfl ?_
  refine v_iconst cx d_A_law_496 ?_
  refine v_iadd cx d_A_law_497 ?_
  refine v_sld cx sc (by omega) (by omega) d_A_law_498 ?_
  refine v_callVi (st := []) cx (s_M_tune (zx_R _ _) (zx_R _ _) h) yk_M_tune lw_A_142 zl_41 rfl rfl rfl (Nat.le_of_ble_eq_true rfl) ⟨(Nat.le_of_ble_eq_true rfl), (Nat.le_of_ble_eq_true rfl)⟩ ⟨zk2 hk (Nat.le_of_ble_eq_true rfl), zn2 hn (Nat.le_of_ble_eq_true rfl)⟩ d_A_law_499 (fun v u2 hv h => ?_)
  refine v_istore (lv' := [(0, .ref b), (1, .ref (ad 0)), (2, .ref (ad 41)), (3, .ref (ad 64)), (4, .int (zI i)), (5, .int (zI r)), (6, .int (zI v))]) cx d_A_law_502 (by decide) rfl rfl ?_
  refine v_aload_n cx 2 d_A_law_504 rfl rfl ?_
  refine v_callVi (st := []) cx (s_M_thrown  (K := fun v w => v = u2 41 0 ∧ w = u2) (show q_M_thrown (fun v w => v = u2 41 0 ∧ w = u2) u2 from ⟨rfl, rfl⟩)) yk_M_thrown lw_A_125 zl_41 rfl rfl rfl (Nat.le_of_ble_eq_true rfl) ⟨(Nat.le_of_ble_eq_true rfl), (Nat.le_of_ble_eq_true rfl)⟩ ⟨zk3 hk (Nat.le_of_ble_eq_true rfl), zn3 hn (Nat.le_of_ble_eq_true rfl)⟩ d_A_law_505 (fun v3 u3 hv3 h3 => ?_)
  obtain ⟨rfl, rfl⟩ := h3
  refine v_iload cx 5 d_A_law_508 rfl ?_
  refine v_icmp_eq cx 515 d_A_law_510 (by decide) hv3 hr (fun _ => ?_) (fun c => absurd h.1 c)
  refine v_iload cx 5 d_A_law_515 rfl ?_
  refine v_if_ne cx 532 d_A_law_517 (by decide) hr (fun c => ?_) (fun c => ?_)
  · refine v_goto cx 2235 d_A_law_532 (by decide) ?_
    refine v_sb [0, 1, 2, 3, 4] rfl ?_
    exact v_widen (zk3' (Nat.le_of_ble_eq_true rfl)) (zn3' (Nat.le_of_ble_eq_true rfl)) (nx _ h.2.2)
  · refine v_aload_n cx 3 d_A_law_520 rfl rfl ?_
    refine v_iconst cx d_A_law_521 ?_
    refine v_lald cx zl_64 (by decide) (by decide) (by decide) d_A_law_522 (fun h64 => ?_)
    refine v_iload cx 6 d_A_law_523 rfl ?_
    refine v_i2l cx hv d_A_law_525 ?_
    refine v_lcmp_eq cx 532 h64 hv d_A_law_526 d_A_law_527 (by decide) (fun _ => ?_) (fun q => absurd (h.2.1 c) q)
    refine v_goto cx 2235 d_A_law_532 (by decide) ?_
    refine v_sb [0, 1, 2, 3, 4] rfl ?_
    exact v_widen (zk3' (Nat.le_of_ble_eq_true rfl)) (zn3' (Nat.le_of_ble_eq_true rfl)) (nx _ h.2.2)
set_option maxRecDepth 20000 in
theorem c_A_7 {Ω : zO} {Γ : zM} {k n : Nat} {Q : State → Prop} {ad : Nat → Nat} {σ : zS} {b L : Nat} {xs : Nat → Int32} {i : Int} (cx : zC Ω Γ c_A_law 7 "GentleRoadLaw") (sc : zScr Ω Γ b L xs) (hi : 0 ≤ i ∧ i + 6 ≤ L) (inv : INV σ) (hk : k + 24 ≤ room_1.cells) (hn : n + 216 ≤ room_1.slots) (nx : ∀ σ', INV σ' → zV Ω Γ room_1 7 Q (k + 24) (n + 216) zLy ad σ' 2235 [(0, .ref b), (1, .ref (ad 0)), (2, .ref (ad 41)), (3, .ref (ad 64)), (4, .int (zI i))] []) : zV Ω Γ room_1 7 Q k n zLy ad σ 535 [(0, .ref b), (1, .ref (ad 0)), (2, .ref (ad 41)), (3, .ref (ad 64)), (4, .int (zI i))] [] := by
  refine v_aload_n cx 1 d_A_law_535 rfl rfl ?_
  refine v_aload_n cx 0 d_A_law_536 rfl rfl ?_
  refine v_iload cx 4 d_A_law_537 rfl ?_
  refine v_iconst cx d_A_law_539 ?_
  refine v_iadd cx d_A_law_540 ?_
  refine v_sld cx sc (by omega) (by omega) d_A_law_541 ?_
  refine v_aload_n cx 0 d_A_law_542 rfl rfl ?_
  refine v_iload cx 4 d_A_law_543 rfl ?_
  refine v_iconst cx d_A_law_545 ?_
  refine v_iadd cx d_A_law_546 ?_
  refine v_sld cx sc (by omega) (by omega) d_A_law_547 ?_
  refine v_aload_n cx 3 d_A_law_548 rfl rfl ?_
  refine v_wcall (st := []) cx (s_A_raise (zx_R _ _) (zx_R _ _) (pr_raise inv)) yk_A_raise lw_A_143 rfl rfl (Nat.le_of_ble_eq_true rfl) ⟨(Nat.le_of_ble_eq_true rfl), (Nat.le_of_ble_eq_true rfl)⟩ ⟨zk1 hk (Nat.le_of_ble_eq_true rfl), zn1 hn (Nat.le_of_ble_eq_true rfl)⟩ d_A_law_549 (fun r u hr h => ?_)
  refine v_istore (lv' := [(0, .ref b), (1, .ref (ad 0)), (2, .ref (ad 41)), (3, .ref (ad 64)), (4, .int (zI i)), (5, .int (zI r))]) cx d_A_law_552 (by decide) rfl rfl ?_
  refine v_aload_n cx 2 d_A_law_554 rfl rfl ?_
  refine v_aload_n cx 0 d_A_law_555 rfl rfl ?_
  refine v_iload cx 4 d_A_law_556 rfl ?_
  refine v_iconst cx d_A_law_558 ?_
  refine v_iadd cx d_A_law_559 ?_
  refine v_sld cx sc (by omega) (by omega) d_A_law_560 ?_
  refine v_aload_n cx 0 d_A_law_561 rfl rfl ?_
  refine v_iload cx 4 d_A_law_562 rfl ?_
  refine v_iconst cx d_A_law_564 ?_
  refine v_iadd cx d_A_law_565 ?_
  refine v_sld cx sc (by omega) (by omega) d_A_law_566 ?_
  refine v_callVi (st := []) cx (s_M_raise (zx_R _ _) (zx_R _ _) h) yk_M_raise lw_A_145 zl_41 rfl rfl rfl (Nat.le_of_ble_eq_true rfl) ⟨(Nat.le_of_ble_eq_true rfl), (Nat.le_of_ble_eq_true rfl)⟩ ⟨zk2 hk (Nat.le_of_ble_eq_true rfl), zn2 hn (Nat.le_of_ble_eq_true rfl)⟩ d_A_law_567 (fun v u2 hv h => ?_)
  refine v_istore (lv' := [(0, .ref b), (1, .ref (ad 0)), (2, .ref (ad 41)), (3, .ref (ad 64)), (4, .int (zI i)), (5, .int (zI r)), (6, .int (zI v))]) cx d_A_law_570 (by decide) rfl rfl ?_
  refine v_aload_n cx 2 d_A_law_572 rfl rfl ?_
  refine v_callVi (st := []) cx (s_M_thrown  (K := fun v w => v = u2 41 0 ∧ w = u2) (show q_M_thrown (fun v w => v = u2 41 0 ∧ w = u2) u2 from ⟨rfl, rfl⟩)) yk_M_thrown lw_A_125 zl_41 rfl rfl rfl (Nat.le_of_ble_eq_true rfl) ⟨(Nat.le_of_ble_eq_true rfl), (Nat.le_of_ble_eq_true rfl)⟩ ⟨zk3 hk (Nat.le_of_ble_eq_true rfl), zn3 hn (Nat.le_of_ble_eq_true rfl)⟩ d_A_law_573 (fun v3 u3 hv3 h3 => ?_)
  obtain ⟨rfl, rfl⟩ := h3
  refine v_iload cx 5 d_A_law_576 rfl ?_
  refine v_icmp_eq cx 583 d_A_law_578 (by decide) hv3 hr (fun _ => ?_) (fun c => absurd h.1 c)
  refine v_iload cx 5 d_A_law_583 rfl ?_
  refine v_if_ne cx 600 d_A_law_585 (by decide) hr (fun c => ?_) (fun c => ?_)
  · refine v_goto cx 2235 d_A_law_600 (by decide) ?_
    refine v_sb [0, 1, 2, 3, 4] rfl ?_
    exact v_widen (zk3' (Nat.le_of_ble_eq_true rfl)) (zn3' (Nat.le_of_ble_eq_true rfl)) (nx _ h.2.2)
  · refine v_aload_n cx 3 d_A_law_588 rfl rfl ?_
    refine v_iconst cx d_A_law_589 ?_
    refine v_lald cx zl_64 (by decide) (by decide) (by decide) d_A_law_590 (fun h64 => ?_)
    refine v_iload cx 6 d_A_law_591 rfl ?_
    refine v_i2l cx hv d_A_law_593 ?_
    refine v_lcmp_eq cx 600 h64 hv d_A_law_594 d_A_law_595 (by decide) (fun _ => ?_) (fun q => absurd (h.2.1 c) q)
    refine v_goto cx 2235 d_A_law_600 (by decide) ?_
    refine v_sb [0, 1, 2, 3, 4] rfl ?_
    exact v_widen (zk3' (Nat.le_of_ble_eq_true rfl)) (zn3' (Nat.le_of_ble_eq_true rfl)) (nx _ h.2.2)
set_option maxRecDepth 20000 in
theorem c_A_8 {Ω : zO} {Γ : zM} {k n : Nat} {Q : State → Prop} {ad : Nat → Nat} {σ : zS} {b L : Nat} {xs : Nat → Int32} {i : Int} (cx : zC Ω Γ c_A_law 7 "GentleRoadLaw") (sc : zScr Ω Γ b L xs) (hi : 0 ≤ i ∧ i + 6 ≤ L) (inv : INV σ) (hk : k + 24 ≤ room_1.cells) (hn : n + 216 ≤ room_1.slots) (nx : ∀ σ', INV σ' → zV Ω Γ room_1 7 Q (k + 24) (n + 216) zLy ad σ' 2235 [(0, .ref b), (1, .ref (ad 0)), (2, .ref (ad 41)), (3, .ref (ad 64)), (4, .int (zI i))] []) : zV Ω Γ room_1 7 Q k n zLy ad σ 603 [(0, .ref b), (1, .ref (ad 0)), (2, .ref (ad 41)), (3, .ref (ad 64)), (4, .int (zI i))] [] := by
  refine v_aload_n cx 1 d_A_law_603 rfl rfl ?_
  refine v_aload_n cx 0 d_A_law_604 rfl rfl ?_
  refine v_iload cx 4 d_A_law_605 rfl ?_
  refine v_iconst cx d_A_law_607 ?_
  refine v_iadd cx d_A_law_608 ?_
  refine v_sld cx sc (by omega) (by omega) d_A_law_609 ?_
  refine v_aload_n cx 0 d_A_law_610 rfl rfl ?_
  refine v_iload cx 4 d_A_law_611 rfl ?_
  refine v_iconst cx d_A_law_613 ?_
  refine v_iadd cx d_A_law_614 ?_
  refine v_sld cx sc (by omega) (by omega) d_A_law_615 ?_
  refine v_bit cx (t0 := 623) (t1 := 624) d_A_law_616 (by decide) d_A_law_619 d_A_law_620 (by decide) d_A_law_623 (zx_R _ _) ?_
  refine v_aload_n cx 3 d_A_law_624 rfl rfl ?_
  refine v_wcall (st := []) cx (s_A_flood (zx_R _ _) (nz_b _) (pr_flood inv (nz_b _))) yk_A_flood lw_A_146 rfl rfl (Nat.le_of_ble_eq_true rfl) ⟨(Nat.le_of_ble_eq_true rfl), (Nat.le_of_ble_eq_true rfl)⟩ ⟨zk1 hk (Nat.le_of_ble_eq_true rfl), zn1 hn (Nat.le_of_ble_eq_true rfl)⟩ d_A_law_625 (fun r u hr h => ?_)
  refine v_istore (lv' := [(0, .ref b), (1, .ref (ad 0)), (2, .ref (ad 41)), (3, .ref (ad 64)), (4, .int (zI i)), (5, .int (zI r))]) cx d_A_law_628 (by decide) rfl rfl ?_
  refine v_aload_n cx 2 d_A_law_630 rfl rfl ?_
  refine v_aload_n cx 0 d_A_law_631 rfl rfl ?_
  refine v_iload cx 4 d_A_law_632 rfl ?_
  refine v_iconst cx d_A_law_634 ?_
  refine v_iadd cx d_A_law_635 ?_
  refine v_sld cx sc (by omega) (by omega) d_A_law_636 ?_
  refine v_aload_n cx 0 d_A_law_637 rfl rfl ?_
  refine v_iload cx 4 d_A_law_638 rfl ?_
  refine v_iconst cx d_A_law_640 ?_
  refine v_iadd cx d_A_law_641 ?_
  refine v_sld cx sc (by omega) (by omega) d_A_law_642 ?_
  refine v_bit cx (t0 := 650) (t1 := 651) d_A_law_643 (by decide) d_A_law_646 d_A_law_647 (by decide) d_A_law_650 (zx_R _ _) ?_
  refine v_callVz (st := []) cx (s_M_flood (zx_R _ _) (nz_b _) h) yk_M_flood lw_A_149 zl_41 rfl rfl rfl (Nat.le_of_ble_eq_true rfl) ⟨(Nat.le_of_ble_eq_true rfl), (Nat.le_of_ble_eq_true rfl)⟩ ⟨zk2 hk (Nat.le_of_ble_eq_true rfl), zn2 hn (Nat.le_of_ble_eq_true rfl)⟩ d_A_law_651 (fun v u2 hv h => ?_)
  refine v_istore (lv' := [(0, .ref b), (1, .ref (ad 0)), (2, .ref (ad 41)), (3, .ref (ad 64)), (4, .int (zI i)), (5, .int (zI r)), (6, .int (zI v))]) cx d_A_law_654 (by decide) rfl rfl ?_
  refine v_aload_n cx 2 d_A_law_656 rfl rfl ?_
  refine v_callVi (st := []) cx (s_M_thrown  (K := fun v w => v = u2 41 0 ∧ w = u2) (show q_M_thrown (fun v w => v = u2 41 0 ∧ w = u2) u2 from ⟨rfl, rfl⟩)) yk_M_thrown lw_A_125 zl_41 rfl rfl rfl (Nat.le_of_ble_eq_true rfl) ⟨(Nat.le_of_ble_eq_true rfl), (Nat.le_of_ble_eq_true rfl)⟩ ⟨zk3 hk (Nat.le_of_ble_eq_true rfl), zn3 hn (Nat.le_of_ble_eq_true rfl)⟩ d_A_law_657 (fun v3 u3 hv3 h3 => ?_)
  obtain ⟨rfl, rfl⟩ := h3
  refine v_iload cx 5 d_A_law_660 rfl ?_
  refine v_icmp_eq cx 667 d_A_law_662 (by decide) hv3 hr (fun _ => ?_) (fun c => absurd h.1 c)
  refine v_iload cx 5 d_A_law_667 rfl ?_
  refine v_if_ne cx 691 d_A_law_669 (by decide) hr (fun c => ?_) (fun c => ?_)
  · refine v_goto cx 2235 d_A_law_691 (by decide) ?_
    refine v_sb [0, 1, 2, 3, 4] rfl ?_
    exact v_widen (zk3' (Nat.le_of_ble_eq_true rfl)) (zn3' (Nat.le_of_ble_eq_true rfl)) (nx _ h.2.2)
  · refine v_aload_n cx 3 d_A_law_672 rfl rfl ?_
    refine v_iconst cx d_A_law_673 ?_
    refine v_lald cx zl_64 (by decide) (by decide) (by decide) d_A_law_674 (fun h64 => ?_)
    refine v_iload cx 6 d_A_law_675 rfl ?_
    refine v_if_eq cx 684 d_A_law_677 (by decide) (zR_b hv) (fun c2 => ?_) (fun c2 => ?_)
    · subst c2
      refine v_lconst cx 0 rfl d_A_law_684 ?_
      refine v_lcmp_eq cx 691 h64 zR_0 d_A_law_685 d_A_law_686 (by decide) (fun _ => ?_) (fun q => absurd (h.2.1 c) q)
      refine v_goto cx 2235 d_A_law_691 (by decide) ?_
      refine v_sb [0, 1, 2, 3, 4] rfl ?_
      exact v_widen (zk3' (Nat.le_of_ble_eq_true rfl)) (zn3' (Nat.le_of_ble_eq_true rfl)) (nx _ h.2.2)
    · have c1 : v = 1 := hv.resolve_left c2
      subst c1
      refine v_lconst cx 1 rfl d_A_law_680 ?_
      refine v_goto cx 685 d_A_law_681 (by decide) ?_
      refine v_lcmp_eq cx 691 h64 ⟨by decide, by decide⟩ d_A_law_685 d_A_law_686 (by decide) (fun _ => ?_) (fun q => absurd (h.2.1 c) q)
      refine v_goto cx 2235 d_A_law_691 (by decide) ?_
      refine v_sb [0, 1, 2, 3, 4] rfl ?_
      exact v_widen (zk3' (Nat.le_of_ble_eq_true rfl)) (zn3' (Nat.le_of_ble_eq_true rfl)) (nx _ h.2.2)
set_option maxRecDepth 20000 in
theorem c_A_9 {Ω : zO} {Γ : zM} {k n : Nat} {Q : State → Prop} {ad : Nat → Nat} {σ : zS} {b L : Nat} {xs : Nat → Int32} {i : Int} (cx : zC Ω Γ c_A_law 7 "GentleRoadLaw") (sc : zScr Ω Γ b L xs) (hi : 0 ≤ i ∧ i + 6 ≤ L) (inv : INV σ) (hk : k + 24 ≤ room_1.cells) (hn : n + 216 ≤ room_1.slots) (nx : ∀ σ', INV σ' → zV Ω Γ room_1 7 Q (k + 24) (n + 216) zLy ad σ' 2235 [(0, .ref b), (1, .ref (ad 0)), (2, .ref (ad 41)), (3, .ref (ad 64)), (4, .int (zI i))] []) : zV Ω Γ room_1 7 Q k n zLy ad σ 694 [(0, .ref b), (1, .ref (ad 0)), (2, .ref (ad 41)), (3, .ref (ad 64)), (4, .int (zI i))] [] := by
  refine v_aload_n cx 1 d_A_law_694 rfl rfl ?_
  refine v_aload_n cx 0 d_A_law_695 rfl rfl ?_
  refine v_iload cx 4 d_A_law_696 rfl ?_
  refine v_iconst cx d_A_law_698 ?_
  refine v_iadd cx d_A_law_699 ?_
  refine v_sld cx sc (by omega) (by omega) d_A_law_700 ?_
  refine v_aload_n cx 0 d_A_law_701 rfl rfl ?_
  refine v_iload cx 4 d_A_law_702 rfl ?_
  refine v_iconst cx d_A_law_704 ?_
  refine v_iadd cx d_A_law_705 ?_
  refine v_sld cx sc (by omega) (by omega) d_A_law_706 ?_
  refine v_aload_n cx 0 d_A_law_707 rfl rfl ?_
  refine v_iload cx 4 d_A_law_708 rfl ?_
  refine v_iconst cx d_A_law_710 ?_
  refine v_iadd cx d_A_law_711 ?_
  refine v_sld cx sc (by omega) (by omega) d_A_law_712 ?_
  refine v_aload_n cx 3 d_A_law_713 rfl rfl ?_
  refine v_wcall (st := []) cx (s_A_build (zx_R _ _) (zx_R _ _) (zx_R _ _) (pr_build inv)) yk_A_build lw_A_150 rfl rfl (Nat.le_of_ble_eq_true rfl) ⟨(Nat.le_of_ble_eq_true rfl), (Nat.le_of_ble_eq_true rfl)⟩ ⟨zk1 hk (Nat.le_of_ble_eq_true rfl), zn1 hn (Nat.le_of_ble_eq_true rfl)⟩ d_A_law_714 (fun r u hr h => ?_)
  refine v_istore (lv' := [(0, .ref b), (1, .ref (ad 0)), (2, .ref (ad 41)), (3, .ref (ad 64)), (4, .int (zI i)), (5, .int (zI r))]) cx d_A_law_717 (by decide) rfl rfl ?_
  refine v_aload_n cx 2 d_A_law_719 rfl rfl ?_
  refine v_aload_n cx 0 d_A_law_720 rfl rfl ?_
  refine v_iload cx 4 d_A_law_721 rfl ?_
  refine v_iconst cx d_A_law_723 ?_
  refine v_iadd cx d_A_law_724 ?_
  refine v_sld cx sc (by omega) (by omega) d_A_law_725 ?_
  refine v_aload_n cx 0 d_A_law_726 rfl rfl ?_
  refine v_iload cx 4 d_A_law_727 rfl ?_
  refine v_iconst cx d_A_law_729 ?_
  refine v_iadd cx d_A_law_730 ?_
  refine v_sld cx sc (by omega) (by omega) d_A_law_731 ?_
  refine v_aload_n cx 0 d_A_law_732 rfl rfl ?_
  refine v_iload cx 4 d_A_law_733 rfl ?_
  refine v_iconst cx d_A_law_735 ?_
  refine v_iadd cx d_A_law_736 ?_
  refine v_sld cx sc (by omega) (by omega) d_A_law_737 ?_
  refine v_callVi (st := []) cx (s_M_build (zx_R _ _) (zx_R _ _) (zx_R _ _) h) yk_M_build lw_A_153 zl_41 rfl rfl rfl (Nat.le_of_ble_eq_true rfl) ⟨(Nat.le_of_ble_eq_true rfl), (Nat.le_of_ble_eq_true rfl)⟩ ⟨zk2 hk (Nat.le_of_ble_eq_true rfl), zn2 hn (Nat.le_of_ble_eq_true rfl)⟩ d_A_law_738 (fun v u2 hv h => ?_)
  refine v_istore (lv' := [(0, .ref b), (1, .ref (ad 0)), (2, .ref (ad 41)), (3, .ref (ad 64)), (4, .int (zI i)), (5, .int (zI r)), (6, .int (zI v))]) cx d_A_law_741 (by decide) rfl rfl ?_
  refine v_aload_n cx 2 d_A_law_743 rfl rfl ?_
  refine v_callVi (st := []) cx (s_M_thrown  (K := fun v w => v = u2 41 0 ∧ w = u2) (show q_M_thrown (fun v w => v = u2 41 0 ∧ w = u2) u2 from ⟨rfl, rfl⟩)) yk_M_thrown lw_A_125 zl_41 rfl rfl rfl (Nat.le_of_ble_eq_true rfl) ⟨(Nat.le_of_ble_eq_true rfl), (Nat.le_of_ble_eq_true rfl)⟩ ⟨zk3 hk (Nat.le_of_ble_eq_true rfl), zn3 hn (Nat.le_of_ble_eq_true rfl)⟩ d_A_law_744 (fun v3 u3 hv3 h3 => ?_)
  obtain ⟨rfl, rfl⟩ := h3
  refine v_iload cx 5 d_A_law_747 rfl ?_
  refine v_icmp_eq cx 754 d_A_law_749 (by decide) hv3 hr (fun _ => ?_) (fun c => absurd h.1 c)
  refine v_iload cx 5 d_A_law_754 rfl ?_
  refine v_if_ne cx 771 d_A_law_756 (by decide) hr (fun c => ?_) (fun c => ?_)
  · refine v_goto cx 2235 d_A_law_771 (by decide) ?_
    refine v_sb [0, 1, 2, 3, 4] rfl ?_
    exact v_widen (zk3' (Nat.le_of_ble_eq_true rfl)) (zn3' (Nat.le_of_ble_eq_true rfl)) (nx _ h.2.2)
  · refine v_aload_n cx 3 d_A_law_759 rfl rfl ?_
    refine v_iconst cx d_A_law_760 ?_
    refine v_lald cx zl_64 (by decide) (by decide) (by decide) d_A_law_761 (fun h64 => ?_)
    refine v_iload cx 6 d_A_law_762 rfl ?_
    refine v_i2l cx hv d_A_law_764 ?_
    refine v_lcmp_eq cx 771 h64 hv d_A_law_765 d_A_law_766 (by decide) (fun _ => ?_) (fun q => absurd (h.2.1 c) q)
    refine v_goto cx 2235 d_A_law_771 (by decide) ?_
    refine v_sb [0, 1, 2, 3, 4] rfl ?_
    exact v_widen (zk3' (Nat.le_of_ble_eq_true rfl)) (zn3' (Nat.le_of_ble_eq_true rfl)) (nx _ h.2.2)
set_option maxRecDepth 20000 in
theorem c_A_10 {Ω : zO} {Γ : zM} {k n : Nat} {Q : State → Prop} {ad : Nat → Nat} {σ : zS} {b L : Nat} {xs : Nat → Int32} {i : Int} (cx : zC Ω Γ c_A_law 7 "GentleRoadLaw") (sc : zScr Ω Γ b L xs) (hi : 0 ≤ i ∧ i + 6 ≤ L) (inv : INV σ) (hk : k + 24 ≤ room_1.cells) (hn : n + 216 ≤ room_1.slots) (nx : ∀ σ', INV σ' → zV Ω Γ room_1 7 Q (k + 24) (n + 216) zLy ad σ' 2235 [(0, .ref b), (1, .ref (ad 0)), (2, .ref (ad 41)), (3, .ref (ad 64)), (4, .int (zI i))] []) : zV Ω Γ room_1 7 Q k n zLy ad σ 774 [(0, .ref b), (1, .ref (ad 0)), (2, .ref (ad 41)), (3, .ref (ad 64)), (4, .int (zI i))] [] := by
  refine v_aload_n cx 1 d_A_law_774 rfl rfl ?_
  refine v_aload_n cx 0 d_A_law_775 rfl rfl ?_
  refine v_iload cx 4 d_A_law_776 rfl ?_
  refine v_iconst cx d_A_law_778 ?_
  refine v_iadd cx d_A_law_779 ?_
  refine v_sld cx sc (by omega) (by omega) d_A_law_780 ?_
  refine v_aload_n cx 3 d_A_law_781 rfl rfl ?_
  refine v_wcall (st := []) cx (s_A_drop (zx_R _ _) (pr_drop inv)) yk_A_drop lw_A_154 rfl rfl (Nat.le_of_ble_eq_true rfl) ⟨(Nat.le_of_ble_eq_true rfl), (Nat.le_of_ble_eq_true rfl)⟩ ⟨zk1 hk (Nat.le_of_ble_eq_true rfl), zn1 hn (Nat.le_of_ble_eq_true rfl)⟩ d_A_law_782 (fun r u hr h => ?_)
  refine v_istore (lv' := [(0, .ref b), (1, .ref (ad 0)), (2, .ref (ad 41)), (3, .ref (ad 64)), (4, .int (zI i)), (5, .int (zI r))]) cx d_A_law_785 (by decide) rfl rfl ?_
  refine v_aload_n cx 2 d_A_law_787 rfl rfl ?_
  refine v_aload_n cx 0 d_A_law_788 rfl rfl ?_
  refine v_iload cx 4 d_A_law_789 rfl ?_
  refine v_iconst cx d_A_law_791 ?_
  refine v_iadd cx d_A_law_792 ?_
  refine v_sld cx sc (by omega) (by omega) d_A_law_793 ?_
  refine v_callVi (st := []) cx (s_M_drop (zx_R _ _) h) yk_M_drop lw_A_156 zl_41 rfl rfl rfl (Nat.le_of_ble_eq_true rfl) ⟨(Nat.le_of_ble_eq_true rfl), (Nat.le_of_ble_eq_true rfl)⟩ ⟨zk2 hk (Nat.le_of_ble_eq_true rfl), zn2 hn (Nat.le_of_ble_eq_true rfl)⟩ d_A_law_794 (fun v u2 hv h => ?_)
  refine v_istore (lv' := [(0, .ref b), (1, .ref (ad 0)), (2, .ref (ad 41)), (3, .ref (ad 64)), (4, .int (zI i)), (5, .int (zI r)), (6, .int (zI v))]) cx d_A_law_797 (by decide) rfl rfl ?_
  refine v_aload_n cx 2 d_A_law_799 rfl rfl ?_
  refine v_callVi (st := []) cx (s_M_thrown  (K := fun v w => v = u2 41 0 ∧ w = u2) (show q_M_thrown (fun v w => v = u2 41 0 ∧ w = u2) u2 from ⟨rfl, rfl⟩)) yk_M_thrown lw_A_125 zl_41 rfl rfl rfl (Nat.le_of_ble_eq_true rfl) ⟨(Nat.le_of_ble_eq_true rfl), (Nat.le_of_ble_eq_true rfl)⟩ ⟨zk3 hk (Nat.le_of_ble_eq_true rfl), zn3 hn (Nat.le_of_ble_eq_true rfl)⟩ d_A_law_800 (fun v3 u3 hv3 h3 => ?_)
  obtain ⟨rfl, rfl⟩ := h3
  refine v_iload cx 5 d_A_law_803 rfl ?_
  refine v_icmp_eq cx 810 d_A_law_805 (by decide) hv3 hr (fun _ => ?_) (fun c => absurd h.1 c)
  refine v_iload cx 5 d_A_law_810 rfl ?_
  refine v_if_ne cx 827 d_A_law_812 (by decide) hr (fun c => ?_) (fun c => ?_)
  · refine v_goto cx 2235 d_A_law_827 (by decide) ?_
    refine v_sb [0, 1, 2, 3, 4] rfl ?_
    exact v_widen (zk3' (Nat.le_of_ble_eq_true rfl)) (zn3' (Nat.le_of_ble_eq_true rfl)) (nx _ h.2.2)
  · refine v_aload_n cx 3 d_A_law_815 rfl rfl ?_
    refine v_iconst cx d_A_law_816 ?_
    refine v_lald cx zl_64 (by decide) (by decide) (by decide) d_A_law_817 (fun h64 => ?_)
    refine v_iload cx 6 d_A_law_818 rfl ?_
    refine v_i2l cx hv d_A_law_820 ?_
    refine v_lcmp_eq cx 827 h64 hv d_A_law_821 d_A_law_822 (by decide) (fun _ => ?_) (fun q => absurd (h.2.1 c) q)
    refine v_goto cx 2235 d_A_law_827 (by decide) ?_
    refine v_sb [0, 1, 2, 3, 4] rfl ?_
    exact v_widen (zk3' (Nat.le_of_ble_eq_true rfl)) (zn3' (Nat.le_of_ble_eq_true rfl)) (nx _ h.2.2)
set_option maxRecDepth 20000 in
theorem c_A_11 {Ω : zO} {Γ : zM} {k n : Nat} {Q : State → Prop} {ad : Nat → Nat} {σ : zS} {b L : Nat} {xs : Nat → Int32} {i : Int} (cx : zC Ω Γ c_A_law 7 "GentleRoadLaw") (sc : zScr Ω Γ b L xs) (hi : 0 ≤ i ∧ i + 6 ≤ L) (inv : INV σ) (hk : k + 24 ≤ room_1.cells) (hn : n + 216 ≤ room_1.slots) (nx : ∀ σ', INV σ' → zV Ω Γ room_1 7 Q (k + 24) (n + 216) zLy ad σ' 2235 [(0, .ref b), (1, .ref (ad 0)), (2, .ref (ad 41)), (3, .ref (ad 64)), (4, .int (zI i))] []) : zV Ω Γ room_1 7 Q k n zLy ad σ 830 [(0, .ref b), (1, .ref (ad 0)), (2, .ref (ad 41)), (3, .ref (ad 64)), (4, .int (zI i))] [] := by
  refine v_aload_n cx 1 d_A_law_830 rfl rfl ?_
  refine v_aload_n cx 0 d_A_law_831 rfl rfl ?_
  refine v_iload cx 4 d_A_law_832 rfl ?_
  refine v_iconst cx d_A_law_834 ?_
  refine v_iadd cx d_A_law_835 ?_
  refine v_sld cx sc (by omega) (by omega) d_A_law_836 ?_
  refine v_aload_n cx 0 d_A_law_837 rfl rfl ?_
  refine v_iload cx 4 d_A_law_838 rfl ?_
  refine v_iconst cx d_A_law_840 ?_
  refine v_iadd cx d_A_law_841 ?_
  refine v_sld cx sc (by omega) (by omega) d_A_law_842 ?_
  refine v_aload_n cx 3 d_A_law_843 rfl rfl ?_
  refine v_wcall (st := []) cx (s_A_level (zx_R _ _) (zx_R _ _) (pr_level inv)) yk_A_level lw_A_157 rfl rfl (Nat.le_of_ble_eq_true rfl) ⟨(Nat.le_of_ble_eq_true rfl), (Nat.le_of_ble_eq_true rfl)⟩ ⟨zk1 hk (Nat.le_of_ble_eq_true rfl), zn1 hn (Nat.le_of_ble_eq_true rfl)⟩ d_A_law_844 (fun r u hr h => ?_)
  refine v_istore (lv' := [(0, .ref b), (1, .ref (ad 0)), (2, .ref (ad 41)), (3, .ref (ad 64)), (4, .int (zI i)), (5, .int (zI r))]) cx d_A_law_847 (by decide) rfl rfl ?_
  refine v_aload_n cx 2 d_A_law_849 rfl rfl ?_
  refine v_aload_n cx 0 d_A_law_850 rfl rfl ?_
  refine v_iload cx 4 d_A_law_851 rfl ?_
  refine v_iconst cx d_A_law_853 ?_
  refine v_iadd cx d_A_law_854 ?_
  refine v_sld cx sc (by omega) (by omega) d_A_law_855 ?_
  refine v_aload_n cx 0 d_A_law_856 rfl rfl ?_
  refine v_iload cx 4 d_A_law_857 rfl ?_
  refine v_iconst cx d_A_law_859 ?_
  refine v_iadd cx d_A_law_860 ?_
  refine v_sld cx sc (by omega) (by omega) d_A_law_861 ?_
  refine v_callVi (st := []) cx (s_M_level (zx_R _ _) (zx_R _ _) h) yk_M_level lw_A_159 zl_41 rfl rfl rfl (Nat.le_of_ble_eq_true rfl) ⟨(Nat.le_of_ble_eq_true rfl), (Nat.le_of_ble_eq_true rfl)⟩ ⟨zk2 hk (Nat.le_of_ble_eq_true rfl), zn2 hn (Nat.le_of_ble_eq_true rfl)⟩ d_A_law_862 (fun v u2 hv h => ?_)
  refine v_istore (lv' := [(0, .ref b), (1, .ref (ad 0)), (2, .ref (ad 41)), (3, .ref (ad 64)), (4, .int (zI i)), (5, .int (zI r)), (6, .int (zI v))]) cx d_A_law_865 (by decide) rfl rfl ?_
  refine v_aload_n cx 2 d_A_law_867 rfl rfl ?_
  refine v_callVi (st := []) cx (s_M_thrown  (K := fun v w => v = u2 41 0 ∧ w = u2) (show q_M_thrown (fun v w => v = u2 41 0 ∧ w = u2) u2 from ⟨rfl, rfl⟩)) yk_M_thrown lw_A_125 zl_41 rfl rfl rfl (Nat.le_of_ble_eq_true rfl) ⟨(Nat.le_of_ble_eq_true rfl), (Nat.le_of_ble_eq_true rfl)⟩ ⟨zk3 hk (Nat.le_of_ble_eq_true rfl), zn3 hn (Nat.le_of_ble_eq_true rfl)⟩ d_A_law_868 (fun v3 u3 hv3 h3 => ?_)
  obtain ⟨rfl, rfl⟩ := h3
  refine v_iload cx 5 d_A_law_871 rfl ?_
  refine v_icmp_eq cx 878 d_A_law_873 (by decide) hv3 hr (fun _ => ?_) (fun c => absurd h.1 c)
  refine v_iload cx 5 d_A_law_878 rfl ?_
  refine v_if_ne cx 895 d_A_law_880 (by decide) hr (fun c => ?_) (fun c => ?_)
  · refine v_goto cx 2235 d_A_law_895 (by decide) ?_
    refine v_sb [0, 1, 2, 3, 4] rfl ?_
    exact v_widen (zk3' (Nat.le_of_ble_eq_true rfl)) (zn3' (Nat.le_of_ble_eq_true rfl)) (nx _ h.2.2)
  · refine v_aload_n cx 3 d_A_law_883 rfl rfl ?_
    refine v_iconst cx d_A_law_884 ?_
    refine v_lald cx zl_64 (by decide) (by decide) (by decide) d_A_law_885 (fun h64 => ?_)
    refine v_iload cx 6 d_A_law_886 rfl ?_
    refine v_i2l cx hv d_A_law_888 ?_
    refine v_lcmp_eq cx 895 h64 hv d_A_law_889 d_A_law_890 (by decide) (fun _ => ?_) (fun q => absurd (h.2.1 c) q)
    refine v_goto cx 2235 d_A_law_895 (by decide) ?_
    refine v_sb [0, 1, 2, 3, 4] rfl ?_
    exact v_widen (zk3' (Nat.le_of_ble_eq_true rfl)) (zn3' (Nat.le_of_ble_eq_true rfl)) (nx _ h.2.2)
set_option maxRecDepth 20000 in
theorem c_A_12 {Ω : zO} {Γ : zM} {k n : Nat} {Q : State → Prop} {ad : Nat → Nat} {σ : zS} {b L : Nat} {xs : Nat → Int32} {i : Int} (cx : zC Ω Γ c_A_law 7 "GentleRoadLaw") (sc : zScr Ω Γ b L xs) (hi : 0 ≤ i ∧ i + 6 ≤ L) (inv : INV σ) (hk : k + 24 ≤ room_1.cells) (hn : n + 216 ≤ room_1.slots) (nx : ∀ σ', INV σ' → zV Ω Γ room_1 7 Q (k + 24) (n + 216) zLy ad σ' 2235 [(0, .ref b), (1, .ref (ad 0)), (2, .ref (ad 41)), (3, .ref (ad 64)), (4, .int (zI i))] []) : zV Ω Γ room_1 7 Q k n zLy ad σ 898 [(0, .ref b), (1, .ref (ad 0)), (2, .ref (ad 41)), (3, .ref (ad 64)), (4, .int (zI i))] [] := by
  refine v_aload_n cx 1 d_A_law_898 rfl rfl ?_
  refine v_aload_n cx 3 d_A_law_899 rfl rfl ?_
  refine v_wcall (st := []) cx (s_A_undo  (pr_undo inv)) yk_A_undo lw_A_160 rfl rfl (Nat.le_of_ble_eq_true rfl) ⟨(Nat.le_of_ble_eq_true rfl), (Nat.le_of_ble_eq_true rfl)⟩ ⟨zk1 hk (Nat.le_of_ble_eq_true rfl), zn1 hn (Nat.le_of_ble_eq_true rfl)⟩ d_A_law_900 (fun r u hr h => ?_)
  refine v_istore (lv' := [(0, .ref b), (1, .ref (ad 0)), (2, .ref (ad 41)), (3, .ref (ad 64)), (4, .int (zI i)), (5, .int (zI r))]) cx d_A_law_903 (by decide) rfl rfl ?_
  refine v_aload_n cx 2 d_A_law_905 rfl rfl ?_
  refine v_callVi (st := []) cx (s_M_undo  h) yk_M_undo lw_A_162 zl_41 rfl rfl rfl (Nat.le_of_ble_eq_true rfl) ⟨(Nat.le_of_ble_eq_true rfl), (Nat.le_of_ble_eq_true rfl)⟩ ⟨zk2 hk (Nat.le_of_ble_eq_true rfl), zn2 hn (Nat.le_of_ble_eq_true rfl)⟩ d_A_law_906 (fun v u2 hv h => ?_)
  refine v_istore (lv' := [(0, .ref b), (1, .ref (ad 0)), (2, .ref (ad 41)), (3, .ref (ad 64)), (4, .int (zI i)), (5, .int (zI r)), (6, .int (zI v))]) cx d_A_law_909 (by decide) rfl rfl ?_
  refine v_aload_n cx 2 d_A_law_911 rfl rfl ?_
  refine v_callVi (st := []) cx (s_M_thrown  (K := fun v w => v = u2 41 0 ∧ w = u2) (show q_M_thrown (fun v w => v = u2 41 0 ∧ w = u2) u2 from ⟨rfl, rfl⟩)) yk_M_thrown lw_A_125 zl_41 rfl rfl rfl (Nat.le_of_ble_eq_true rfl) ⟨(Nat.le_of_ble_eq_true rfl), (Nat.le_of_ble_eq_true rfl)⟩ ⟨zk3 hk (Nat.le_of_ble_eq_true rfl), zn3 hn (Nat.le_of_ble_eq_true rfl)⟩ d_A_law_912 (fun v3 u3 hv3 h3 => ?_)
  obtain ⟨rfl, rfl⟩ := h3
  refine v_iload cx 5 d_A_law_915 rfl ?_
  refine v_icmp_eq cx 922 d_A_law_917 (by decide) hv3 hr (fun _ => ?_) (fun c => absurd h.1 c)
  refine v_iload cx 5 d_A_law_922 rfl ?_
  refine v_if_ne cx 939 d_A_law_924 (by decide) hr (fun c => ?_) (fun c => ?_)
  · refine v_goto cx 2235 d_A_law_939 (by decide) ?_
    refine v_sb [0, 1, 2, 3, 4] rfl ?_
    exact v_widen (zk3' (Nat.le_of_ble_eq_true rfl)) (zn3' (Nat.le_of_ble_eq_true rfl)) (nx _ h.2.2)
  · refine v_aload_n cx 3 d_A_law_927 rfl rfl ?_
    refine v_iconst cx d_A_law_928 ?_
    refine v_lald cx zl_64 (by decide) (by decide) (by decide) d_A_law_929 (fun h64 => ?_)
    refine v_iload cx 6 d_A_law_930 rfl ?_
    refine v_i2l cx hv d_A_law_932 ?_
    refine v_lcmp_eq cx 939 h64 hv d_A_law_933 d_A_law_934 (by decide) (fun _ => ?_) (fun q => absurd (h.2.1 c) q)
    refine v_goto cx 2235 d_A_law_939 (by decide) ?_
    refine v_sb [0, 1, 2, 3, 4] rfl ?_
    exact v_widen (zk3' (Nat.le_of_ble_eq_true rfl)) (zn3' (Nat.le_of_ble_eq_true rfl)) (nx _ h.2.2)
set_option maxRecDepth 20000 in
theorem c_A_13 {Ω : zO} {Γ : zM} {k n : Nat} {Q : State → Prop} {ad : Nat → Nat} {σ : zS} {b L : Nat} {xs : Nat → Int32} {i : Int} (cx : zC Ω Γ c_A_law 7 "GentleRoadLaw") (sc : zScr Ω Γ b L xs) (hi : 0 ≤ i ∧ i + 6 ≤ L) (inv : INV σ) (hk : k + 24 ≤ room_1.cells) (hn : n + 216 ≤ room_1.slots) (nx : ∀ σ', INV σ' → zV Ω Γ room_1 7 Q (k + 24) (n + 216) zLy ad σ' 2235 [(0, .ref b), (1, .ref (ad 0)), (2, .ref (ad 41)), (3, .ref (ad 64)), (4, .int (zI i))] []) : zV Ω Γ room_1 7 Q k n zLy ad σ 942 [(0, .ref b), (1, .ref (ad 0)), (2, .ref (ad 41)), (3, .ref (ad 64)), (4, .int (zI i))] [] := by
  refine v_aload_n cx 1 d_A_law_942 rfl rfl ?_
  refine v_aload_n cx 0 d_A_law_943 rfl rfl ?_
  refine v_iload cx 4 d_A_law_944 rfl ?_
  refine v_iconst cx d_A_law_946 ?_
  refine v_iadd cx d_A_law_947 ?_
  refine v_sld cx sc (by omega) (by omega) d_A_law_948 ?_
  refine v_aload_n cx 0 d_A_law_949 rfl rfl ?_
  refine v_iload cx 4 d_A_law_950 rfl ?_
  refine v_iconst cx d_A_law_952 ?_
  refine v_iadd cx d_A_law_953 ?_
  refine v_sld cx sc (by omega) (by omega) d_A_law_954 ?_
  refine v_aload_n cx 0 d_A_law_955 rfl rfl ?_
  refine v_iload cx 4 d_A_law_956 rfl ?_
  refine v_iconst cx d_A_law_958 ?_
  refine v_iadd cx d_A_law_959 ?_
  refine v_sld cx sc (by omega) (by omega) d_A_law_960 ?_
  refine v_aload_n cx 3 d_A_law_961 rfl rfl ?_
  refine v_wcall (st := []) cx (s_A_best (zx_R _ _) (zx_R _ _) (zx_R _ _) (pr_best inv)) yk_A_best lw_A_163 rfl rfl (Nat.le_of_ble_eq_true rfl) ⟨(Nat.le_of_ble_eq_true rfl), (Nat.le_of_ble_eq_true rfl)⟩ ⟨zk1 hk (Nat.le_of_ble_eq_true rfl), zn1 hn (Nat.le_of_ble_eq_true rfl)⟩ d_A_law_962 (fun r u hr h => ?_)
  refine v_istore (lv' := [(0, .ref b), (1, .ref (ad 0)), (2, .ref (ad 41)), (3, .ref (ad 64)), (4, .int (zI i)), (5, .int (zI r))]) cx d_A_law_965 (by decide) rfl rfl ?_
  refine v_aload_n cx 2 d_A_law_967 rfl rfl ?_
  refine v_aload_n cx 0 d_A_law_968 rfl rfl ?_
  refine v_iload cx 4 d_A_law_969 rfl ?_
  refine v_iconst cx d_A_law_971 ?_
  refine v_iadd cx d_A_law_972 ?_
  refine v_sld cx sc (by omega) (by omega) d_A_law_973 ?_
  refine v_aload_n cx 0 d_A_law_974 rfl rfl ?_
  refine v_iload cx 4 d_A_law_975 rfl ?_
  refine v_iconst cx d_A_law_977 ?_
  refine v_iadd cx d_A_law_978 ?_
  refine v_sld cx sc (by omega) (by omega) d_A_law_979 ?_
  refine v_aload_n cx 0 d_A_law_980 rfl rfl ?_
  refine v_iload cx 4 d_A_law_981 rfl ?_
  refine v_iconst cx d_A_law_983 ?_
  refine v_iadd cx d_A_law_984 ?_
  refine v_sld cx sc (by omega) (by omega) d_A_law_985 ?_
  refine v_callVi (st := []) cx (s_M_best (zx_R _ _) (zx_R _ _) (zx_R _ _) h) yk_M_best lw_A_165 zl_41 rfl rfl rfl (Nat.le_of_ble_eq_true rfl) ⟨(Nat.le_of_ble_eq_true rfl), (Nat.le_of_ble_eq_true rfl)⟩ ⟨zk2 hk (Nat.le_of_ble_eq_true rfl), zn2 hn (Nat.le_of_ble_eq_true rfl)⟩ d_A_law_986 (fun v u2 hv h => ?_)
  refine v_istore (lv' := [(0, .ref b), (1, .ref (ad 0)), (2, .ref (ad 41)), (3, .ref (ad 64)), (4, .int (zI i)), (5, .int (zI r)), (6, .int (zI v))]) cx d_A_law_989 (by decide) rfl rfl ?_
  refine v_aload_n cx 2 d_A_law_991 rfl rfl ?_
  refine v_callVi (st := []) cx (s_M_thrown  (K := fun v w => v = u2 41 0 ∧ w = u2) (show q_M_thrown (fun v w => v = u2 41 0 ∧ w = u2) u2 from ⟨rfl, rfl⟩)) yk_M_thrown lw_A_125 zl_41 rfl rfl rfl (Nat.le_of_ble_eq_true rfl) ⟨(Nat.le_of_ble_eq_true rfl), (Nat.le_of_ble_eq_true rfl)⟩ ⟨zk3 hk (Nat.le_of_ble_eq_true rfl), zn3 hn (Nat.le_of_ble_eq_true rfl)⟩ d_A_law_992 (fun v3 u3 hv3 h3 => ?_)
  obtain ⟨rfl, rfl⟩ := h3
  refine v_iload cx 5 d_A_law_995 rfl ?_
  refine v_icmp_eq cx 1002 d_A_law_997 (by decide) hv3 hr (fun _ => ?_) (fun c => absurd h.1 c)
  refine v_iload cx 5 d_A_law_1002 rfl ?_
  refine v_if_ne cx 1019 d_A_law_1004 (by decide) hr (fun c => ?_) (fun c => ?_)
  · refine v_goto cx 2235 d_A_law_1019 (by decide) ?_
    refine v_sb [0, 1, 2, 3, 4] rfl ?_
    exact v_widen (zk3' (Nat.le_of_ble_eq_true rfl)) (zn3' (Nat.le_of_ble_eq_true rfl)) (nx _ h.2.2)
  · refine v_aload_n cx 3 d_A_law_1007 rfl rfl ?_
    refine v_iconst cx d_A_law_1008 ?_
    refine v_lald cx zl_64 (by decide) (by decide) (by decide) d_A_law_1009 (fun h64 => ?_)
    refine v_iload cx 6 d_A_law_1010 rfl ?_
    refine v_i2l cx hv d_A_law_1012 ?_
    refine v_lcmp_eq cx 1019 h64 hv d_A_law_1013 d_A_law_1014 (by decide) (fun _ => ?_) (fun q => absurd (h.2.1 c) q)
    refine v_goto cx 2235 d_A_law_1019 (by decide) ?_
    refine v_sb [0, 1, 2, 3, 4] rfl ?_
    exact v_widen (zk3' (Nat.le_of_ble_eq_true rfl)) (zn3' (Nat.le_of_ble_eq_true rfl)) (nx _ h.2.2)
set_option maxRecDepth 20000 in
theorem c_A_14 {Ω : zO} {Γ : zM} {k n : Nat} {Q : State → Prop} {ad : Nat → Nat} {σ : zS} {b L : Nat} {xs : Nat → Int32} {i : Int} (cx : zC Ω Γ c_A_law 7 "GentleRoadLaw") (sc : zScr Ω Γ b L xs) (hi : 0 ≤ i ∧ i + 6 ≤ L) (inv : INV σ) (hk : k + 24 ≤ room_1.cells) (hn : n + 216 ≤ room_1.slots) (nx : ∀ σ', INV σ' → zV Ω Γ room_1 7 Q (k + 24) (n + 216) zLy ad σ' 2235 [(0, .ref b), (1, .ref (ad 0)), (2, .ref (ad 41)), (3, .ref (ad 64)), (4, .int (zI i))] []) : zV Ω Γ room_1 7 Q k n zLy ad σ 1022 [(0, .ref b), (1, .ref (ad 0)), (2, .ref (ad 41)), (3, .ref (ad 64)), (4, .int (zI i))] [] := by
  refine v_aload_n cx 1 d_A_law_1022 rfl rfl ?_
  refine v_aload_n cx 0 d_A_law_1023 rfl rfl ?_
  refine v_iload cx 4 d_A_law_1024 rfl ?_
  refine v_iconst cx d_A_law_1026 ?_
  refine v_iadd cx d_A_law_1027 ?_
  refine v_sld cx sc (by omega) (by omega) d_A_law_1028 ?_
  refine v_aload_n cx 0 d_A_law_1029 rfl rfl ?_
  refine v_iload cx 4 d_A_law_1030 rfl ?_
  refine v_iconst cx d_A_law_1032 ?_
  refine v_iadd cx d_A_law_1033 ?_
  refine v_sld cx sc (by omega) (by omega) d_A_law_1034 ?_
  refine v_aload_n cx 0 d_A_law_1035 rfl rfl ?_
  refine v_iload cx 4 d_A_law_1036 rfl ?_
  refine v_iconst cx d_A_law_1038 ?_
  refine v_iadd cx d_A_law_1039 ?_
  refine v_sld cx sc (by omega) (by omega) d_A_law_1040 ?_
  refine v_aload_n cx 0 d_A_law_1041 rfl rfl ?_
  refine v_iload cx 4 d_A_law_1042 rfl ?_
  refine v_iconst cx d_A_law_1044 ?_
  refine v_iadd cx d_A_law_1045 ?_
  refine v_sld cx sc (by omega) (by omega) d_A_law_1046 ?_
  refine v_aload_n cx 3 d_A_law_1047 rfl rfl ?_
  refine v_wcall (st := []) cx (s_A_along (zx_R _ _) (zx_R _ _) (zx_R _ _) (zx_R _ _) (pr_along inv)) yk_A_along lw_A_166 rfl rfl (Nat.le_of_ble_eq_true rfl) ⟨(Nat.le_of_ble_eq_true rfl), (Nat.le_of_ble_eq_true rfl)⟩ ⟨zk1 hk (Nat.le_of_ble_eq_true rfl), zn1 hn (Nat.le_of_ble_eq_true rfl)⟩ d_A_law_1048 (fun r u hr h => ?_)
  refine v_istore (lv' := [(0, .ref b), (1, .ref (ad 0)), (2, .ref (ad 41)), (3, .ref (ad 64)), (4, .int (zI i)), (5, .int (zI r))]) cx d_A_law_1051 (by decide) rfl rfl ?_
  refine v_aload_n cx 2 d_A_law_1053 rfl rfl ?_
  refine v_aload_n cx 0 d_A_law_1054 rfl rfl ?_
  refine v_iload cx 4 d_A_law_1055 rfl ?_
  refine v_iconst cx d_A_law_1057 ?_
  refine v_iadd cx d_A_law_1058 ?_
  refine v_sld cx sc (by omega) (by omega) d_A_law_1059 ?_
  refine v_aload_n cx 0 d_A_law_1060 rfl rfl ?_
  refine v_iload cx 4 d_A_law_1061 rfl ?_
  refine v_iconst cx d_A_law_1063 ?_
  refine v_iadd cx d_A_law_1064 ?_
  refine v_sld cx sc (by omega) (by omega) d_A_law_1065 ?_
  refine v_aload_n cx 0 d_A_law_1066 rfl rfl ?_
  refine v_iload cx 4 d_A_law_1067 rfl ?_
  refine v_iconst cx d_A_law_1069 ?_
  refine v_iadd cx d_A_law_1070 ?_
  refine v_sld cx sc (by omega) (by omega) d_A_law_1071 ?_
  refine v_aload_n cx 0 d_A_law_1072 rfl rfl ?_
  refine v_iload cx 4 d_A_law_1073 rfl ?_
  refine v_iconst cx d_A_law_1075 ?_
  refine v_iadd cx d_A_law_1076 ?_
  refine v_sld cx sc (by omega) (by omega) d_A_law_1077 ?_
  refine v_callVi (st := []) cx (s_M_along (zx_R _ _) (zx_R _ _) (zx_R _ _) (zx_R _ _) h) yk_M_along lw_A_169 zl_41 rfl rfl rfl (Nat.le_of_ble_eq_true rfl) ⟨(Nat.le_of_ble_eq_true rfl), (Nat.le_of_ble_eq_true rfl)⟩ ⟨zk2 hk (Nat.le_of_ble_eq_true rfl), zn2 hn (Nat.le_of_ble_eq_true rfl)⟩ d_A_law_1078 (fun v u2 hv h => ?_)
  refine v_istore (lv' := [(0, .ref b), (1, .ref (ad 0)), (2, .ref (ad 41)), (3, .ref (ad 64)), (4, .int (zI i)), (5, .int (zI r)), (6, .int (zI v))]) cx d_A_law_1081 (by decide) rfl rfl ?_
  refine v_aload_n cx 2 d_A_law_1083 rfl rfl ?_
  refine v_callVi (st := []) cx (s_M_thrown  (K := fun v w => v = u2 41 0 ∧ w = u2) (show q_M_thrown (fun v w => v = u2 41 0 ∧ w = u2) u2 from ⟨rfl, rfl⟩)) yk_M_thrown lw_A_125 zl_41 rfl rfl rfl (Nat.le_of_ble_eq_true rfl) ⟨(Nat.le_of_ble_eq_true rfl), (Nat.le_of_ble_eq_true rfl)⟩ ⟨zk3 hk (Nat.le_of_ble_eq_true rfl), zn3 hn (Nat.le_of_ble_eq_true rfl)⟩ d_A_law_1084 (fun v3 u3 hv3 h3 => ?_)
  obtain ⟨rfl, rfl⟩ := h3
  refine v_iload cx 5 d_A_law_1087 rfl ?_
  refine v_icmp_eq cx 1094 d_A_law_1089 (by decide) hv3 hr (fun _ => ?_) (fun c => absurd h.1 c)
  refine v_iload cx 5 d_A_law_1094 rfl ?_
  refine v_if_ne cx 1111 d_A_law_1096 (by decide) hr (fun c => ?_) (fun c => ?_)
  · refine v_goto cx 2235 d_A_law_1111 (by decide) ?_
    refine v_sb [0, 1, 2, 3, 4] rfl ?_
    exact v_widen (zk3' (Nat.le_of_ble_eq_true rfl)) (zn3' (Nat.le_of_ble_eq_true rfl)) (nx _ h.2.2)
  · refine v_aload_n cx 3 d_A_law_1099 rfl rfl ?_
    refine v_iconst cx d_A_law_1100 ?_
    refine v_lald cx zl_64 (by decide) (by decide) (by decide) d_A_law_1101 (fun h64 => ?_)
    refine v_iload cx 6 d_A_law_1102 rfl ?_
    refine v_i2l cx hv d_A_law_1104 ?_
    refine v_lcmp_eq cx 1111 h64 hv d_A_law_1105 d_A_law_1106 (by decide) (fun _ => ?_) (fun q => absurd (h.2.1 c) q)
    refine v_goto cx 2235 d_A_law_1111 (by decide) ?_
    refine v_sb [0, 1, 2, 3, 4] rfl ?_
    exact v_widen (zk3' (Nat.le_of_ble_eq_true rfl)) (zn3' (Nat.le_of_ble_eq_true rfl)) (nx _ h.2.2)
set_option maxRecDepth 20000 in
theorem c_A_15 {Ω : zO} {Γ : zM} {k n : Nat} {Q : State → Prop} {ad : Nat → Nat} {σ : zS} {b L : Nat} {xs : Nat → Int32} {i : Int} (cx : zC Ω Γ c_A_law 7 "GentleRoadLaw") (sc : zScr Ω Γ b L xs) (hi : 0 ≤ i ∧ i + 6 ≤ L) (inv : INV σ) (hk : k + 24 ≤ room_1.cells) (hn : n + 216 ≤ room_1.slots) (nx : ∀ σ', INV σ' → zV Ω Γ room_1 7 Q (k + 24) (n + 216) zLy ad σ' 2235 [(0, .ref b), (1, .ref (ad 0)), (2, .ref (ad 41)), (3, .ref (ad 64)), (4, .int (zI i))] []) : zV Ω Γ room_1 7 Q k n zLy ad σ 1114 [(0, .ref b), (1, .ref (ad 0)), (2, .ref (ad 41)), (3, .ref (ad 64)), (4, .int (zI i))] [] := by
  refine v_aload_n cx 1 d_A_law_1114 rfl rfl ?_
  refine v_aload_n cx 0 d_A_law_1115 rfl rfl ?_
  refine v_iload cx 4 d_A_law_1116 rfl ?_
  refine v_iconst cx d_A_law_1118 ?_
  refine v_iadd cx d_A_law_1119 ?_
  refine v_sld cx sc (by omega) (by omega) d_A_law_1120 ?_
  refine v_aload_n cx 3 d_A_law_1121 rfl rfl ?_
  refine v_wcall (st := []) cx (s_A_reach (zx_R _ _) (pr_reach inv)) yk_A_reach lw_A_170 rfl rfl (Nat.le_of_ble_eq_true rfl) ⟨(Nat.le_of_ble_eq_true rfl), (Nat.le_of_ble_eq_true rfl)⟩ ⟨zk1 hk (Nat.le_of_ble_eq_true rfl), zn1 hn (Nat.le_of_ble_eq_true rfl)⟩ d_A_law_1122 (fun r u hr h => ?_)
  refine v_istore (lv' := [(0, .ref b), (1, .ref (ad 0)), (2, .ref (ad 41)), (3, .ref (ad 64)), (4, .int (zI i)), (5, .int (zI r))]) cx d_A_law_1125 (by decide) rfl rfl ?_
  refine v_aload_n cx 2 d_A_law_1127 rfl rfl ?_
  refine v_aload_n cx 0 d_A_law_1128 rfl rfl ?_
  refine v_iload cx 4 d_A_law_1129 rfl ?_
  refine v_iconst cx d_A_law_1131 ?_
  refine v_iadd cx d_A_law_1132 ?_
  refine v_sld cx sc (by omega) (by omega) d_A_law_1133 ?_
  refine v_callVi (st := []) cx (s_M_reach (zx_R _ _) h) yk_M_reach lw_A_172 zl_41 rfl rfl rfl (Nat.le_of_ble_eq_true rfl) ⟨(Nat.le_of_ble_eq_true rfl), (Nat.le_of_ble_eq_true rfl)⟩ ⟨zk2 hk (Nat.le_of_ble_eq_true rfl), zn2 hn (Nat.le_of_ble_eq_true rfl)⟩ d_A_law_1134 (fun v u2 hv h => ?_)
  refine v_istore (lv' := [(0, .ref b), (1, .ref (ad 0)), (2, .ref (ad 41)), (3, .ref (ad 64)), (4, .int (zI i)), (5, .int (zI r)), (6, .int (zI v))]) cx d_A_law_1137 (by decide) rfl rfl ?_
  refine v_aload_n cx 2 d_A_law_1139 rfl rfl ?_
  refine v_callVi (st := []) cx (s_M_thrown  (K := fun v w => v = u2 41 0 ∧ w = u2) (show q_M_thrown (fun v w => v = u2 41 0 ∧ w = u2) u2 from ⟨rfl, rfl⟩)) yk_M_thrown lw_A_125 zl_41 rfl rfl rfl (Nat.le_of_ble_eq_true rfl) ⟨(Nat.le_of_ble_eq_true rfl), (Nat.le_of_ble_eq_true rfl)⟩ ⟨zk3 hk (Nat.le_of_ble_eq_true rfl), zn3 hn (Nat.le_of_ble_eq_true rfl)⟩ d_A_law_1140 (fun v3 u3 hv3 h3 => ?_)
  obtain ⟨rfl, rfl⟩ := h3
  refine v_iload cx 5 d_A_law_1143 rfl ?_
  refine v_icmp_eq cx 1150 d_A_law_1145 (by decide) hv3 hr (fun _ => ?_) (fun c => absurd h.1 c)
  refine v_iload cx 5 d_A_law_1150 rfl ?_
  refine v_if_ne cx 1167 d_A_law_1152 (by decide) hr (fun c => ?_) (fun c => ?_)
  · refine v_goto cx 2235 d_A_law_1167 (by decide) ?_
    refine v_sb [0, 1, 2, 3, 4] rfl ?_
    exact v_widen (zk3' (Nat.le_of_ble_eq_true rfl)) (zn3' (Nat.le_of_ble_eq_true rfl)) (nx _ h.2.2)
  · refine v_aload_n cx 3 d_A_law_1155 rfl rfl ?_
    refine v_iconst cx d_A_law_1156 ?_
    refine v_lald cx zl_64 (by decide) (by decide) (by decide) d_A_law_1157 (fun h64 => ?_)
    refine v_iload cx 6 d_A_law_1158 rfl ?_
    refine v_i2l cx hv d_A_law_1160 ?_
    refine v_lcmp_eq cx 1167 h64 hv d_A_law_1161 d_A_law_1162 (by decide) (fun _ => ?_) (fun q => absurd (h.2.1 c) q)
    refine v_goto cx 2235 d_A_law_1167 (by decide) ?_
    refine v_sb [0, 1, 2, 3, 4] rfl ?_
    exact v_widen (zk3' (Nat.le_of_ble_eq_true rfl)) (zn3' (Nat.le_of_ble_eq_true rfl)) (nx _ h.2.2)
set_option maxRecDepth 20000 in
theorem c_A_16 {Ω : zO} {Γ : zM} {k n : Nat} {Q : State → Prop} {ad : Nat → Nat} {σ : zS} {b L : Nat} {xs : Nat → Int32} {i : Int} (cx : zC Ω Γ c_A_law 7 "GentleRoadLaw") (sc : zScr Ω Γ b L xs) (hi : 0 ≤ i ∧ i + 6 ≤ L) (inv : INV σ) (hk : k + 24 ≤ room_1.cells) (hn : n + 216 ≤ room_1.slots) (nx : ∀ σ', INV σ' → zV Ω Γ room_1 7 Q (k + 24) (n + 216) zLy ad σ' 2235 [(0, .ref b), (1, .ref (ad 0)), (2, .ref (ad 41)), (3, .ref (ad 64)), (4, .int (zI i))] []) : zV Ω Γ room_1 7 Q k n zLy ad σ 1170 [(0, .ref b), (1, .ref (ad 0)), (2, .ref (ad 41)), (3, .ref (ad 64)), (4, .int (zI i))] [] := by
  refine v_aload_n cx 1 d_A_law_1170 rfl rfl ?_
  refine v_aload_n cx 0 d_A_law_1171 rfl rfl ?_
  refine v_iload cx 4 d_A_law_1172 rfl ?_
  refine v_iconst cx d_A_law_1174 ?_
  refine v_iadd cx d_A_law_1175 ?_
  refine v_sld cx sc (by omega) (by omega) d_A_law_1176 ?_
  refine v_aload_n cx 0 d_A_law_1177 rfl rfl ?_
  refine v_iload cx 4 d_A_law_1178 rfl ?_
  refine v_iconst cx d_A_law_1180 ?_
  refine v_iadd cx d_A_law_1181 ?_
  refine v_sld cx sc (by omega) (by omega) d_A_law_1182 ?_
  refine v_aload_n cx 3 d_A_law_1183 rfl rfl ?_
  refine v_wcall (st := []) cx (s_A_grade (zx_R _ _) (zx_R _ _) (pr_grade inv)) yk_A_grade lw_A_173 rfl rfl (Nat.le_of_ble_eq_true rfl) ⟨(Nat.le_of_ble_eq_true rfl), (Nat.le_of_ble_eq_true rfl)⟩ ⟨zk1 hk (Nat.le_of_ble_eq_true rfl), zn1 hn (Nat.le_of_ble_eq_true rfl)⟩ d_A_law_1184 (fun r u hr h => ?_)
  refine v_istore (lv' := [(0, .ref b), (1, .ref (ad 0)), (2, .ref (ad 41)), (3, .ref (ad 64)), (4, .int (zI i)), (5, .int (zI r))]) cx d_A_law_1187 (by decide) rfl rfl ?_
  refine v_aload_n cx 2 d_A_law_1189 rfl rfl ?_
  refine v_aload_n cx 0 d_A_law_1190 rfl rfl ?_
  refine v_iload cx 4 d_A_law_1191 rfl ?_
  refine v_iconst cx d_A_law_1193 ?_
  refine v_iadd cx d_A_law_1194 ?_
  refine v_sld cx sc (by omega) (by omega) d_A_law_1195 ?_
  refine v_aload_n cx 0 d_A_law_1196 rfl rfl ?_
  refine v_iload cx 4 d_A_law_1197 rfl ?_
  refine v_iconst cx d_A_law_1199 ?_
  refine v_iadd cx d_A_law_1200 ?_
  refine v_sld cx sc (by omega) (by omega) d_A_law_1201 ?_
  refine v_callVi (st := []) cx (s_M_grade (zx_R _ _) (zx_R _ _) h) yk_M_grade lw_A_175 zl_41 rfl rfl rfl (Nat.le_of_ble_eq_true rfl) ⟨(Nat.le_of_ble_eq_true rfl), (Nat.le_of_ble_eq_true rfl)⟩ ⟨zk2 hk (Nat.le_of_ble_eq_true rfl), zn2 hn (Nat.le_of_ble_eq_true rfl)⟩ d_A_law_1202 (fun v u2 hv h => ?_)
  refine v_istore (lv' := [(0, .ref b), (1, .ref (ad 0)), (2, .ref (ad 41)), (3, .ref (ad 64)), (4, .int (zI i)), (5, .int (zI r)), (6, .int (zI v))]) cx d_A_law_1205 (by decide) rfl rfl ?_
  refine v_aload_n cx 2 d_A_law_1207 rfl rfl ?_
  refine v_callVi (st := []) cx (s_M_thrown  (K := fun v w => v = u2 41 0 ∧ w = u2) (show q_M_thrown (fun v w => v = u2 41 0 ∧ w = u2) u2 from ⟨rfl, rfl⟩)) yk_M_thrown lw_A_125 zl_41 rfl rfl rfl (Nat.le_of_ble_eq_true rfl) ⟨(Nat.le_of_ble_eq_true rfl), (Nat.le_of_ble_eq_true rfl)⟩ ⟨zk3 hk (Nat.le_of_ble_eq_true rfl), zn3 hn (Nat.le_of_ble_eq_true rfl)⟩ d_A_law_1208 (fun v3 u3 hv3 h3 => ?_)
  obtain ⟨rfl, rfl⟩ := h3
  refine v_iload cx 5 d_A_law_1211 rfl ?_
  refine v_icmp_eq cx 1218 d_A_law_1213 (by decide) hv3 hr (fun _ => ?_) (fun c => absurd h.1 c)
  refine v_iload cx 5 d_A_law_1218 rfl ?_
  refine v_if_ne cx 1235 d_A_law_1220 (by decide) hr (fun c => ?_) (fun c => ?_)
  · refine v_goto cx 2235 d_A_law_1235 (by decide) ?_
    refine v_sb [0, 1, 2, 3, 4] rfl ?_
    exact v_widen (zk3' (Nat.le_of_ble_eq_true rfl)) (zn3' (Nat.le_of_ble_eq_true rfl)) (nx _ h.2.2)
  · refine v_aload_n cx 3 d_A_law_1223 rfl rfl ?_
    refine v_iconst cx d_A_law_1224 ?_
    refine v_lald cx zl_64 (by decide) (by decide) (by decide) d_A_law_1225 (fun h64 => ?_)
    refine v_iload cx 6 d_A_law_1226 rfl ?_
    refine v_i2l cx hv d_A_law_1228 ?_
    refine v_lcmp_eq cx 1235 h64 hv d_A_law_1229 d_A_law_1230 (by decide) (fun _ => ?_) (fun q => absurd (h.2.1 c) q)
    refine v_goto cx 2235 d_A_law_1235 (by decide) ?_
    refine v_sb [0, 1, 2, 3, 4] rfl ?_
    exact v_widen (zk3' (Nat.le_of_ble_eq_true rfl)) (zn3' (Nat.le_of_ble_eq_true rfl)) (nx _ h.2.2)
set_option maxRecDepth 20000 in
theorem c_A_17 {Ω : zO} {Γ : zM} {k n : Nat} {Q : State → Prop} {ad : Nat → Nat} {σ : zS} {b L : Nat} {xs : Nat → Int32} {i : Int} (cx : zC Ω Γ c_A_law 7 "GentleRoadLaw") (sc : zScr Ω Γ b L xs) (hi : 0 ≤ i ∧ i + 6 ≤ L) (inv : INV σ) (hk : k + 24 ≤ room_1.cells) (hn : n + 216 ≤ room_1.slots) (nx : ∀ σ', INV σ' → zV Ω Γ room_1 7 Q (k + 24) (n + 216) zLy ad σ' 2235 [(0, .ref b), (1, .ref (ad 0)), (2, .ref (ad 41)), (3, .ref (ad 64)), (4, .int (zI i))] []) : zV Ω Γ room_1 7 Q k n zLy ad σ 1238 [(0, .ref b), (1, .ref (ad 0)), (2, .ref (ad 41)), (3, .ref (ad 64)), (4, .int (zI i))] [] := by
  refine v_aload_n cx 1 d_A_law_1238 rfl rfl ?_
  refine v_aload_n cx 0 d_A_law_1239 rfl rfl ?_
  refine v_iload cx 4 d_A_law_1240 rfl ?_
  refine v_iconst cx d_A_law_1242 ?_
  refine v_iadd cx d_A_law_1243 ?_
  refine v_sld cx sc (by omega) (by omega) d_A_law_1244 ?_
  refine v_aload_n cx 0 d_A_law_1245 rfl rfl ?_
  refine v_iload cx 4 d_A_law_1246 rfl ?_
  refine v_iconst cx d_A_law_1248 ?_
  refine v_iadd cx d_A_law_1249 ?_
  refine v_sld cx sc (by omega) (by omega) d_A_law_1250 ?_
  refine v_aload_n cx 3 d_A_law_1251 rfl rfl ?_
  refine v_wcall (st := []) cx (s_A_gate (zx_R _ _) (zx_R _ _) (pr_gate inv)) yk_A_gate lw_A_176 rfl rfl (Nat.le_of_ble_eq_true rfl) ⟨(Nat.le_of_ble_eq_true rfl), (Nat.le_of_ble_eq_true rfl)⟩ ⟨zk1 hk (Nat.le_of_ble_eq_true rfl), zn1 hn (Nat.le_of_ble_eq_true rfl)⟩ d_A_law_1252 (fun r u hr h => ?_)
  refine v_istore (lv' := [(0, .ref b), (1, .ref (ad 0)), (2, .ref (ad 41)), (3, .ref (ad 64)), (4, .int (zI i)), (5, .int (zI r))]) cx d_A_law_1255 (by decide) rfl rfl ?_
  refine v_aload_n cx 2 d_A_law_1257 rfl rfl ?_
  refine v_aload_n cx 0 d_A_law_1258 rfl rfl ?_
  refine v_iload cx 4 d_A_law_1259 rfl ?_
  refine v_iconst cx d_A_law_1261 ?_
  refine v_iadd cx d_A_law_1262 ?_
  refine v_sld cx sc (by omega) (by omega) d_A_law_1263 ?_
  refine v_aload_n cx 0 d_A_law_1264 rfl rfl ?_
  refine v_iload cx 4 d_A_law_1265 rfl ?_
  refine v_iconst cx d_A_law_1267 ?_
  refine v_iadd cx d_A_law_1268 ?_
  refine v_sld cx sc (by omega) (by omega) d_A_law_1269 ?_
  refine v_callVi (st := []) cx (s_M_gate (zx_R _ _) (zx_R _ _) h) yk_M_gate lw_A_178 zl_41 rfl rfl rfl (Nat.le_of_ble_eq_true rfl) ⟨(Nat.le_of_ble_eq_true rfl), (Nat.le_of_ble_eq_true rfl)⟩ ⟨zk2 hk (Nat.le_of_ble_eq_true rfl), zn2 hn (Nat.le_of_ble_eq_true rfl)⟩ d_A_law_1270 (fun v u2 hv h => ?_)
  refine v_istore (lv' := [(0, .ref b), (1, .ref (ad 0)), (2, .ref (ad 41)), (3, .ref (ad 64)), (4, .int (zI i)), (5, .int (zI r)), (6, .int (zI v))]) cx d_A_law_1273 (by decide) rfl rfl ?_
  refine v_aload_n cx 2 d_A_law_1275 rfl rfl ?_
  refine v_callVi (st := []) cx (s_M_thrown  (K := fun v w => v = u2 41 0 ∧ w = u2) (show q_M_thrown (fun v w => v = u2 41 0 ∧ w = u2) u2 from ⟨rfl, rfl⟩)) yk_M_thrown lw_A_125 zl_41 rfl rfl rfl (Nat.le_of_ble_eq_true rfl) ⟨(Nat.le_of_ble_eq_true rfl), (Nat.le_of_ble_eq_true rfl)⟩ ⟨zk3 hk (Nat.le_of_ble_eq_true rfl), zn3 hn (Nat.le_of_ble_eq_true rfl)⟩ d_A_law_1276 (fun v3 u3 hv3 h3 => ?_)
  obtain ⟨rfl, rfl⟩ := h3
  refine v_iload cx 5 d_A_law_1279 rfl ?_
  refine v_icmp_eq cx 1286 d_A_law_1281 (by decide) hv3 hr (fun _ => ?_) (fun c => absurd h.1 c)
  refine v_iload cx 5 d_A_law_1286 rfl ?_
  refine v_if_ne cx 1303 d_A_law_1288 (by decide) hr (fun c => ?_) (fun c => ?_)
  · refine v_goto cx 2235 d_A_law_1303 (by decide) ?_
    refine v_sb [0, 1, 2, 3, 4] rfl ?_
    exact v_widen (zk3' (Nat.le_of_ble_eq_true rfl)) (zn3' (Nat.le_of_ble_eq_true rfl)) (nx _ h.2.2)
  · refine v_aload_n cx 3 d_A_law_1291 rfl rfl ?_
    refine v_iconst cx d_A_law_1292 ?_
    refine v_lald cx zl_64 (by decide) (by decide) (by decide) d_A_law_1293 (fun h64 => ?_)
    refine v_iload cx 6 d_A_law_1294 rfl ?_
    refine v_i2l cx hv d_A_law_1296 ?_
    refine v_lcmp_eq cx 1303 h64 hv d_A_law_1297 d_A_law_1298 (by decide) (fun _ => ?_) (fun q => absurd (h.2.1 c) q)
    refine v_goto cx 2235 d_A_law_1303 (by decide) ?_
    refine v_sb [0, 1, 2, 3, 4] rfl ?_
    exact v_widen (zk3' (Nat.le_of_ble_eq_true rfl)) (zn3' (Nat.le_of_ble_eq_true rfl)) (nx _ h.2.2)
set_option maxRecDepth 20000 in
theorem c_A_18 {Ω : zO} {Γ : zM} {k n : Nat} {Q : State → Prop} {ad : Nat → Nat} {σ : zS} {b L : Nat} {xs : Nat → Int32} {i : Int} (cx : zC Ω Γ c_A_law 7 "GentleRoadLaw") (sc : zScr Ω Γ b L xs) (hi : 0 ≤ i ∧ i + 6 ≤ L) (inv : INV σ) (hk : k + 24 ≤ room_1.cells) (hn : n + 216 ≤ room_1.slots) (nx : ∀ σ', INV σ' → zV Ω Γ room_1 7 Q (k + 24) (n + 216) zLy ad σ' 2235 [(0, .ref b), (1, .ref (ad 0)), (2, .ref (ad 41)), (3, .ref (ad 64)), (4, .int (zI i))] []) : zV Ω Γ room_1 7 Q k n zLy ad σ 1306 [(0, .ref b), (1, .ref (ad 0)), (2, .ref (ad 41)), (3, .ref (ad 64)), (4, .int (zI i))] [] := by
  refine v_aload_n cx 1 d_A_law_1306 rfl rfl ?_
  refine v_aload_n cx 0 d_A_law_1307 rfl rfl ?_
  refine v_iload cx 4 d_A_law_1308 rfl ?_
  refine v_iconst cx d_A_law_1310 ?_
  refine v_iadd cx d_A_law_1311 ?_
  refine v_sld cx sc (by omega) (by omega) d_A_law_1312 ?_
  refine v_aload_n cx 0 d_A_law_1313 rfl rfl ?_
  refine v_iload cx 4 d_A_law_1314 rfl ?_
  refine v_iconst cx d_A_law_1316 ?_
  refine v_iadd cx d_A_law_1317 ?_
  refine v_sld cx sc (by omega) (by omega) d_A_law_1318 ?_
  refine v_aload_n cx 0 d_A_law_1319 rfl rfl ?_
  refine v_iload cx 4 d_A_law_1320 rfl ?_
  refine v_iconst cx d_A_law_1322 ?_
  refine v_iadd cx d_A_law_1323 ?_
  refine v_sld cx sc (by omega) (by omega) d_A_law_1324 ?_
  refine v_aload_n cx 3 d_A_law_1325 rfl rfl ?_
  refine v_wcall (st := []) cx (s_A_bored (zx_R _ _) (zx_R _ _) (zx_R _ _) (pr_bored inv)) yk_A_bored lw_A_179 rfl rfl (Nat.le_of_ble_eq_true rfl) ⟨(Nat.le_of_ble_eq_true rfl), (Nat.le_of_ble_eq_true rfl)⟩ ⟨zk1 hk (Nat.le_of_ble_eq_true rfl), zn1 hn (Nat.le_of_ble_eq_true rfl)⟩ d_A_law_1326 (fun r u hr h => ?_)
  refine v_istore (lv' := [(0, .ref b), (1, .ref (ad 0)), (2, .ref (ad 41)), (3, .ref (ad 64)), (4, .int (zI i)), (5, .int (zI r))]) cx d_A_law_1329 (by decide) rfl rfl ?_
  refine v_aload_n cx 2 d_A_law_1331 rfl rfl ?_
  refine v_aload_n cx 0 d_A_law_1332 rfl rfl ?_
  refine v_iload cx 4 d_A_law_1333 rfl ?_
  refine v_iconst cx d_A_law_1335 ?_
  refine v_iadd cx d_A_law_1336 ?_
  refine v_sld cx sc (by omega) (by omega) d_A_law_1337 ?_
  refine v_aload_n cx 0 d_A_law_1338 rfl rfl ?_
  refine v_iload cx 4 d_A_law_1339 rfl ?_
  refine v_iconst cx d_A_law_1341 ?_
  refine v_iadd cx d_A_law_1342 ?_
  refine v_sld cx sc (by omega) (by omega) d_A_law_1343 ?_
  refine v_aload_n cx 0 d_A_law_1344 rfl rfl ?_
  refine v_iload cx 4 d_A_law_1345 rfl ?_
  refine v_iconst cx d_A_law_1347 ?_
  refine v_iadd cx d_A_law_1348 ?_
  refine v_sld cx sc (by omega) (by omega) d_A_law_1349 ?_
  refine v_callVi (st := []) cx (s_M_bored (zx_R _ _) (zx_R _ _) (zx_R _ _) h) yk_M_bored lw_A_181 zl_41 rfl rfl rfl (Nat.le_of_ble_eq_true rfl) ⟨(Nat.le_of_ble_eq_true rfl), (Nat.le_of_ble_eq_true rfl)⟩ ⟨zk2 hk (Nat.le_of_ble_eq_true rfl), zn2 hn (Nat.le_of_ble_eq_true rfl)⟩ d_A_law_1350 (fun v u2 hv h => ?_)
  refine v_istore (lv' := [(0, .ref b), (1, .ref (ad 0)), (2, .ref (ad 41)), (3, .ref (ad 64)), (4, .int (zI i)), (5, .int (zI r)), (6, .int (zI v))]) cx d_A_law_1353 (by decide) rfl rfl ?_
  refine v_aload_n cx 2 d_A_law_1355 rfl rfl ?_
  refine v_callVi (st := []) cx (s_M_thrown  (K := fun v w => v = u2 41 0 ∧ w = u2) (show q_M_thrown (fun v w => v = u2 41 0 ∧ w = u2) u2 from ⟨rfl, rfl⟩)) yk_M_thrown lw_A_125 zl_41 rfl rfl rfl (Nat.le_of_ble_eq_true rfl) ⟨(Nat.le_of_ble_eq_true rfl), (Nat.le_of_ble_eq_true rfl)⟩ ⟨zk3 hk (Nat.le_of_ble_eq_true rfl), zn3 hn (Nat.le_of_ble_eq_true rfl)⟩ d_A_law_1356 (fun v3 u3 hv3 h3 => ?_)
  obtain ⟨rfl, rfl⟩ := h3
  refine v_iload cx 5 d_A_law_1359 rfl ?_
  refine v_icmp_eq cx 1366 d_A_law_1361 (by decide) hv3 hr (fun _ => ?_) (fun c => absurd h.1 c)
  refine v_iload cx 5 d_A_law_1366 rfl ?_
  refine v_if_ne cx 1383 d_A_law_1368 (by decide) hr (fun c => ?_) (fun c => ?_)
  · refine v_goto cx 2235 d_A_law_1383 (by decide) ?_
    refine v_sb [0, 1, 2, 3, 4] rfl ?_
    exact v_widen (zk3' (Nat.le_of_ble_eq_true rfl)) (zn3' (Nat.le_of_ble_eq_true rfl)) (nx _ h.2.2)
  · refine v_aload_n cx 3 d_A_law_1371 rfl rfl ?_
    refine v_iconst cx d_A_law_1372 ?_
    refine v_lald cx zl_64 (by decide) (by decide) (by decide) d_A_law_1373 (fun h64 => ?_)
    refine v_iload cx 6 d_A_law_1374 rfl ?_
    refine v_i2l cx hv d_A_law_1376 ?_
    refine v_lcmp_eq cx 1383 h64 hv d_A_law_1377 d_A_law_1378 (by decide) (fun _ => ?_) (fun q => absurd (h.2.1 c) q)
    refine v_goto cx 2235 d_A_law_1383 (by decide) ?_
    refine v_sb [0, 1, 2, 3, 4] rfl ?_
    exact v_widen (zk3' (Nat.le_of_ble_eq_true rfl)) (zn3' (Nat.le_of_ble_eq_true rfl)) (nx _ h.2.2)
set_option maxRecDepth 20000 in
theorem c_A_19 {Ω : zO} {Γ : zM} {k n : Nat} {Q : State → Prop} {ad : Nat → Nat} {σ : zS} {b L : Nat} {xs : Nat → Int32} {i : Int} (cx : zC Ω Γ c_A_law 7 "GentleRoadLaw") (sc : zScr Ω Γ b L xs) (hi : 0 ≤ i ∧ i + 6 ≤ L) (inv : INV σ) (hk : k + 24 ≤ room_1.cells) (hn : n + 216 ≤ room_1.slots) (nx : ∀ σ', INV σ' → zV Ω Γ room_1 7 Q (k + 24) (n + 216) zLy ad σ' 2235 [(0, .ref b), (1, .ref (ad 0)), (2, .ref (ad 41)), (3, .ref (ad 64)), (4, .int (zI i))] []) : zV Ω Γ room_1 7 Q k n zLy ad σ 1386 [(0, .ref b), (1, .ref (ad 0)), (2, .ref (ad 41)), (3, .ref (ad 64)), (4, .int (zI i))] [] := by
  refine v_aload_n cx 1 d_A_law_1386 rfl rfl ?_
  refine v_aload_n cx 0 d_A_law_1387 rfl rfl ?_
  refine v_iload cx 4 d_A_law_1388 rfl ?_
  refine v_iconst cx d_A_law_1390 ?_
  refine v_iadd cx d_A_law_1391 ?_
  refine v_sld cx sc (by omega) (by omega) d_A_law_1392 ?_
  refine v_aload_n cx 0 d_A_law_1393 rfl rfl ?_
  refine v_iload cx 4 d_A_law_1394 rfl ?_
  refine v_iconst cx d_A_law_1396 ?_
  refine v_iadd cx d_A_law_1397 ?_
  refine v_sld cx sc (by omega) (by omega) d_A_law_1398 ?_
  refine v_aload_n cx 0 d_A_law_1399 rfl rfl ?_
  refine v_iload cx 4 d_A_law_1400 rfl ?_
  refine v_iconst cx d_A_law_1402 ?_
  refine v_iadd cx d_A_law_1403 ?_
  refine v_sld cx sc (by omega) (by omega) d_A_law_1404 ?_
  refine v_aload_n cx 0 d_A_law_1405 rfl rfl ?_
  refine v_iload cx 4 d_A_law_1406 rfl ?_
  refine v_iconst cx d_A_law_1408 ?_
  refine v_iadd cx d_A_law_1409 ?_
  refine v_sld cx sc (by omega) (by omega) d_A_law_1410 ?_
  refine v_aload_n cx 3 d_A_law_1411 rfl rfl ?_
  refine v_wcall (st := []) cx (s_A_meet (zx_R _ _) (zx_R _ _) (zx_R _ _) (zx_R _ _) (pr_meet inv)) yk_A_meet lw_A_182 rfl rfl (Nat.le_of_ble_eq_true rfl) ⟨(Nat.le_of_ble_eq_true rfl), (Nat.le_of_ble_eq_true rfl)⟩ ⟨zk1 hk (Nat.le_of_ble_eq_true rfl), zn1 hn (Nat.le_of_ble_eq_true rfl)⟩ d_A_law_1412 (fun r u hr h => ?_)
  refine v_istore (lv' := [(0, .ref b), (1, .ref (ad 0)), (2, .ref (ad 41)), (3, .ref (ad 64)), (4, .int (zI i)), (5, .int (zI r))]) cx d_A_law_1415 (by decide) rfl rfl ?_
  refine v_aload_n cx 2 d_A_law_1417 rfl rfl ?_
  refine v_aload_n cx 0 d_A_law_1418 rfl rfl ?_
  refine v_iload cx 4 d_A_law_1419 rfl ?_
  refine v_iconst cx d_A_law_1421 ?_
  refine v_iadd cx d_A_law_1422 ?_
  refine v_sld cx sc (by omega) (by omega) d_A_law_1423 ?_
  refine v_aload_n cx 0 d_A_law_1424 rfl rfl ?_
  refine v_iload cx 4 d_A_law_1425 rfl ?_
  refine v_iconst cx d_A_law_1427 ?_
  refine v_iadd cx d_A_law_1428 ?_
  refine v_sld cx sc (by omega) (by omega) d_A_law_1429 ?_
  refine v_aload_n cx 0 d_A_law_1430 rfl rfl ?_
  refine v_iload cx 4 d_A_law_1431 rfl ?_
  refine v_iconst cx d_A_law_1433 ?_
  refine v_iadd cx d_A_law_1434 ?_
  refine v_sld cx sc (by omega) (by omega) d_A_law_1435 ?_
  refine v_aload_n cx 0 d_A_law_1436 rfl rfl ?_
  refine v_iload cx 4 d_A_law_1437 rfl ?_
  refine v_iconst cx d_A_law_1439 ?_
  refine v_iadd cx d_A_law_1440 ?_
  refine v_sld cx sc (by omega) (by omega) d_A_law_1441 ?_
  refine v_callVi (st := []) cx (s_M_meet (zx_R _ _) (zx_R _ _) (zx_R _ _) (zx_R _ _) h) yk_M_meet lw_A_184 zl_41 rfl rfl rfl (Nat.le_of_ble_eq_true rfl) ⟨(Nat.le_of_ble_eq_true rfl), (Nat.le_of_ble_eq_true rfl)⟩ ⟨zk2 hk (Nat.le_of_ble_eq_true rfl), zn2 hn (Nat.le_of_ble_eq_true rfl)⟩ d_A_law_1442 (fun v u2 hv h => ?_)
  refine v_istore (lv' := [(0, .ref b), (1, .ref (ad 0)), (2, .ref (ad 41)), (3, .ref (ad 64)), (4, .int (zI i)), (5, .int (zI r)), (6, .int (zI v))]) cx d_A_law_1445 (by decide) rfl rfl ?_
  refine v_aload_n cx 2 d_A_law_1447 rfl rfl ?_
  refine v_callVi (st := []) cx (s_M_thrown  (K := fun v w => v = u2 41 0 ∧ w = u2) (show q_M_thrown (fun v w => v = u2 41 0 ∧ w = u2) u2 from ⟨rfl, rfl⟩)) yk_M_thrown lw_A_125 zl_41 rfl rfl rfl (Nat.le_of_ble_eq_true rfl) ⟨(Nat.le_of_ble_eq_true rfl), (Nat.le_of_ble_eq_true rfl)⟩ ⟨zk3 hk (Nat.le_of_ble_eq_true rfl), zn3 hn (Nat.le_of_ble_eq_true rfl)⟩ d_A_law_1448 (fun v3 u3 hv3 h3 => ?_)
  obtain ⟨rfl, rfl⟩ := h3
  refine v_iload cx 5 d_A_law_1451 rfl ?_
  refine v_icmp_eq cx 1458 d_A_law_1453 (by decide) hv3 hr (fun _ => ?_) (fun c => absurd h.1 c)
  refine v_iload cx 5 d_A_law_1458 rfl ?_
  refine v_if_ne cx 1475 d_A_law_1460 (by decide) hr (fun c => ?_) (fun c => ?_)
  · refine v_goto cx 2235 d_A_law_1475 (by decide) ?_
    refine v_sb [0, 1, 2, 3, 4] rfl ?_
    exact v_widen (zk3' (Nat.le_of_ble_eq_true rfl)) (zn3' (Nat.le_of_ble_eq_true rfl)) (nx _ h.2.2)
  · refine v_aload_n cx 3 d_A_law_1463 rfl rfl ?_
    refine v_iconst cx d_A_law_1464 ?_
    refine v_lald cx zl_64 (by decide) (by decide) (by decide) d_A_law_1465 (fun h64 => ?_)
    refine v_iload cx 6 d_A_law_1466 rfl ?_
    refine v_i2l cx hv d_A_law_1468 ?_
    refine v_lcmp_eq cx 1475 h64 hv d_A_law_1469 d_A_law_1470 (by decide) (fun _ => ?_) (fun q => absurd (h.2.1 c) q)
    refine v_goto cx 2235 d_A_law_1475 (by decide) ?_
    refine v_sb [0, 1, 2, 3, 4] rfl ?_
    exact v_widen (zk3' (Nat.le_of_ble_eq_true rfl)) (zn3' (Nat.le_of_ble_eq_true rfl)) (nx _ h.2.2)
set_option maxRecDepth 20000 in
theorem c_A_20 {Ω : zO} {Γ : zM} {k n : Nat} {Q : State → Prop} {ad : Nat → Nat} {σ : zS} {b L : Nat} {xs : Nat → Int32} {i : Int} (cx : zC Ω Γ c_A_law 7 "GentleRoadLaw") (sc : zScr Ω Γ b L xs) (hi : 0 ≤ i ∧ i + 6 ≤ L) (inv : INV σ) (hk : k + 24 ≤ room_1.cells) (hn : n + 216 ≤ room_1.slots) (nx : ∀ σ', INV σ' → zV Ω Γ room_1 7 Q (k + 24) (n + 216) zLy ad σ' 2235 [(0, .ref b), (1, .ref (ad 0)), (2, .ref (ad 41)), (3, .ref (ad 64)), (4, .int (zI i))] []) : zV Ω Γ room_1 7 Q k n zLy ad σ 1478 [(0, .ref b), (1, .ref (ad 0)), (2, .ref (ad 41)), (3, .ref (ad 64)), (4, .int (zI i))] [] := by
  refine v_aload_n cx 1 d_A_law_1478 rfl rfl ?_
  refine v_aload_n cx 3 d_A_law_1479 rfl rfl ?_
  refine v_wcall (st := []) cx (s_A_round  (pr_round inv)) yk_A_round lw_A_185 rfl rfl (Nat.le_of_ble_eq_true rfl) ⟨(Nat.le_of_ble_eq_true rfl), (Nat.le_of_ble_eq_true rfl)⟩ ⟨zk1 hk (Nat.le_of_ble_eq_true rfl), zn1 hn (Nat.le_of_ble_eq_true rfl)⟩ d_A_law_1480 (fun r u hr h => ?_)
  refine v_istore (lv' := [(0, .ref b), (1, .ref (ad 0)), (2, .ref (ad 41)), (3, .ref (ad 64)), (4, .int (zI i)), (5, .int (zI r))]) cx d_A_law_1483 (by decide) rfl rfl ?_
  refine v_aload_n cx 2 d_A_law_1485 rfl rfl ?_
  refine v_callVi (st := []) cx (s_M_round  h) yk_M_round lw_A_187 zl_41 rfl rfl rfl (Nat.le_of_ble_eq_true rfl) ⟨(Nat.le_of_ble_eq_true rfl), (Nat.le_of_ble_eq_true rfl)⟩ ⟨zk2 hk (Nat.le_of_ble_eq_true rfl), zn2 hn (Nat.le_of_ble_eq_true rfl)⟩ d_A_law_1486 (fun v u2 hv h => ?_)
  refine v_istore (lv' := [(0, .ref b), (1, .ref (ad 0)), (2, .ref (ad 41)), (3, .ref (ad 64)), (4, .int (zI i)), (5, .int (zI r)), (6, .int (zI v))]) cx d_A_law_1489 (by decide) rfl rfl ?_
  refine v_aload_n cx 2 d_A_law_1491 rfl rfl ?_
  refine v_callVi (st := []) cx (s_M_thrown  (K := fun v w => v = u2 41 0 ∧ w = u2) (show q_M_thrown (fun v w => v = u2 41 0 ∧ w = u2) u2 from ⟨rfl, rfl⟩)) yk_M_thrown lw_A_125 zl_41 rfl rfl rfl (Nat.le_of_ble_eq_true rfl) ⟨(Nat.le_of_ble_eq_true rfl), (Nat.le_of_ble_eq_true rfl)⟩ ⟨zk3 hk (Nat.le_of_ble_eq_true rfl), zn3 hn (Nat.le_of_ble_eq_true rfl)⟩ d_A_law_1492 (fun v3 u3 hv3 h3 => ?_)
  obtain ⟨rfl, rfl⟩ := h3
  refine v_iload cx 5 d_A_law_1495 rfl ?_
  refine v_icmp_eq cx 1502 d_A_law_1497 (by decide) hv3 hr (fun _ => ?_) (fun c => absurd h.1 c)
  refine v_iload cx 5 d_A_law_1502 rfl ?_
  refine v_if_ne cx 1519 d_A_law_1504 (by decide) hr (fun c => ?_) (fun c => ?_)
  · refine v_goto cx 2235 d_A_law_1519 (by decide) ?_
    refine v_sb [0, 1, 2, 3, 4] rfl ?_
    exact v_widen (zk3' (Nat.le_of_ble_eq_true rfl)) (zn3' (Nat.le_of_ble_eq_true rfl)) (nx _ h.2.2)
  · refine v_aload_n cx 3 d_A_law_1507 rfl rfl ?_
    refine v_iconst cx d_A_law_1508 ?_
    refine v_lald cx zl_64 (by decide) (by decide) (by decide) d_A_law_1509 (fun h64 => ?_)
    refine v_iload cx 6 d_A_law_1510 rfl ?_
    refine v_i2l cx hv d_A_law_1512 ?_
    refine v_lcmp_eq cx 1519 h64 hv d_A_law_1513 d_A_law_1514 (by decide) (fun _ => ?_) (fun q => absurd (h.2.1 c) q)
    refine v_goto cx 2235 d_A_law_1519 (by decide) ?_
    refine v_sb [0, 1, 2, 3, 4] rfl ?_
    exact v_widen (zk3' (Nat.le_of_ble_eq_true rfl)) (zn3' (Nat.le_of_ble_eq_true rfl)) (nx _ h.2.2)
set_option maxRecDepth 20000 in
theorem c_A_21 {Ω : zO} {Γ : zM} {k n : Nat} {Q : State → Prop} {ad : Nat → Nat} {σ : zS} {b L : Nat} {xs : Nat → Int32} {i : Int} (cx : zC Ω Γ c_A_law 7 "GentleRoadLaw") (sc : zScr Ω Γ b L xs) (hi : 0 ≤ i ∧ i + 6 ≤ L) (inv : INV σ) (hk : k + 24 ≤ room_1.cells) (hn : n + 216 ≤ room_1.slots) (nx : ∀ σ', INV σ' → zV Ω Γ room_1 7 Q (k + 24) (n + 216) zLy ad σ' 2235 [(0, .ref b), (1, .ref (ad 0)), (2, .ref (ad 41)), (3, .ref (ad 64)), (4, .int (zI i))] []) : zV Ω Γ room_1 7 Q k n zLy ad σ 1522 [(0, .ref b), (1, .ref (ad 0)), (2, .ref (ad 41)), (3, .ref (ad 64)), (4, .int (zI i))] [] := by
  refine v_aload_n cx 1 d_A_law_1522 rfl rfl ?_
  refine v_aload_n cx 0 d_A_law_1523 rfl rfl ?_
  refine v_iload cx 4 d_A_law_1524 rfl ?_
  refine v_iconst cx d_A_law_1526 ?_
  refine v_iadd cx d_A_law_1527 ?_
  refine v_sld cx sc (by omega) (by omega) d_A_law_1528 ?_
  refine v_aload_n cx 0 d_A_law_1529 rfl rfl ?_
  refine v_iload cx 4 d_A_law_1530 rfl ?_
  refine v_iconst cx d_A_law_1532 ?_
  refine v_iadd cx d_A_law_1533 ?_
  refine v_sld cx sc (by omega) (by omega) d_A_law_1534 ?_
  refine v_aload_n cx 3 d_A_law_1535 rfl rfl ?_
  refine v_wcall (st := []) cx (s_A_road (zx_R _ _) (zx_R _ _) (pr_road inv)) yk_A_road lw_A_188 rfl rfl (Nat.le_of_ble_eq_true rfl) ⟨(Nat.le_of_ble_eq_true rfl), (Nat.le_of_ble_eq_true rfl)⟩ ⟨zk1 hk (Nat.le_of_ble_eq_true rfl), zn1 hn (Nat.le_of_ble_eq_true rfl)⟩ d_A_law_1536 (fun r u hr h => ?_)
  refine v_istore (lv' := [(0, .ref b), (1, .ref (ad 0)), (2, .ref (ad 41)), (3, .ref (ad 64)), (4, .int (zI i)), (5, .int (zI r))]) cx d_A_law_1539 (by decide) rfl rfl ?_
  refine v_aload_n cx 2 d_A_law_1541 rfl rfl ?_
  refine v_aload_n cx 0 d_A_law_1542 rfl rfl ?_
  refine v_iload cx 4 d_A_law_1543 rfl ?_
  refine v_iconst cx d_A_law_1545 ?_
  refine v_iadd cx d_A_law_1546 ?_
  refine v_sld cx sc (by omega) (by omega) d_A_law_1547 ?_
  refine v_aload_n cx 0 d_A_law_1548 rfl rfl ?_
  refine v_iload cx 4 d_A_law_1549 rfl ?_
  refine v_iconst cx d_A_law_1551 ?_
  refine v_iadd cx d_A_law_1552 ?_
  refine v_sld cx sc (by omega) (by omega) d_A_law_1553 ?_
  refine v_callVi (st := []) cx (s_M_road (zx_R _ _) (zx_R _ _) h) yk_M_road lw_A_190 zl_41 rfl rfl rfl (Nat.le_of_ble_eq_true rfl) ⟨(Nat.le_of_ble_eq_true rfl), (Nat.le_of_ble_eq_true rfl)⟩ ⟨zk2 hk (Nat.le_of_ble_eq_true rfl), zn2 hn (Nat.le_of_ble_eq_true rfl)⟩ d_A_law_1554 (fun v u2 hv h => ?_)
  refine v_istore (lv' := [(0, .ref b), (1, .ref (ad 0)), (2, .ref (ad 41)), (3, .ref (ad 64)), (4, .int (zI i)), (5, .int (zI r)), (6, .int (zI v))]) cx d_A_law_1557 (by decide) rfl rfl ?_
  refine v_aload_n cx 2 d_A_law_1559 rfl rfl ?_
  refine v_callVi (st := []) cx (s_M_thrown  (K := fun v w => v = u2 41 0 ∧ w = u2) (show q_M_thrown (fun v w => v = u2 41 0 ∧ w = u2) u2 from ⟨rfl, rfl⟩)) yk_M_thrown lw_A_125 zl_41 rfl rfl rfl (Nat.le_of_ble_eq_true rfl) ⟨(Nat.le_of_ble_eq_true rfl), (Nat.le_of_ble_eq_true rfl)⟩ ⟨zk3 hk (Nat.le_of_ble_eq_true rfl), zn3 hn (Nat.le_of_ble_eq_true rfl)⟩ d_A_law_1560 (fun v3 u3 hv3 h3 => ?_)
  obtain ⟨rfl, rfl⟩ := h3
  refine v_iload cx 5 d_A_law_1563 rfl ?_
  refine v_icmp_eq cx 1570 d_A_law_1565 (by decide) hv3 hr (fun _ => ?_) (fun c => absurd h.1 c)
  refine v_iload cx 5 d_A_law_1570 rfl ?_
  refine v_if_ne cx 1587 d_A_law_1572 (by decide) hr (fun c => ?_) (fun c => ?_)
  · refine v_goto cx 2235 d_A_law_1587 (by decide) ?_
    refine v_sb [0, 1, 2, 3, 4] rfl ?_
    exact v_widen (zk3' (Nat.le_of_ble_eq_true rfl)) (zn3' (Nat.le_of_ble_eq_true rfl)) (nx _ h.2.2)
  · refine v_aload_n cx 3 d_A_law_1575 rfl rfl ?_
    refine v_iconst cx d_A_law_1576 ?_
    refine v_lald cx zl_64 (by decide) (by decide) (by decide) d_A_law_1577 (fun h64 => ?_)
    refine v_iload cx 6 d_A_law_1578 rfl ?_
    refine v_i2l cx hv d_A_law_1580 ?_
    refine v_lcmp_eq cx 1587 h64 hv d_A_law_1581 d_A_law_1582 (by decide) (fun _ => ?_) (fun q => absurd (h.2.1 c) q)
    refine v_goto cx 2235 d_A_law_1587 (by decide) ?_
    refine v_sb [0, 1, 2, 3, 4] rfl ?_
    exact v_widen (zk3' (Nat.le_of_ble_eq_true rfl)) (zn3' (Nat.le_of_ble_eq_true rfl)) (nx _ h.2.2)
set_option maxRecDepth 20000 in
theorem c_A_22 {Ω : zO} {Γ : zM} {k n : Nat} {Q : State → Prop} {ad : Nat → Nat} {σ : zS} {b L : Nat} {xs : Nat → Int32} {i : Int} (cx : zC Ω Γ c_A_law 7 "GentleRoadLaw") (sc : zScr Ω Γ b L xs) (hi : 0 ≤ i ∧ i + 6 ≤ L) (inv : INV σ) (hk : k + 24 ≤ room_1.cells) (hn : n + 216 ≤ room_1.slots) (nx : ∀ σ', INV σ' → zV Ω Γ room_1 7 Q (k + 24) (n + 216) zLy ad σ' 2235 [(0, .ref b), (1, .ref (ad 0)), (2, .ref (ad 41)), (3, .ref (ad 64)), (4, .int (zI i))] []) : zV Ω Γ room_1 7 Q k n zLy ad σ 1590 [(0, .ref b), (1, .ref (ad 0)), (2, .ref (ad 41)), (3, .ref (ad 64)), (4, .int (zI i))] [] := by
  refine v_aload_n cx 1 d_A_law_1590 rfl rfl ?_
  refine v_aload_n cx 0 d_A_law_1591 rfl rfl ?_
  refine v_iload cx 4 d_A_law_1592 rfl ?_
  refine v_iconst cx d_A_law_1594 ?_
  refine v_iadd cx d_A_law_1595 ?_
  refine v_sld cx sc (by omega) (by omega) d_A_law_1596 ?_
  refine v_aload_n cx 0 d_A_law_1597 rfl rfl ?_
  refine v_iload cx 4 d_A_law_1598 rfl ?_
  refine v_iconst cx d_A_law_1600 ?_
  refine v_iadd cx d_A_law_1601 ?_
  refine v_sld cx sc (by omega) (by omega) d_A_law_1602 ?_
  refine v_aload_n cx 0 d_A_law_1603 rfl rfl ?_
  refine v_iload cx 4 d_A_law_1604 rfl ?_
  refine v_iconst cx d_A_law_1606 ?_
  refine v_iadd cx d_A_law_1607 ?_
  refine v_sld cx sc (by omega) (by omega) d_A_law_1608 ?_
  refine v_bit cx (t0 := 1616) (t1 := 1617) d_A_law_1609 (by decide) d_A_law_1612 d_A_law_1613 (by decide) d_A_law_1616 (zx_R _ _) ?_
  refine v_aload_n cx 3 d_A_law_1617 rfl rfl ?_
  refine v_wcall (st := []) cx (s_A_at (zx_R _ _) (zx_R _ _) (nz_b _) (pr_at inv)) yk_A_at lw_A_191 rfl rfl (Nat.le_of_ble_eq_true rfl) ⟨(Nat.le_of_ble_eq_true rfl), (Nat.le_of_ble_eq_true rfl)⟩ ⟨zk1 hk (Nat.le_of_ble_eq_true rfl), zn1 hn (Nat.le_of_ble_eq_true rfl)⟩ d_A_law_1618 (fun r u hr h => ?_)
  refine v_istore (lv' := [(0, .ref b), (1, .ref (ad 0)), (2, .ref (ad 41)), (3, .ref (ad 64)), (4, .int (zI i)), (5, .int (zI r))]) cx d_A_law_1621 (by decide) rfl rfl ?_
  refine v_aload_n cx 2 d_A_law_1623 rfl rfl ?_
  refine v_aload_n cx 0 d_A_law_1624 rfl rfl ?_
  refine v_iload cx 4 d_A_law_1625 rfl ?_
  refine v_iconst cx d_A_law_1627 ?_
  refine v_iadd cx d_A_law_1628 ?_
  refine v_sld cx sc (by omega) (by omega) d_A_law_1629 ?_
  refine v_aload_n cx 0 d_A_law_1630 rfl rfl ?_
  refine v_iload cx 4 d_A_law_1631 rfl ?_
  refine v_iconst cx d_A_law_1633 ?_
  refine v_iadd cx d_A_law_1634 ?_
  refine v_sld cx sc (by omega) (by omega) d_A_law_1635 ?_
  refine v_aload_n cx 0 d_A_law_1636 rfl rfl ?_
  refine v_iload cx 4 d_A_law_1637 rfl ?_
  refine v_iconst cx d_A_law_1639 ?_
  refine v_iadd cx d_A_law_1640 ?_
  refine v_sld cx sc (by omega) (by omega) d_A_law_1641 ?_
  refine v_bit cx (t0 := 1649) (t1 := 1650) d_A_law_1642 (by decide) d_A_law_1645 d_A_law_1646 (by decide) d_A_law_1649 (zx_R _ _) ?_
  refine v_callVi (st := []) cx (s_M_at (zx_R _ _) (zx_R _ _) (nz_b _) h) yk_M_at lw_A_194 zl_41 rfl rfl rfl (Nat.le_of_ble_eq_true rfl) ⟨(Nat.le_of_ble_eq_true rfl), (Nat.le_of_ble_eq_true rfl)⟩ ⟨zk2 hk (Nat.le_of_ble_eq_true rfl), zn2 hn (Nat.le_of_ble_eq_true rfl)⟩ d_A_law_1650 (fun v u2 hv h => ?_)
  refine v_istore (lv' := [(0, .ref b), (1, .ref (ad 0)), (2, .ref (ad 41)), (3, .ref (ad 64)), (4, .int (zI i)), (5, .int (zI r)), (6, .int (zI v))]) cx d_A_law_1653 (by decide) rfl rfl ?_
  refine v_aload_n cx 2 d_A_law_1655 rfl rfl ?_
  refine v_callVi (st := []) cx (s_M_thrown  (K := fun v w => v = u2 41 0 ∧ w = u2) (show q_M_thrown (fun v w => v = u2 41 0 ∧ w = u2) u2 from ⟨rfl, rfl⟩)) yk_M_thrown lw_A_125 zl_41 rfl rfl rfl (Nat.le_of_ble_eq_true rfl) ⟨(Nat.le_of_ble_eq_true rfl), (Nat.le_of_ble_eq_true rfl)⟩ ⟨zk3 hk (Nat.le_of_ble_eq_true rfl), zn3 hn (Nat.le_of_ble_eq_true rfl)⟩ d_A_law_1656 (fun v3 u3 hv3 h3 => ?_)
  obtain ⟨rfl, rfl⟩ := h3
  refine v_iload cx 5 d_A_law_1659 rfl ?_
  refine v_icmp_eq cx 1666 d_A_law_1661 (by decide) hv3 hr (fun _ => ?_) (fun c => absurd h.1 c)
  refine v_iload cx 5 d_A_law_1666 rfl ?_
  refine v_if_ne cx 1683 d_A_law_1668 (by decide) hr (fun c => ?_) (fun c => ?_)
  · refine v_goto cx 2235 d_A_law_1683 (by decide) ?_
    refine v_sb [0, 1, 2, 3, 4] rfl ?_
    exact v_widen (zk3' (Nat.le_of_ble_eq_true rfl)) (zn3' (Nat.le_of_ble_eq_true rfl)) (nx _ h.2.2)
  · refine v_aload_n cx 3 d_A_law_1671 rfl rfl ?_
    refine v_iconst cx d_A_law_1672 ?_
    refine v_lald cx zl_64 (by decide) (by decide) (by decide) d_A_law_1673 (fun h64 => ?_)
    refine v_iload cx 6 d_A_law_1674 rfl ?_
    refine v_i2l cx hv d_A_law_1676 ?_
    refine v_lcmp_eq cx 1683 h64 hv d_A_law_1677 d_A_law_1678 (by decide) (fun _ => ?_) (fun q => absurd (h.2.1 c) q)
    refine v_goto cx 2235 d_A_law_1683 (by decide) ?_
    refine v_sb [0, 1, 2, 3, 4] rfl ?_
    exact v_widen (zk3' (Nat.le_of_ble_eq_true rfl)) (zn3' (Nat.le_of_ble_eq_true rfl)) (nx _ h.2.2)
set_option maxRecDepth 20000 in
theorem c_A_23 {Ω : zO} {Γ : zM} {k n : Nat} {Q : State → Prop} {ad : Nat → Nat} {σ : zS} {b L : Nat} {xs : Nat → Int32} {i : Int} (cx : zC Ω Γ c_A_law 7 "GentleRoadLaw") (sc : zScr Ω Γ b L xs) (hi : 0 ≤ i ∧ i + 6 ≤ L) (inv : INV σ) (hk : k + 24 ≤ room_1.cells) (hn : n + 216 ≤ room_1.slots) (nx : ∀ σ', INV σ' → zV Ω Γ room_1 7 Q (k + 24) (n + 216) zLy ad σ' 2235 [(0, .ref b), (1, .ref (ad 0)), (2, .ref (ad 41)), (3, .ref (ad 64)), (4, .int (zI i))] []) : zV Ω Γ room_1 7 Q k n zLy ad σ 1686 [(0, .ref b), (1, .ref (ad 0)), (2, .ref (ad 41)), (3, .ref (ad 64)), (4, .int (zI i))] [] := by
  refine v_aload_n cx 1 d_A_law_1686 rfl rfl ?_
  refine v_aload_n cx 0 d_A_law_1687 rfl rfl ?_
  refine v_iload cx 4 d_A_law_1688 rfl ?_
  refine v_iconst cx d_A_law_1690 ?_
  refine v_iadd cx d_A_law_1691 ?_
  refine v_sld cx sc (by omega) (by omega) d_A_law_1692 ?_
  refine v_aload_n cx 0 d_A_law_1693 rfl rfl ?_
  refine v_iload cx 4 d_A_law_1694 rfl ?_
  refine v_iconst cx d_A_law_1696 ?_
  refine v_iadd cx d_A_law_1697 ?_
  refine v_sld cx sc (by omega) (by omega) d_A_law_1698 ?_
  refine v_aload_n cx 3 d_A_law_1699 rfl rfl ?_
  refine v_wcall (st := []) cx (s_A_earth (zx_R _ _) (zx_R _ _) (pr_earth inv)) yk_A_earth lw_A_195 rfl rfl (Nat.le_of_ble_eq_true rfl) ⟨(Nat.le_of_ble_eq_true rfl), (Nat.le_of_ble_eq_true rfl)⟩ ⟨zk1 hk (Nat.le_of_ble_eq_true rfl), zn1 hn (Nat.le_of_ble_eq_true rfl)⟩ d_A_law_1700 (fun r u hr h => ?_)
  refine v_istore (lv' := [(0, .ref b), (1, .ref (ad 0)), (2, .ref (ad 41)), (3, .ref (ad 64)), (4, .int (zI i)), (5, .int (zI r))]) cx d_A_law_1703 (by decide) rfl rfl ?_
  refine v_aload_n cx 2 d_A_law_1705 rfl rfl ?_
  refine v_aload_n cx 0 d_A_law_1706 rfl rfl ?_
  refine v_iload cx 4 d_A_law_1707 rfl ?_
  refine v_iconst cx d_A_law_1709 ?_
  refine v_iadd cx d_A_law_1710 ?_
  refine v_sld cx sc (by omega) (by omega) d_A_law_1711 ?_
  refine v_aload_n cx 0 d_A_law_1712 rfl rfl ?_
  refine v_iload cx 4 d_A_law_1713 rfl ?_
  refine v_iconst cx d_A_law_1715 ?_
  refine v_iadd cx d_A_law_1716 ?_
  refine v_sld cx sc (by omega) (by omega) d_A_law_1717 ?_
  refine v_callVi (st := []) cx (s_M_earth (zx_R _ _) (zx_R _ _) h) yk_M_earth lw_A_197 zl_41 rfl rfl rfl (Nat.le_of_ble_eq_true rfl) ⟨(Nat.le_of_ble_eq_true rfl), (Nat.le_of_ble_eq_true rfl)⟩ ⟨zk2 hk (Nat.le_of_ble_eq_true rfl), zn2 hn (Nat.le_of_ble_eq_true rfl)⟩ d_A_law_1718 (fun v u2 hv h => ?_)
  refine v_istore (lv' := [(0, .ref b), (1, .ref (ad 0)), (2, .ref (ad 41)), (3, .ref (ad 64)), (4, .int (zI i)), (5, .int (zI r)), (6, .int (zI v))]) cx d_A_law_1721 (by decide) rfl rfl ?_
  refine v_aload_n cx 2 d_A_law_1723 rfl rfl ?_
  refine v_callVi (st := []) cx (s_M_thrown  (K := fun v w => v = u2 41 0 ∧ w = u2) (show q_M_thrown (fun v w => v = u2 41 0 ∧ w = u2) u2 from ⟨rfl, rfl⟩)) yk_M_thrown lw_A_125 zl_41 rfl rfl rfl (Nat.le_of_ble_eq_true rfl) ⟨(Nat.le_of_ble_eq_true rfl), (Nat.le_of_ble_eq_true rfl)⟩ ⟨zk3 hk (Nat.le_of_ble_eq_true rfl), zn3 hn (Nat.le_of_ble_eq_true rfl)⟩ d_A_law_1724 (fun v3 u3 hv3 h3 => ?_)
  obtain ⟨rfl, rfl⟩ := h3
  refine v_iload cx 5 d_A_law_1727 rfl ?_
  refine v_icmp_eq cx 1734 d_A_law_1729 (by decide) hv3 hr (fun _ => ?_) (fun c => absurd h.1 c)
  refine v_iload cx 5 d_A_law_1734 rfl ?_
  refine v_if_ne cx 1751 d_A_law_1736 (by decide) hr (fun c => ?_) (fun c => ?_)
  · refine v_goto cx 2235 d_A_law_1751 (by decide) ?_
    refine v_sb [0, 1, 2, 3, 4] rfl ?_
    exact v_widen (zk3' (Nat.le_of_ble_eq_true rfl)) (zn3' (Nat.le_of_ble_eq_true rfl)) (nx _ h.2.2)
  · refine v_aload_n cx 3 d_A_law_1739 rfl rfl ?_
    refine v_iconst cx d_A_law_1740 ?_
    refine v_lald cx zl_64 (by decide) (by decide) (by decide) d_A_law_1741 (fun h64 => ?_)
    refine v_iload cx 6 d_A_law_1742 rfl ?_
    refine v_i2l cx hv d_A_law_1744 ?_
    refine v_lcmp_eq cx 1751 h64 hv d_A_law_1745 d_A_law_1746 (by decide) (fun _ => ?_) (fun q => absurd (h.2.1 c) q)
    refine v_goto cx 2235 d_A_law_1751 (by decide) ?_
    refine v_sb [0, 1, 2, 3, 4] rfl ?_
    exact v_widen (zk3' (Nat.le_of_ble_eq_true rfl)) (zn3' (Nat.le_of_ble_eq_true rfl)) (nx _ h.2.2)
set_option maxRecDepth 20000 in
theorem c_A_24 {Ω : zO} {Γ : zM} {k n : Nat} {Q : State → Prop} {ad : Nat → Nat} {σ : zS} {b L : Nat} {xs : Nat → Int32} {i : Int} (cx : zC Ω Γ c_A_law 7 "GentleRoadLaw") (sc : zScr Ω Γ b L xs) (hi : 0 ≤ i ∧ i + 6 ≤ L) (inv : INV σ) (hk : k + 24 ≤ room_1.cells) (hn : n + 216 ≤ room_1.slots) (nx : ∀ σ', INV σ' → zV Ω Γ room_1 7 Q (k + 24) (n + 216) zLy ad σ' 2235 [(0, .ref b), (1, .ref (ad 0)), (2, .ref (ad 41)), (3, .ref (ad 64)), (4, .int (zI i))] []) : zV Ω Γ room_1 7 Q k n zLy ad σ 1754 [(0, .ref b), (1, .ref (ad 0)), (2, .ref (ad 41)), (3, .ref (ad 64)), (4, .int (zI i))] [] := by
  refine v_aload_n cx 1 d_A_law_1754 rfl rfl ?_
  refine v_aload_n cx 0 d_A_law_1755 rfl rfl ?_
  refine v_iload cx 4 d_A_law_1756 rfl ?_
  refine v_iconst cx d_A_law_1758 ?_
  refine v_iadd cx d_A_law_1759 ?_
  refine v_sld cx sc (by omega) (by omega) d_A_law_1760 ?_
  refine v_aload_n cx 0 d_A_law_1761 rfl rfl ?_
  refine v_iload cx 4 d_A_law_1762 rfl ?_
  refine v_iconst cx d_A_law_1764 ?_
  refine v_iadd cx d_A_law_1765 ?_
  refine v_sld cx sc (by omega) (by omega) d_A_law_1766 ?_
  refine v_aload_n cx 3 d_A_law_1767 rfl rfl ?_
  refine v_wcall (st := []) cx (s_A_water (zx_R _ _) (zx_R _ _) (pr_water inv)) yk_A_water lw_A_198 rfl rfl (Nat.le_of_ble_eq_true rfl) ⟨(Nat.le_of_ble_eq_true rfl), (Nat.le_of_ble_eq_true rfl)⟩ ⟨zk1 hk (Nat.le_of_ble_eq_true rfl), zn1 hn (Nat.le_of_ble_eq_true rfl)⟩ d_A_law_1768 (fun r u hr h => ?_)
  refine v_istore (lv' := [(0, .ref b), (1, .ref (ad 0)), (2, .ref (ad 41)), (3, .ref (ad 64)), (4, .int (zI i)), (5, .int (zI r))]) cx d_A_law_1771 (by decide) rfl rfl ?_
  refine v_aload_n cx 2 d_A_law_1773 rfl rfl ?_
  refine v_aload_n cx 0 d_A_law_1774 rfl rfl ?_
  refine v_iload cx 4 d_A_law_1775 rfl ?_
  refine v_iconst cx d_A_law_1777 ?_
  refine v_iadd cx d_A_law_1778 ?_
  refine v_sld cx sc (by omega) (by omega) d_A_law_1779 ?_
  refine v_aload_n cx 0 d_A_law_1780 rfl rfl ?_
  refine v_iload cx 4 d_A_law_1781 rfl ?_
  refine v_iconst cx d_A_law_1783 ?_
  refine v_iadd cx d_A_law_1784 ?_
  refine v_sld cx sc (by omega) (by omega) d_A_law_1785 ?_
  refine v_callVi (st := []) cx (s_M_water (zx_R _ _) (zx_R _ _) h) yk_M_water lw_A_200 zl_41 rfl rfl rfl (Nat.le_of_ble_eq_true rfl) ⟨(Nat.le_of_ble_eq_true rfl), (Nat.le_of_ble_eq_true rfl)⟩ ⟨zk2 hk (Nat.le_of_ble_eq_true rfl), zn2 hn (Nat.le_of_ble_eq_true rfl)⟩ d_A_law_1786 (fun v u2 hv h => ?_)
  refine v_istore (lv' := [(0, .ref b), (1, .ref (ad 0)), (2, .ref (ad 41)), (3, .ref (ad 64)), (4, .int (zI i)), (5, .int (zI r)), (6, .int (zI v))]) cx d_A_law_1789 (by decide) rfl rfl ?_
  refine v_aload_n cx 2 d_A_law_1791 rfl rfl ?_
  refine v_callVi (st := []) cx (s_M_thrown  (K := fun v w => v = u2 41 0 ∧ w = u2) (show q_M_thrown (fun v w => v = u2 41 0 ∧ w = u2) u2 from ⟨rfl, rfl⟩)) yk_M_thrown lw_A_125 zl_41 rfl rfl rfl (Nat.le_of_ble_eq_true rfl) ⟨(Nat.le_of_ble_eq_true rfl), (Nat.le_of_ble_eq_true rfl)⟩ ⟨zk3 hk (Nat.le_of_ble_eq_true rfl), zn3 hn (Nat.le_of_ble_eq_true rfl)⟩ d_A_law_1792 (fun v3 u3 hv3 h3 => ?_)
  obtain ⟨rfl, rfl⟩ := h3
  refine v_iload cx 5 d_A_law_1795 rfl ?_
  refine v_icmp_eq cx 1802 d_A_law_1797 (by decide) hv3 hr (fun _ => ?_) (fun c => absurd h.1 c)
  refine v_iload cx 5 d_A_law_1802 rfl ?_
  refine v_if_ne cx 1819 d_A_law_1804 (by decide) hr (fun c => ?_) (fun c => ?_)
  · refine v_goto cx 2235 d_A_law_1819 (by decide) ?_
    refine v_sb [0, 1, 2, 3, 4] rfl ?_
    exact v_widen (zk3' (Nat.le_of_ble_eq_true rfl)) (zn3' (Nat.le_of_ble_eq_true rfl)) (nx _ h.2.2)
  · refine v_aload_n cx 3 d_A_law_1807 rfl rfl ?_
    refine v_iconst cx d_A_law_1808 ?_
    refine v_lald cx zl_64 (by decide) (by decide) (by decide) d_A_law_1809 (fun h64 => ?_)
    refine v_iload cx 6 d_A_law_1810 rfl ?_
    refine v_i2l cx hv d_A_law_1812 ?_
    refine v_lcmp_eq cx 1819 h64 hv d_A_law_1813 d_A_law_1814 (by decide) (fun _ => ?_) (fun q => absurd (h.2.1 c) q)
    refine v_goto cx 2235 d_A_law_1819 (by decide) ?_
    refine v_sb [0, 1, 2, 3, 4] rfl ?_
    exact v_widen (zk3' (Nat.le_of_ble_eq_true rfl)) (zn3' (Nat.le_of_ble_eq_true rfl)) (nx _ h.2.2)
set_option maxRecDepth 20000 in
theorem c_A_25 {Ω : zO} {Γ : zM} {k n : Nat} {Q : State → Prop} {ad : Nat → Nat} {σ : zS} {b L : Nat} {xs : Nat → Int32} {i : Int} (cx : zC Ω Γ c_A_law 7 "GentleRoadLaw") (sc : zScr Ω Γ b L xs) (hi : 0 ≤ i ∧ i + 6 ≤ L) (inv : INV σ) (hk : k + 24 ≤ room_1.cells) (hn : n + 216 ≤ room_1.slots) (nx : ∀ σ', INV σ' → zV Ω Γ room_1 7 Q (k + 24) (n + 216) zLy ad σ' 2235 [(0, .ref b), (1, .ref (ad 0)), (2, .ref (ad 41)), (3, .ref (ad 64)), (4, .int (zI i))] []) : zV Ω Γ room_1 7 Q k n zLy ad σ 1822 [(0, .ref b), (1, .ref (ad 0)), (2, .ref (ad 41)), (3, .ref (ad 64)), (4, .int (zI i))] [] := by
  refine v_aload_n cx 1 d_A_law_1822 rfl rfl ?_
  refine v_aload_n cx 0 d_A_law_1823 rfl rfl ?_
  refine v_iload cx 4 d_A_law_1824 rfl ?_
  refine v_iconst cx d_A_law_1826 ?_
  refine v_iadd cx d_A_law_1827 ?_
  refine v_sld cx sc (by omega) (by omega) d_A_law_1828 ?_
  refine v_aload_n cx 0 d_A_law_1829 rfl rfl ?_
  refine v_iload cx 4 d_A_law_1830 rfl ?_
  refine v_iconst cx d_A_law_1832 ?_
  refine v_iadd cx d_A_law_1833 ?_
  refine v_sld cx sc (by omega) (by omega) d_A_law_1834 ?_
  refine v_aload_n cx 3 d_A_law_1835 rfl rfl ?_
  refine v_wcall (st := []) cx (s_A_bridges (zx_R _ _) (zx_R _ _) (pr_bridges inv)) yk_A_bridges lw_A_201 rfl rfl (Nat.le_of_ble_eq_true rfl) ⟨(Nat.le_of_ble_eq_true rfl), (Nat.le_of_ble_eq_true rfl)⟩ ⟨zk1 hk (Nat.le_of_ble_eq_true rfl), zn1 hn (Nat.le_of_ble_eq_true rfl)⟩ d_A_law_1836 (fun r u hr h => ?_)
  refine v_istore (lv' := [(0, .ref b), (1, .ref (ad 0)), (2, .ref (ad 41)), (3, .ref (ad 64)), (4, .int (zI i)), (5, .int (zI r))]) cx d_A_law_1839 (by decide) rfl rfl ?_
  refine v_aload_n cx 2 d_A_law_1841 rfl rfl ?_
  refine v_aload_n cx 0 d_A_law_1842 rfl rfl ?_
  refine v_iload cx 4 d_A_law_1843 rfl ?_
  refine v_iconst cx d_A_law_1845 ?_
  refine v_iadd cx d_A_law_1846 ?_
  refine v_sld cx sc (by omega) (by omega) d_A_law_1847 ?_
  refine v_aload_n cx 0 d_A_law_1848 rfl rfl ?_
  refine v_iload cx 4 d_A_law_1849 rfl ?_
  refine v_iconst cx d_A_law_1851 ?_
  refine v_iadd cx d_A_law_1852 ?_
  refine v_sld cx sc (by omega) (by omega) d_A_law_1853 ?_
  refine v_callVi (st := []) cx (s_M_bridges (zx_R _ _) (zx_R _ _) h) yk_M_bridges lw_A_203 zl_41 rfl rfl rfl (Nat.le_of_ble_eq_true rfl) ⟨(Nat.le_of_ble_eq_true rfl), (Nat.le_of_ble_eq_true rfl)⟩ ⟨zk2 hk (Nat.le_of_ble_eq_true rfl), zn2 hn (Nat.le_of_ble_eq_true rfl)⟩ d_A_law_1854 (fun v u2 hv h => ?_)
  refine v_istore (lv' := [(0, .ref b), (1, .ref (ad 0)), (2, .ref (ad 41)), (3, .ref (ad 64)), (4, .int (zI i)), (5, .int (zI r)), (6, .int (zI v))]) cx d_A_law_1857 (by decide) rfl rfl ?_
  refine v_aload_n cx 2 d_A_law_1859 rfl rfl ?_
  refine v_callVi (st := []) cx (s_M_thrown  (K := fun v w => v = u2 41 0 ∧ w = u2) (show q_M_thrown (fun v w => v = u2 41 0 ∧ w = u2) u2 from ⟨rfl, rfl⟩)) yk_M_thrown lw_A_125 zl_41 rfl rfl rfl (Nat.le_of_ble_eq_true rfl) ⟨(Nat.le_of_ble_eq_true rfl), (Nat.le_of_ble_eq_true rfl)⟩ ⟨zk3 hk (Nat.le_of_ble_eq_true rfl), zn3 hn (Nat.le_of_ble_eq_true rfl)⟩ d_A_law_1860 (fun v3 u3 hv3 h3 => ?_)
  obtain ⟨rfl, rfl⟩ := h3
  refine v_iload cx 5 d_A_law_1863 rfl ?_
  refine v_icmp_eq cx 1870 d_A_law_1865 (by decide) hv3 hr (fun _ => ?_) (fun c => absurd h.1 c)
  refine v_iload cx 5 d_A_law_1870 rfl ?_
  refine v_if_ne cx 1887 d_A_law_1872 (by decide) hr (fun c => ?_) (fun c => ?_)
  · refine v_goto cx 2235 d_A_law_1887 (by decide) ?_
    refine v_sb [0, 1, 2, 3, 4] rfl ?_
    exact v_widen (zk3' (Nat.le_of_ble_eq_true rfl)) (zn3' (Nat.le_of_ble_eq_true rfl)) (nx _ h.2.2)
  · refine v_aload_n cx 3 d_A_law_1875 rfl rfl ?_
    refine v_iconst cx d_A_law_1876 ?_
    refine v_lald cx zl_64 (by decide) (by decide) (by decide) d_A_law_1877 (fun h64 => ?_)
    refine v_iload cx 6 d_A_law_1878 rfl ?_
    refine v_i2l cx hv d_A_law_1880 ?_
    refine v_lcmp_eq cx 1887 h64 hv d_A_law_1881 d_A_law_1882 (by decide) (fun _ => ?_) (fun q => absurd (h.2.1 c) q)
    refine v_goto cx 2235 d_A_law_1887 (by decide) ?_
    refine v_sb [0, 1, 2, 3, 4] rfl ?_
    exact v_widen (zk3' (Nat.le_of_ble_eq_true rfl)) (zn3' (Nat.le_of_ble_eq_true rfl)) (nx _ h.2.2)
set_option maxRecDepth 20000 in
theorem c_A_26 {Ω : zO} {Γ : zM} {k n : Nat} {Q : State → Prop} {ad : Nat → Nat} {σ : zS} {b L : Nat} {xs : Nat → Int32} {i : Int} (cx : zC Ω Γ c_A_law 7 "GentleRoadLaw") (sc : zScr Ω Γ b L xs) (hi : 0 ≤ i ∧ i + 6 ≤ L) (inv : INV σ) (hk : k + 24 ≤ room_1.cells) (hn : n + 216 ≤ room_1.slots) (nx : ∀ σ', INV σ' → zV Ω Γ room_1 7 Q (k + 24) (n + 216) zLy ad σ' 2235 [(0, .ref b), (1, .ref (ad 0)), (2, .ref (ad 41)), (3, .ref (ad 64)), (4, .int (zI i))] []) : zV Ω Γ room_1 7 Q k n zLy ad σ 1890 [(0, .ref b), (1, .ref (ad 0)), (2, .ref (ad 41)), (3, .ref (ad 64)), (4, .int (zI i))] [] := by
  refine v_aload_n cx 1 d_A_law_1890 rfl rfl ?_
  refine v_aload_n cx 0 d_A_law_1891 rfl rfl ?_
  refine v_iload cx 4 d_A_law_1892 rfl ?_
  refine v_iconst cx d_A_law_1894 ?_
  refine v_iadd cx d_A_law_1895 ?_
  refine v_sld cx sc (by omega) (by omega) d_A_law_1896 ?_
  refine v_aload_n cx 0 d_A_law_1897 rfl rfl ?_
  refine v_iload cx 4 d_A_law_1898 rfl ?_
  refine v_iconst cx d_A_law_1900 ?_
  refine v_iadd cx d_A_law_1901 ?_
  refine v_sld cx sc (by omega) (by omega) d_A_law_1902 ?_
  refine v_aload_n cx 0 d_A_law_1903 rfl rfl ?_
  refine v_iload cx 4 d_A_law_1904 rfl ?_
  refine v_iconst cx d_A_law_1906 ?_
  refine v_iadd cx d_A_law_1907 ?_
  refine v_sld cx sc (by omega) (by omega) d_A_law_1908 ?_
  refine v_aload_n cx 3 d_A_law_1909 rfl rfl ?_
  refine v_wcall (st := []) cx (s_A_joins (zx_R _ _) (zx_R _ _) (zx_R _ _) (pr_joins inv)) yk_A_joins lw_A_204 rfl rfl (Nat.le_of_ble_eq_true rfl) ⟨(Nat.le_of_ble_eq_true rfl), (Nat.le_of_ble_eq_true rfl)⟩ ⟨zk1 hk (Nat.le_of_ble_eq_true rfl), zn1 hn (Nat.le_of_ble_eq_true rfl)⟩ d_A_law_1910 (fun r u hr h => ?_)
  refine v_istore (lv' := [(0, .ref b), (1, .ref (ad 0)), (2, .ref (ad 41)), (3, .ref (ad 64)), (4, .int (zI i)), (5, .int (zI r))]) cx d_A_law_1913 (by decide) rfl rfl ?_
  refine v_aload_n cx 2 d_A_law_1915 rfl rfl ?_
  refine v_aload_n cx 0 d_A_law_1916 rfl rfl ?_
  refine v_iload cx 4 d_A_law_1917 rfl ?_
  refine v_iconst cx d_A_law_1919 ?_
  refine v_iadd cx d_A_law_1920 ?_
  refine v_sld cx sc (by omega) (by omega) d_A_law_1921 ?_
  refine v_aload_n cx 0 d_A_law_1922 rfl rfl ?_
  refine v_iload cx 4 d_A_law_1923 rfl ?_
  refine v_iconst cx d_A_law_1925 ?_
  refine v_iadd cx d_A_law_1926 ?_
  refine v_sld cx sc (by omega) (by omega) d_A_law_1927 ?_
  refine v_aload_n cx 0 d_A_law_1928 rfl rfl ?_
  refine v_iload cx 4 d_A_law_1929 rfl ?_
  refine v_iconst cx d_A_law_1931 ?_
  refine v_iadd cx d_A_law_1932 ?_
  refine v_sld cx sc (by omega) (by omega) d_A_law_1933 ?_
  refine v_callVi (st := []) cx (s_M_joins (zx_R _ _) (zx_R _ _) (zx_R _ _) h) yk_M_joins lw_A_206 zl_41 rfl rfl rfl (Nat.le_of_ble_eq_true rfl) ⟨(Nat.le_of_ble_eq_true rfl), (Nat.le_of_ble_eq_true rfl)⟩ ⟨zk2 hk (Nat.le_of_ble_eq_true rfl), zn2 hn (Nat.le_of_ble_eq_true rfl)⟩ d_A_law_1934 (fun v u2 hv h => ?_)
  refine v_istore (lv' := [(0, .ref b), (1, .ref (ad 0)), (2, .ref (ad 41)), (3, .ref (ad 64)), (4, .int (zI i)), (5, .int (zI r)), (6, .int (zI v))]) cx d_A_law_1937 (by decide) rfl rfl ?_
  refine v_aload_n cx 2 d_A_law_1939 rfl rfl ?_
  refine v_callVi (st := []) cx (s_M_thrown  (K := fun v w => v = u2 41 0 ∧ w = u2) (show q_M_thrown (fun v w => v = u2 41 0 ∧ w = u2) u2 from ⟨rfl, rfl⟩)) yk_M_thrown lw_A_125 zl_41 rfl rfl rfl (Nat.le_of_ble_eq_true rfl) ⟨(Nat.le_of_ble_eq_true rfl), (Nat.le_of_ble_eq_true rfl)⟩ ⟨zk3 hk (Nat.le_of_ble_eq_true rfl), zn3 hn (Nat.le_of_ble_eq_true rfl)⟩ d_A_law_1940 (fun v3 u3 hv3 h3 => ?_)
  obtain ⟨rfl, rfl⟩ := h3
  refine v_iload cx 5 d_A_law_1943 rfl ?_
  refine v_icmp_eq cx 1950 d_A_law_1945 (by decide) hv3 hr (fun _ => ?_) (fun c => absurd h.1 c)
  refine v_iload cx 5 d_A_law_1950 rfl ?_
  refine v_if_ne cx 1967 d_A_law_1952 (by decide) hr (fun c => ?_) (fun c => ?_)
  · refine v_goto cx 2235 d_A_law_1967 (by decide) ?_
    refine v_sb [0, 1, 2, 3, 4] rfl ?_
    exact v_widen (zk3' (Nat.le_of_ble_eq_true rfl)) (zn3' (Nat.le_of_ble_eq_true rfl)) (nx _ h.2.2)
  · refine v_aload_n cx 3 d_A_law_1955 rfl rfl ?_
    refine v_iconst cx d_A_law_1956 ?_
    refine v_lald cx zl_64 (by decide) (by decide) (by decide) d_A_law_1957 (fun h64 => ?_)
    refine v_iload cx 6 d_A_law_1958 rfl ?_
    refine v_i2l cx hv d_A_law_1960 ?_
    refine v_lcmp_eq cx 1967 h64 hv d_A_law_1961 d_A_law_1962 (by decide) (fun _ => ?_) (fun q => absurd (h.2.1 c) q)
    refine v_goto cx 2235 d_A_law_1967 (by decide) ?_
    refine v_sb [0, 1, 2, 3, 4] rfl ?_
    exact v_widen (zk3' (Nat.le_of_ble_eq_true rfl)) (zn3' (Nat.le_of_ble_eq_true rfl)) (nx _ h.2.2)
set_option maxRecDepth 20000 in
theorem c_A_27 {Ω : zO} {Γ : zM} {k n : Nat} {Q : State → Prop} {ad : Nat → Nat} {σ : zS} {b L : Nat} {xs : Nat → Int32} {i : Int} (cx : zC Ω Γ c_A_law 7 "GentleRoadLaw") (sc : zScr Ω Γ b L xs) (hi : 0 ≤ i ∧ i + 6 ≤ L) (inv : INV σ) (hk : k + 24 ≤ room_1.cells) (hn : n + 216 ≤ room_1.slots) (nx : ∀ σ', INV σ' → zV Ω Γ room_1 7 Q (k + 24) (n + 216) zLy ad σ' 2235 [(0, .ref b), (1, .ref (ad 0)), (2, .ref (ad 41)), (3, .ref (ad 64)), (4, .int (zI i))] []) : zV Ω Γ room_1 7 Q k n zLy ad σ 1970 [(0, .ref b), (1, .ref (ad 0)), (2, .ref (ad 41)), (3, .ref (ad 64)), (4, .int (zI i))] [] := by
  refine v_aload_n cx 1 d_A_law_1970 rfl rfl ?_
  refine v_aload_n cx 0 d_A_law_1971 rfl rfl ?_
  refine v_iload cx 4 d_A_law_1972 rfl ?_
  refine v_iconst cx d_A_law_1974 ?_
  refine v_iadd cx d_A_law_1975 ?_
  refine v_sld cx sc (by omega) (by omega) d_A_law_1976 ?_
  refine v_aload_n cx 0 d_A_law_1977 rfl rfl ?_
  refine v_iload cx 4 d_A_law_1978 rfl ?_
  refine v_iconst cx d_A_law_1980 ?_
  refine v_iadd cx d_A_law_1981 ?_
  refine v_sld cx sc (by omega) (by omega) d_A_law_1982 ?_
  refine v_aload_n cx 0 d_A_law_1983 rfl rfl ?_
  refine v_iload cx 4 d_A_law_1984 rfl ?_
  refine v_iconst cx d_A_law_1986 ?_
  refine v_iadd cx d_A_law_1987 ?_
  refine v_sld cx sc (by omega) (by omega) d_A_law_1988 ?_
  refine v_aload_n cx 3 d_A_law_1989 rfl rfl ?_
  refine v_wcall (st := []) cx (s_A_spare (zx_R _ _) (zx_R _ _) (zx_R _ _) (pr_spare inv)) yk_A_spare lw_A_207 rfl rfl (Nat.le_of_ble_eq_true rfl) ⟨(Nat.le_of_ble_eq_true rfl), (Nat.le_of_ble_eq_true rfl)⟩ ⟨zk1 hk (Nat.le_of_ble_eq_true rfl), zn1 hn (Nat.le_of_ble_eq_true rfl)⟩ d_A_law_1990 (fun r u hr h => ?_)
  refine v_istore (lv' := [(0, .ref b), (1, .ref (ad 0)), (2, .ref (ad 41)), (3, .ref (ad 64)), (4, .int (zI i)), (5, .int (zI r))]) cx d_A_law_1993 (by decide) rfl rfl ?_
  refine v_aload_n cx 2 d_A_law_1995 rfl rfl ?_
  refine v_aload_n cx 0 d_A_law_1996 rfl rfl ?_
  refine v_iload cx 4 d_A_law_1997 rfl ?_
  refine v_iconst cx d_A_law_1999 ?_
  refine v_iadd cx d_A_law_2000 ?_
  refine v_sld cx sc (by omega) (by omega) d_A_law_2001 ?_
  refine v_aload_n cx 0 d_A_law_2002 rfl rfl ?_
  refine v_iload cx 4 d_A_law_2003 rfl ?_
  refine v_iconst cx d_A_law_2005 ?_
  refine v_iadd cx d_A_law_2006 ?_
  refine v_sld cx sc (by omega) (by omega) d_A_law_2007 ?_
  refine v_aload_n cx 0 d_A_law_2008 rfl rfl ?_
  refine v_iload cx 4 d_A_law_2009 rfl ?_
  refine v_iconst cx d_A_law_2011 ?_
  refine v_iadd cx d_A_law_2012 ?_
  refine v_sld cx sc (by omega) (by omega) d_A_law_2013 ?_
  refine v_callVi (st := []) cx (s_M_spare (zx_R _ _) (zx_R _ _) (zx_R _ _) h) yk_M_spare lw_A_209 zl_41 rfl rfl rfl (Nat.le_of_ble_eq_true rfl) ⟨(Nat.le_of_ble_eq_true rfl), (Nat.le_of_ble_eq_true rfl)⟩ ⟨zk2 hk (Nat.le_of_ble_eq_true rfl), zn2 hn (Nat.le_of_ble_eq_true rfl)⟩ d_A_law_2014 (fun v u2 hv h => ?_)
  refine v_istore (lv' := [(0, .ref b), (1, .ref (ad 0)), (2, .ref (ad 41)), (3, .ref (ad 64)), (4, .int (zI i)), (5, .int (zI r)), (6, .int (zI v))]) cx d_A_law_2017 (by decide) rfl rfl ?_
  refine v_aload_n cx 2 d_A_law_2019 rfl rfl ?_
  refine v_callVi (st := []) cx (s_M_thrown  (K := fun v w => v = u2 41 0 ∧ w = u2) (show q_M_thrown (fun v w => v = u2 41 0 ∧ w = u2) u2 from ⟨rfl, rfl⟩)) yk_M_thrown lw_A_125 zl_41 rfl rfl rfl (Nat.le_of_ble_eq_true rfl) ⟨(Nat.le_of_ble_eq_true rfl), (Nat.le_of_ble_eq_true rfl)⟩ ⟨zk3 hk (Nat.le_of_ble_eq_true rfl), zn3 hn (Nat.le_of_ble_eq_true rfl)⟩ d_A_law_2020 (fun v3 u3 hv3 h3 => ?_)
  obtain ⟨rfl, rfl⟩ := h3
  refine v_iload cx 5 d_A_law_2023 rfl ?_
  refine v_icmp_eq cx 2030 d_A_law_2025 (by decide) hv3 hr (fun _ => ?_) (fun c => absurd h.1 c)
  refine v_iload cx 5 d_A_law_2030 rfl ?_
  refine v_if_ne cx 2047 d_A_law_2032 (by decide) hr (fun c => ?_) (fun c => ?_)
  · refine v_goto cx 2235 d_A_law_2047 (by decide) ?_
    refine v_sb [0, 1, 2, 3, 4] rfl ?_
    exact v_widen (zk3' (Nat.le_of_ble_eq_true rfl)) (zn3' (Nat.le_of_ble_eq_true rfl)) (nx _ h.2.2)
  · refine v_aload_n cx 3 d_A_law_2035 rfl rfl ?_
    refine v_iconst cx d_A_law_2036 ?_
    refine v_lald cx zl_64 (by decide) (by decide) (by decide) d_A_law_2037 (fun h64 => ?_)
    refine v_iload cx 6 d_A_law_2038 rfl ?_
    refine v_i2l cx hv d_A_law_2040 ?_
    refine v_lcmp_eq cx 2047 h64 hv d_A_law_2041 d_A_law_2042 (by decide) (fun _ => ?_) (fun q => absurd (h.2.1 c) q)
    refine v_goto cx 2235 d_A_law_2047 (by decide) ?_
    refine v_sb [0, 1, 2, 3, 4] rfl ?_
    exact v_widen (zk3' (Nat.le_of_ble_eq_true rfl)) (zn3' (Nat.le_of_ble_eq_true rfl)) (nx _ h.2.2)
set_option maxRecDepth 20000 in
theorem c_A_28 {Ω : zO} {Γ : zM} {k n : Nat} {Q : State → Prop} {ad : Nat → Nat} {σ : zS} {b L : Nat} {xs : Nat → Int32} {i : Int} (cx : zC Ω Γ c_A_law 7 "GentleRoadLaw") (sc : zScr Ω Γ b L xs) (hi : 0 ≤ i ∧ i + 6 ≤ L) (inv : INV σ) (hk : k + 24 ≤ room_1.cells) (hn : n + 216 ≤ room_1.slots) (nx : ∀ σ', INV σ' → zV Ω Γ room_1 7 Q (k + 24) (n + 216) zLy ad σ' 2235 [(0, .ref b), (1, .ref (ad 0)), (2, .ref (ad 41)), (3, .ref (ad 64)), (4, .int (zI i))] []) : zV Ω Γ room_1 7 Q k n zLy ad σ 2050 [(0, .ref b), (1, .ref (ad 0)), (2, .ref (ad 41)), (3, .ref (ad 64)), (4, .int (zI i))] [] := by
  refine v_aload_n cx 1 d_A_law_2050 rfl rfl ?_
  refine v_aload_n cx 0 d_A_law_2051 rfl rfl ?_
  refine v_iload cx 4 d_A_law_2052 rfl ?_
  refine v_iconst cx d_A_law_2054 ?_
  refine v_iadd cx d_A_law_2055 ?_
  refine v_sld cx sc (by omega) (by omega) d_A_law_2056 ?_
  refine v_aload_n cx 0 d_A_law_2057 rfl rfl ?_
  refine v_iload cx 4 d_A_law_2058 rfl ?_
  refine v_iconst cx d_A_law_2060 ?_
  refine v_iadd cx d_A_law_2061 ?_
  refine v_sld cx sc (by omega) (by omega) d_A_law_2062 ?_
  refine v_aload_n cx 3 d_A_law_2063 rfl rfl ?_
  refine v_wcall (st := []) cx (s_A_stages (zx_R _ _) (zx_R _ _) (pr_stages inv)) yk_A_stages lw_A_210 rfl rfl (Nat.le_of_ble_eq_true rfl) ⟨(Nat.le_of_ble_eq_true rfl), (Nat.le_of_ble_eq_true rfl)⟩ ⟨zk1 hk (Nat.le_of_ble_eq_true rfl), zn1 hn (Nat.le_of_ble_eq_true rfl)⟩ d_A_law_2064 (fun r u hr h => ?_)
  refine v_istore (lv' := [(0, .ref b), (1, .ref (ad 0)), (2, .ref (ad 41)), (3, .ref (ad 64)), (4, .int (zI i)), (5, .int (zI r))]) cx d_A_law_2067 (by decide) rfl rfl ?_
  refine v_aload_n cx 2 d_A_law_2069 rfl rfl ?_
  refine v_aload_n cx 0 d_A_law_2070 rfl rfl ?_
  refine v_iload cx 4 d_A_law_2071 rfl ?_
  refine v_iconst cx d_A_law_2073 ?_
  refine v_iadd cx d_A_law_2074 ?_
  refine v_sld cx sc (by omega) (by omega) d_A_law_2075 ?_
  refine v_aload_n cx 0 d_A_law_2076 rfl rfl ?_
  refine v_iload cx 4 d_A_law_2077 rfl ?_
  refine v_iconst cx d_A_law_2079 ?_
  refine v_iadd cx d_A_law_2080 ?_
  refine v_sld cx sc (by omega) (by omega) d_A_law_2081 ?_
  refine v_callVi (st := []) cx (s_M_stages (zx_R _ _) (zx_R _ _) h) yk_M_stages lw_A_212 zl_41 rfl rfl rfl (Nat.le_of_ble_eq_true rfl) ⟨(Nat.le_of_ble_eq_true rfl), (Nat.le_of_ble_eq_true rfl)⟩ ⟨zk2 hk (Nat.le_of_ble_eq_true rfl), zn2 hn (Nat.le_of_ble_eq_true rfl)⟩ d_A_law_2082 (fun v u2 hv h => ?_)
  refine v_istore (lv' := [(0, .ref b), (1, .ref (ad 0)), (2, .ref (ad 41)), (3, .ref (ad 64)), (4, .int (zI i)), (5, .int (zI r)), (6, .int (zI v))]) cx d_A_law_2085 (by decide) rfl rfl ?_
  refine v_aload_n cx 2 d_A_law_2087 rfl rfl ?_
  refine v_callVi (st := []) cx (s_M_thrown  (K := fun v w => v = u2 41 0 ∧ w = u2) (show q_M_thrown (fun v w => v = u2 41 0 ∧ w = u2) u2 from ⟨rfl, rfl⟩)) yk_M_thrown lw_A_125 zl_41 rfl rfl rfl (Nat.le_of_ble_eq_true rfl) ⟨(Nat.le_of_ble_eq_true rfl), (Nat.le_of_ble_eq_true rfl)⟩ ⟨zk3 hk (Nat.le_of_ble_eq_true rfl), zn3 hn (Nat.le_of_ble_eq_true rfl)⟩ d_A_law_2088 (fun v3 u3 hv3 h3 => ?_)
  obtain ⟨rfl, rfl⟩ := h3
  refine v_iload cx 5 d_A_law_2091 rfl ?_
  refine v_icmp_eq cx 2098 d_A_law_2093 (by decide) hv3 hr (fun _ => ?_) (fun c => absurd h.1 c)
  refine v_iload cx 5 d_A_law_2098 rfl ?_
  refine v_if_ne cx 2115 d_A_law_2100 (by decide) hr (fun c => ?_) (fun c => ?_)
  · refine v_goto cx 2235 d_A_law_2115 (by decide) ?_
    refine v_sb [0, 1, 2, 3, 4] rfl ?_
    exact v_widen (zk3' (Nat.le_of_ble_eq_true rfl)) (zn3' (Nat.le_of_ble_eq_true rfl)) (nx _ h.2.2)
  · refine v_aload_n cx 3 d_A_law_2103 rfl rfl ?_
    refine v_iconst cx d_A_law_2104 ?_
    refine v_lald cx zl_64 (by decide) (by decide) (by decide) d_A_law_2105 (fun h64 => ?_)
    refine v_iload cx 6 d_A_law_2106 rfl ?_
    refine v_i2l cx hv d_A_law_2108 ?_
    refine v_lcmp_eq cx 2115 h64 hv d_A_law_2109 d_A_law_2110 (by decide) (fun _ => ?_) (fun q => absurd (h.2.1 c) q)
    refine v_goto cx 2235 d_A_law_2115 (by decide) ?_
    refine v_sb [0, 1, 2, 3, 4] rfl ?_
    exact v_widen (zk3' (Nat.le_of_ble_eq_true rfl)) (zn3' (Nat.le_of_ble_eq_true rfl)) (nx _ h.2.2)
set_option maxRecDepth 20000 in
theorem c_A_29 {Ω : zO} {Γ : zM} {k n : Nat} {Q : State → Prop} {ad : Nat → Nat} {σ : zS} {b L : Nat} {xs : Nat → Int32} {i : Int} (cx : zC Ω Γ c_A_law 7 "GentleRoadLaw") (sc : zScr Ω Γ b L xs) (hi : 0 ≤ i ∧ i + 6 ≤ L) (inv : INV σ) (hk : k + 24 ≤ room_1.cells) (hn : n + 216 ≤ room_1.slots) (nx : ∀ σ', INV σ' → zV Ω Γ room_1 7 Q (k + 24) (n + 216) zLy ad σ' 2235 [(0, .ref b), (1, .ref (ad 0)), (2, .ref (ad 41)), (3, .ref (ad 64)), (4, .int (zI i))] []) : zV Ω Γ room_1 7 Q k n zLy ad σ 2118 [(0, .ref b), (1, .ref (ad 0)), (2, .ref (ad 41)), (3, .ref (ad 64)), (4, .int (zI i))] [] := by
  refine v_aload_n cx 1 d_A_law_2118 rfl rfl ?_
  refine v_aload_n cx 0 d_A_law_2119 rfl rfl ?_
  refine v_iload cx 4 d_A_law_2120 rfl ?_
  refine v_iconst cx d_A_law_2122 ?_
  refine v_iadd cx d_A_law_2123 ?_
  refine v_sld cx sc (by omega) (by omega) d_A_law_2124 ?_
  refine v_aload_n cx 0 d_A_law_2125 rfl rfl ?_
  refine v_iload cx 4 d_A_law_2126 rfl ?_
  refine v_iconst cx d_A_law_2128 ?_
  refine v_iadd cx d_A_law_2129 ?_
  refine v_sld cx sc (by omega) (by omega) d_A_law_2130 ?_
  refine v_aload_n cx 3 d_A_law_2131 rfl rfl ?_
  refine v_wcall (st := []) cx (s_A_common (zx_R _ _) (zx_R _ _) (pr_common inv)) yk_A_common lw_A_213 rfl rfl (Nat.le_of_ble_eq_true rfl) ⟨(Nat.le_of_ble_eq_true rfl), (Nat.le_of_ble_eq_true rfl)⟩ ⟨zk1 hk (Nat.le_of_ble_eq_true rfl), zn1 hn (Nat.le_of_ble_eq_true rfl)⟩ d_A_law_2132 (fun r u hr h => ?_)
  refine v_istore (lv' := [(0, .ref b), (1, .ref (ad 0)), (2, .ref (ad 41)), (3, .ref (ad 64)), (4, .int (zI i)), (5, .int (zI r))]) cx d_A_law_2135 (by decide) rfl rfl ?_
  refine v_aload_n cx 2 d_A_law_2137 rfl rfl ?_
  refine v_aload_n cx 0 d_A_law_2138 rfl rfl ?_
  refine v_iload cx 4 d_A_law_2139 rfl ?_
  refine v_iconst cx d_A_law_2141 ?_
  refine v_iadd cx d_A_law_2142 ?_
  refine v_sld cx sc (by omega) (by omega) d_A_law_2143 ?_
  refine v_aload_n cx 0 d_A_law_2144 rfl rfl ?_
  refine v_iload cx 4 d_A_law_2145 rfl ?_
  refine v_iconst cx d_A_law_2147 ?_
  refine v_iadd cx d_A_law_2148 ?_
  refine v_sld cx sc (by omega) (by omega) d_A_law_2149 ?_
  refine v_callVi (st := []) cx (s_M_common (zx_R _ _) (zx_R _ _) h) yk_M_common lw_A_215 zl_41 rfl rfl rfl (Nat.le_of_ble_eq_true rfl) ⟨(Nat.le_of_ble_eq_true rfl), (Nat.le_of_ble_eq_true rfl)⟩ ⟨zk2 hk (Nat.le_of_ble_eq_true rfl), zn2 hn (Nat.le_of_ble_eq_true rfl)⟩ d_A_law_2150 (fun v u2 hv h => ?_)
  refine v_istore (lv' := [(0, .ref b), (1, .ref (ad 0)), (2, .ref (ad 41)), (3, .ref (ad 64)), (4, .int (zI i)), (5, .int (zI r)), (6, .int (zI v))]) cx d_A_law_2153 (by decide) rfl rfl ?_
  refine v_aload_n cx 2 d_A_law_2155 rfl rfl ?_
  refine v_callVi (st := []) cx (s_M_thrown  (K := fun v w => v = u2 41 0 ∧ w = u2) (show q_M_thrown (fun v w => v = u2 41 0 ∧ w = u2) u2 from ⟨rfl, rfl⟩)) yk_M_thrown lw_A_125 zl_41 rfl rfl rfl (Nat.le_of_ble_eq_true rfl) ⟨(Nat.le_of_ble_eq_true rfl), (Nat.le_of_ble_eq_true rfl)⟩ ⟨zk3 hk (Nat.le_of_ble_eq_true rfl), zn3 hn (Nat.le_of_ble_eq_true rfl)⟩ d_A_law_2156 (fun v3 u3 hv3 h3 => ?_)
  obtain ⟨rfl, rfl⟩ := h3
  refine v_iload cx 5 d_A_law_2159 rfl ?_
  refine v_icmp_eq cx 2166 d_A_law_2161 (by decide) hv3 hr (fun _ => ?_) (fun c => absurd h.1 c)
  refine v_iload cx 5 d_A_law_2166 rfl ?_
  refine v_if_ne cx 2183 d_A_law_2168 (by decide) hr (fun c => ?_) (fun c => ?_)
  · refine v_goto cx 2235 d_A_law_2183 (by decide) ?_
    refine v_sb [0, 1, 2, 3, 4] rfl ?_
    exact v_widen (zk3' (Nat.le_of_ble_eq_true rfl)) (zn3' (Nat.le_of_ble_eq_true rfl)) (nx _ h.2.2)
  · refine v_aload_n cx 3 d_A_law_2171 rfl rfl ?_
    refine v_iconst cx d_A_law_2172 ?_
    refine v_lald cx zl_64 (by decide) (by decide) (by decide) d_A_law_2173 (fun h64 => ?_)
    refine v_iload cx 6 d_A_law_2174 rfl ?_
    refine v_i2l cx hv d_A_law_2176 ?_
    refine v_lcmp_eq cx 2183 h64 hv d_A_law_2177 d_A_law_2178 (by decide) (fun _ => ?_) (fun q => absurd (h.2.1 c) q)
    refine v_goto cx 2235 d_A_law_2183 (by decide) ?_
    refine v_sb [0, 1, 2, 3, 4] rfl ?_
    exact v_widen (zk3' (Nat.le_of_ble_eq_true rfl)) (zn3' (Nat.le_of_ble_eq_true rfl)) (nx _ h.2.2)
set_option maxRecDepth 20000 in
theorem c_A_30 {Ω : zO} {Γ : zM} {k n : Nat} {Q : State → Prop} {ad : Nat → Nat} {σ : zS} {b L : Nat} {xs : Nat → Int32} {i : Int} (cx : zC Ω Γ c_A_law 7 "GentleRoadLaw") (sc : zScr Ω Γ b L xs) (hi : 0 ≤ i ∧ i + 6 ≤ L) (inv : INV σ) (hk : k + 24 ≤ room_1.cells) (hn : n + 216 ≤ room_1.slots) (nx : ∀ σ', INV σ' → zV Ω Γ room_1 7 Q (k + 24) (n + 216) zLy ad σ' 2235 [(0, .ref b), (1, .ref (ad 0)), (2, .ref (ad 41)), (3, .ref (ad 64)), (4, .int (zI i))] []) : zV Ω Γ room_1 7 Q k n zLy ad σ 2186 [(0, .ref b), (1, .ref (ad 0)), (2, .ref (ad 41)), (3, .ref (ad 64)), (4, .int (zI i))] [] := by
  refine v_aload_n cx 1 d_A_law_2186 rfl rfl ?_
  refine v_callVv (st := []) cx (s_R_image  (pr_image inv)) yk_R_image lw_A_216 zl_0 rfl rfl rfl (Nat.le_of_ble_eq_true rfl) ⟨(Nat.le_of_ble_eq_true rfl), (Nat.le_of_ble_eq_true rfl)⟩ ⟨zk1 hk (Nat.le_of_ble_eq_true rfl), zn1 hn (Nat.le_of_ble_eq_true rfl)⟩ d_A_law_2187 (fun u h => ?_)
  refine v_aload_n cx 2 d_A_law_2190 rfl rfl ?_
  refine v_callVv (st := []) cx (s_M_image  h) yk_M_image lw_A_219 zl_41 rfl rfl rfl (Nat.le_of_ble_eq_true rfl) ⟨(Nat.le_of_ble_eq_true rfl), (Nat.le_of_ble_eq_true rfl)⟩ ⟨zk2 hk (Nat.le_of_ble_eq_true rfl), zn2 hn (Nat.le_of_ble_eq_true rfl)⟩ d_A_law_2191 (fun u2 h => ?_)
  refine v_goto cx 2235 d_A_law_2194 (by decide) ?_
  exact v_widen (zk2' (Nat.le_of_ble_eq_true rfl)) (zn2' (Nat.le_of_ble_eq_true rfl)) (nx _ h)
set_option maxRecDepth 20000 in
theorem c_A_31 {Ω : zO} {Γ : zM} {k n : Nat} {Q : State → Prop} {ad : Nat → Nat} {σ : zS} {b L : Nat} {xs : Nat → Int32} {i : Int} (cx : zC Ω Γ c_A_law 7 "GentleRoadLaw") (sc : zScr Ω Γ b L xs) (hi : 0 ≤ i ∧ i + 6 ≤ L) (inv : INV σ) (hk : k + 24 ≤ room_1.cells) (hn : n + 216 ≤ room_1.slots) (nx : ∀ σ', INV σ' → zV Ω Γ room_1 7 Q (k + 24) (n + 216) zLy ad σ' 2235 [(0, .ref b), (1, .ref (ad 0)), (2, .ref (ad 41)), (3, .ref (ad 64)), (4, .int (zI i))] []) : zV Ω Γ room_1 7 Q k n zLy ad σ 2197 [(0, .ref b), (1, .ref (ad 0)), (2, .ref (ad 41)), (3, .ref (ad 64)), (4, .int (zI i))] [] := by
  refine v_aload_n cx 1 d_A_law_2197 rfl rfl ?_
  refine v_callVz (st := []) cx (s_R_back  (pr_back inv)) yk_R_back lw_A_220 zl_0 rfl rfl rfl (Nat.le_of_ble_eq_true rfl) ⟨(Nat.le_of_ble_eq_true rfl), (Nat.le_of_ble_eq_true rfl)⟩ ⟨zk1 hk (Nat.le_of_ble_eq_true rfl), zn1 hn (Nat.le_of_ble_eq_true rfl)⟩ d_A_law_2198 (fun r u hr h => ?_)
  refine v_aload_n cx 2 d_A_law_2201 rfl rfl ?_
  refine v_callVz (st := [.int (zI r)]) cx (s_M_back  h) yk_M_back lw_A_224 zl_41 rfl rfl rfl (Nat.le_of_ble_eq_true rfl) ⟨(Nat.le_of_ble_eq_true rfl), (Nat.le_of_ble_eq_true rfl)⟩ ⟨zk2 hk (Nat.le_of_ble_eq_true rfl), zn2 hn (Nat.le_of_ble_eq_true rfl)⟩ d_A_law_2202 (fun v u2 hv h => ?_)
  refine v_icmp_eq cx 2235 d_A_law_2205 (by decide) (zR_b hr) (zR_b hv) (fun _ => ?_) (fun c => absurd h.1 c)
  exact v_widen (zk2' (Nat.le_of_ble_eq_true rfl)) (zn2' (Nat.le_of_ble_eq_true rfl)) (nx _ h.2)
set_option maxRecDepth 20000 in
theorem c_A_32 {Ω : zO} {Γ : zM} {k n : Nat} {Q : State → Prop} {ad : Nat → Nat} {σ : zS} {b L : Nat} {xs : Nat → Int32} {i : Int} (cx : zC Ω Γ c_A_law 7 "GentleRoadLaw") (sc : zScr Ω Γ b L xs) (hi : 0 ≤ i ∧ i + 6 ≤ L) (inv : INV σ) (hk : k + 24 ≤ room_1.cells) (hn : n + 216 ≤ room_1.slots) (nx : ∀ σ', INV σ' → zV Ω Γ room_1 7 Q (k + 24) (n + 216) zLy ad σ' 2235 [(0, .ref b), (1, .ref (ad 0)), (2, .ref (ad 41)), (3, .ref (ad 64)), (4, .int (zI i))] []) : zV Ω Γ room_1 7 Q k n zLy ad σ 2210 [(0, .ref b), (1, .ref (ad 0)), (2, .ref (ad 41)), (3, .ref (ad 64)), (4, .int (zI i))] [] := by
  refine v_aload_n cx 1 d_A_law_2210 rfl rfl ?_
  refine v_aload_n cx 0 d_A_law_2211 rfl rfl ?_
  refine v_iload cx 4 d_A_law_2212 rfl ?_
  refine v_iconst cx d_A_law_2214 ?_
  refine v_iadd cx d_A_law_2215 ?_
  refine v_sld cx sc (by omega) (by omega) d_A_law_2216 ?_
  refine v_callVi (st := []) cx (s_R_count (zx_R _ _) (pr_count inv)) yk_R_count lw_A_225 zl_0 rfl rfl rfl (Nat.le_of_ble_eq_true rfl) ⟨(Nat.le_of_ble_eq_true rfl), (Nat.le_of_ble_eq_true rfl)⟩ ⟨zk1 hk (Nat.le_of_ble_eq_true rfl), zn1 hn (Nat.le_of_ble_eq_true rfl)⟩ d_A_law_2217 (fun r u hr h => ?_)
  refine v_aload_n cx 2 d_A_law_2220 rfl rfl ?_
  refine v_aload_n cx 0 d_A_law_2221 rfl rfl ?_
  refine v_iload cx 4 d_A_law_2222 rfl ?_
  refine v_iconst cx d_A_law_2224 ?_
  refine v_iadd cx d_A_law_2225 ?_
  refine v_sld cx sc (by omega) (by omega) d_A_law_2226 ?_
  refine v_callVi (st := [.int (zI r)]) cx (s_M_count (zx_R _ _) h) yk_M_count lw_A_228 zl_41 rfl rfl rfl (Nat.le_of_ble_eq_true rfl) ⟨(Nat.le_of_ble_eq_true rfl), (Nat.le_of_ble_eq_true rfl)⟩ ⟨zk2 hk (Nat.le_of_ble_eq_true rfl), zn2 hn (Nat.le_of_ble_eq_true rfl)⟩ d_A_law_2227 (fun v u2 hv h => ?_)
  refine v_icmp_eq cx 2235 d_A_law_2230 (by decide) hr hv (fun _ => ?_) (fun c => absurd h.1 c)
  exact v_widen (zk2' (Nat.le_of_ble_eq_true rfl)) (zn2' (Nat.le_of_ble_eq_true rfl)) (nx _ h.2)

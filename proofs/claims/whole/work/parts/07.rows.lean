/-! ===== the walk over the world: zV, a row an instruction ===== -/
/-- what calls hand on: the launch, class numbers and slots, array classes, what may be written, where statics lie -/
abbrev zO : Type := Launch × va_G × (Nat → ClassId) × (Nat → Prop) × (Nat → Nat)
/-- a method's activation -/
abbrev zM : Type := Program × Env × State × MethodId × Array Value × List Frame × Method × Code
abbrev zTy (dA : Nat → ClassId) : List (ClassId × FieldType) := [(dA 1, .int), (dA 2, .boolean), (dA 3, .long)]
def zV (Ω : zO) (Γ : zM) (R : Room) (nL : Nat) (Q : State → Prop) (k n : Nat) (Ls : List zL) (ad : Nat → Nat) (σ : zS) (pc : Nat) (lv : List (Nat × Value)) (st : List Value) : Prop :=
  match Ω, Γ with
  | (l, D, dA, A, _), (p, e, s, m, args, below, meth, c) => ∀ (H : Heap) (locs : List Loc) (ls : Array Slot), lv_has ls nL lv → va_P D zCl (zw dA ad Ls σ) H → va_D A (zw dA ad Ls σ) → va_S A s.heap H locs → zRG σ → W p l e R s m args below meth c H locs k n Q (F0 m pc ls st)
def zC (Ω : zO) (Γ : zM) (cc : ByteArray) (nL : Nat) (own : String) : Prop :=
  match Ω, Γ with
  | (l, D, dA, A, sx), (p, e, s, m, args, below, meth, c) => p.tables.exec = Jvm.exec ∧ c.code = cc ∧ c.maxLocals = nL ∧ s.vm.findClass own = some m.cls ∧ (∀ w ∈ zT, w.before args s = true) ∧ va_K D zCl (zTy dA) s ∧ (∀ q, s.heap.size ≤ q → A q) ∧ meth.locks = false ∧ zSt l sx A s s.heap
def zput : List (Nat × Value) → Nat → Value → List (Nat × Value)
  | [], i, v => [(i, v)]
  | (j, w) :: r, i, v => if j = i then (i, v) :: r else (j, w) :: zput r i v
def zc1 (lv : List (Nat × Value)) : Bool := lv.all (fun q => q.2.category == 1) && va_nd (lv.map (·.1))
theorem zput_mem : ∀ (lv : List (Nat × Value)) (i : Nat) (v : Value), va_nd (lv.map (·.1)) = true → ∀ q ∈ zput lv i v, q = (i, v) ∨ (q ∈ lv ∧ q.1 ≠ i)
  | [], i, v, _, q, hq => by
    simp [zput] at hq
    exact Or.inl hq
  | (j, w) :: r, i, v, hn, q, hq => by
    simp only [List.map_cons, va_nd, Bool.and_eq_true, decide_eq_true_eq] at hn
    unfold zput at hq
    split at hq
    · rename_i hji
      rcases List.mem_cons.mp hq with h | h
      · exact Or.inl h
      · refine Or.inr ⟨List.mem_cons_of_mem _ h, fun e => hn.1 ?_⟩
        rw [hji, ← e]
        exact List.mem_map_of_mem h
    · rename_i hji
      rcases List.mem_cons.mp hq with h | h
      · exact Or.inr ⟨by rw [h]; exact List.mem_cons_self, by rw [h]; exact hji⟩
      · rcases zput_mem r i v hn.2 q h with h | h
        · exact Or.inl h
        · exact Or.inr ⟨List.mem_cons_of_mem _ h.1, h.2⟩
theorem zput_has {ls : Array Slot} {nL i : Nat} {v : Value} {lv : List (Nat × Value)} (hc : zc1 lv = true) (h : lv_has ls nL ((i, v) :: lv.filter (fun q => !(q.1 == i) && !(q.1 + 1 == i && q.2.category == 2)))) : lv_has ls nL (zput lv i v) := by
  unfold zc1 at hc
  rw [Bool.and_eq_true] at hc
  refine ⟨h.1, h.2.1, fun q hq => ?_⟩
  rcases zput_mem lv i v hc.2 q hq with e | ⟨e1, e2⟩
  · rw [e]; exact h.2.2 _ List.mem_cons_self
  · refine h.2.2 q (List.mem_cons_of_mem _ (List.mem_filter.mpr ⟨e1, ?_⟩))
    have h1 := List.all_eq_true.mp hc.1 q e1
    simp only [beq_iff_eq] at h1
    simp [e2, h1]
section ZR
variable {Ω : zO} {Γ : zM} {R : Room} {nL k n : Nat} {Q : State → Prop} {Ls : List zL} {ad : Nat → Nat} {σ : zS} {pc : Nat} {lv lv' : List (Nat × Value)} {st : List Value} {cc : ByteArray} {own : String} {a b : Int}
theorem v_iadd (cx : zC Ω Γ cc nL own) (hd : decode cc pc = .ok (.iadd, 1)) (h : zV Ω Γ R nL Q k n Ls ad σ (pc + 1) lv (.int (zI (a + b)) :: st)) : zV Ω Γ R nL Q k n Ls ad σ pc lv (.int (zI b) :: .int (zI a) :: st) := by
  obtain ⟨l, D, dA, A, sx⟩ := Ω
  obtain ⟨p, e, s, m, args, below, meth, c⟩ := Γ
  obtain ⟨hx', hb, hml, hown, hts, hK, hA, hlk, hst⟩ := cx
  intro H locs ls hl hP hD hS hr
  refine lv_iadd hx' hb hd ?_
  rw [zI_add]
  exact h H locs ls hl hP hD hS hr
theorem v_isub (cx : zC Ω Γ cc nL own) (hd : decode cc pc = .ok (.isub, 1)) (h : zV Ω Γ R nL Q k n Ls ad σ (pc + 1) lv (.int (zI (a - b)) :: st)) : zV Ω Γ R nL Q k n Ls ad σ pc lv (.int (zI b) :: .int (zI a) :: st) := by
  obtain ⟨l, D, dA, A, sx⟩ := Ω
  obtain ⟨p, e, s, m, args, below, meth, c⟩ := Γ
  obtain ⟨hx', hb, hml, hown, hts, hK, hA, hlk, hst⟩ := cx
  intro H locs ls hl hP hD hS hr
  refine lv_isub hx' hb hd ?_
  rw [zI_sub]
  exact h H locs ls hl hP hD hS hr
theorem v_imul (cx : zC Ω Γ cc nL own) (hd : decode cc pc = .ok (.imul, 1)) (h : zV Ω Γ R nL Q k n Ls ad σ (pc + 1) lv (.int (zI (a * b)) :: st)) : zV Ω Γ R nL Q k n Ls ad σ pc lv (.int (zI b) :: .int (zI a) :: st) := by
  obtain ⟨l, D, dA, A, sx⟩ := Ω
  obtain ⟨p, e, s, m, args, below, meth, c⟩ := Γ
  obtain ⟨hx', hb, hml, hown, hts, hK, hA, hlk, hst⟩ := cx
  intro H locs ls hl hP hD hS hr
  refine lv_imul hx' hb hd ?_
  rw [zI_mul]
  exact h H locs ls hl hP hD hS hr
theorem v_iand (cx : zC Ω Γ cc nL own) (hd : decode cc pc = .ok (.iand, 1)) (h : zV Ω Γ R nL Q k n Ls ad σ (pc + 1) lv (.int (zI (zAnd a b)) :: st)) : zV Ω Γ R nL Q k n Ls ad σ pc lv (.int (zI b) :: .int (zI a) :: st) := by
  obtain ⟨l, D, dA, A, sx⟩ := Ω
  obtain ⟨p, e, s, m, args, below, meth, c⟩ := Γ
  obtain ⟨hx', hb, hml, hown, hts, hK, hA, hlk, hst⟩ := cx
  intro H locs ls hl hP hD hS hr
  refine lv_iand hx' hb hd ?_
  rw [zI_and]
  exact h H locs ls hl hP hD hS hr
theorem v_ior (cx : zC Ω Γ cc nL own) (hd : decode cc pc = .ok (.ior, 1)) (h : zV Ω Γ R nL Q k n Ls ad σ (pc + 1) lv (.int (zI (zOr a b)) :: st)) : zV Ω Γ R nL Q k n Ls ad σ pc lv (.int (zI b) :: .int (zI a) :: st) := by
  obtain ⟨l, D, dA, A, sx⟩ := Ω
  obtain ⟨p, e, s, m, args, below, meth, c⟩ := Γ
  obtain ⟨hx', hb, hml, hown, hts, hK, hA, hlk, hst⟩ := cx
  intro H locs ls hl hP hD hS hr
  refine lv_ior hx' hb hd ?_
  rw [zI_or]
  exact h H locs ls hl hP hD hS hr
theorem v_ixor (cx : zC Ω Γ cc nL own) (hd : decode cc pc = .ok (.ixor, 1)) (h : zV Ω Γ R nL Q k n Ls ad σ (pc + 1) lv (.int (zI (zXor a b)) :: st)) : zV Ω Γ R nL Q k n Ls ad σ pc lv (.int (zI b) :: .int (zI a) :: st) := by
  obtain ⟨l, D, dA, A, sx⟩ := Ω
  obtain ⟨p, e, s, m, args, below, meth, c⟩ := Γ
  obtain ⟨hx', hb, hml, hown, hts, hK, hA, hlk, hst⟩ := cx
  intro H locs ls hl hP hD hS hr
  refine lv_ixor hx' hb hd ?_
  rw [zI_xor]
  exact h H locs ls hl hP hD hS hr
theorem v_ishl (cx : zC Ω Γ cc nL own) (hd : decode cc pc = .ok (.ishl, 1)) (h : zV Ω Γ R nL Q k n Ls ad σ (pc + 1) lv (.int (zI (zShl a b)) :: st)) : zV Ω Γ R nL Q k n Ls ad σ pc lv (.int (zI b) :: .int (zI a) :: st) := by
  obtain ⟨l, D, dA, A, sx⟩ := Ω
  obtain ⟨p, e, s, m, args, below, meth, c⟩ := Γ
  obtain ⟨hx', hb, hml, hown, hts, hK, hA, hlk, hst⟩ := cx
  intro H locs ls hl hP hD hS hr
  refine lv_ishl hx' hb hd ?_
  rw [zI_shl]
  exact h H locs ls hl hP hD hS hr
theorem v_ishr (cx : zC Ω Γ cc nL own) (hd : decode cc pc = .ok (.ishr, 1)) (h : zV Ω Γ R nL Q k n Ls ad σ (pc + 1) lv (.int (zI (zShr a b)) :: st)) : zV Ω Γ R nL Q k n Ls ad σ pc lv (.int (zI b) :: .int (zI a) :: st) := by
  obtain ⟨l, D, dA, A, sx⟩ := Ω
  obtain ⟨p, e, s, m, args, below, meth, c⟩ := Γ
  obtain ⟨hx', hb, hml, hown, hts, hK, hA, hlk, hst⟩ := cx
  intro H locs ls hl hP hD hS hr
  refine lv_ishr hx' hb hd ?_
  rw [zI_shr]
  exact h H locs ls hl hP hD hS hr
theorem v_ineg (cx : zC Ω Γ cc nL own) (hd : decode cc pc = .ok (.ineg, 1)) (h : zV Ω Γ R nL Q k n Ls ad σ (pc + 1) lv (.int (zI (-a)) :: st)) : zV Ω Γ R nL Q k n Ls ad σ pc lv (.int (zI a) :: st) := by
  obtain ⟨l, D, dA, A, sx⟩ := Ω
  obtain ⟨p, e, s, m, args, below, meth, c⟩ := Γ
  obtain ⟨hx', hb, hml, hown, hts, hK, hA, hlk, hst⟩ := cx
  intro H locs ls hl hP hD hS hr
  refine lv_ineg hx' hb hd ?_
  rw [zI_neg]
  exact h H locs ls hl hP hD hS hr
theorem v_iconst (cx : zC Ω Γ cc nL own) {x : Int} (hd : decode cc pc = .ok (.iconst x, 1)) (h : zV Ω Γ R nL Q k n Ls ad σ (pc + 1) lv (.int (zI x) :: st)) : zV Ω Γ R nL Q k n Ls ad σ pc lv st := by
  obtain ⟨l, D, dA, A, sx⟩ := Ω
  obtain ⟨p, e, s, m, args, below, meth, c⟩ := Γ
  obtain ⟨hx', hb, hml, hown, hts, hK, hA, hlk, hst⟩ := cx
  intro H locs ls hl hP hD hS hr
  exact lv_iconst hx' hb hd rfl (h H locs ls hl hP hD hS hr)
theorem v_icmp_eq (cx : zC Ω Γ cc nL own) {off : Int} (tgt : Nat) (hd : decode cc pc = .ok (.if_icmp .eq off, 3)) (ht : (pc : Int) + off = (tgt : Int)) (ha : zR a) (hb0 : zR b) (kt : a = b → zV Ω Γ R nL Q k n Ls ad σ tgt lv st) (kf : a ≠ b → zV Ω Γ R nL Q k n Ls ad σ (pc + 3) lv st) : zV Ω Γ R nL Q k n Ls ad σ pc lv (.int (zI b) :: .int (zI a) :: st) := by
  obtain ⟨l, D, dA, A, sx⟩ := Ω
  obtain ⟨p, e, s, m, args, below, meth, c⟩ := Γ
  obtain ⟨hx', hb, hml, hown, hts, hK, hA, hlk, hst⟩ := cx
  intro H locs ls hl hP hD hS hr
  exact lv_icmp_eq hx' hb hd ht (fun c0 => kt ((zI_eq ha hb0).mp c0) H locs ls hl hP hD hS hr) (fun c0 => kf (fun q => c0 ((zI_eq ha hb0).mpr q)) H locs ls hl hP hD hS hr)
theorem v_icmp_ne (cx : zC Ω Γ cc nL own) {off : Int} (tgt : Nat) (hd : decode cc pc = .ok (.if_icmp .ne off, 3)) (ht : (pc : Int) + off = (tgt : Int)) (ha : zR a) (hb0 : zR b) (kt : a ≠ b → zV Ω Γ R nL Q k n Ls ad σ tgt lv st) (kf : a = b → zV Ω Γ R nL Q k n Ls ad σ (pc + 3) lv st) : zV Ω Γ R nL Q k n Ls ad σ pc lv (.int (zI b) :: .int (zI a) :: st) := by
  obtain ⟨l, D, dA, A, sx⟩ := Ω
  obtain ⟨p, e, s, m, args, below, meth, c⟩ := Γ
  obtain ⟨hx', hb, hml, hown, hts, hK, hA, hlk, hst⟩ := cx
  intro H locs ls hl hP hD hS hr
  exact lv_icmp_ne hx' hb hd ht (fun c0 => kt (fun q => c0 ((zI_eq ha hb0).mpr q)) H locs ls hl hP hD hS hr) (fun c0 => kf ((zI_eq ha hb0).mp c0) H locs ls hl hP hD hS hr)
theorem v_icmp_lt (cx : zC Ω Γ cc nL own) {off : Int} (tgt : Nat) (hd : decode cc pc = .ok (.if_icmp .lt off, 3)) (ht : (pc : Int) + off = (tgt : Int)) (ha : zR a) (hb0 : zR b) (kt : a < b → zV Ω Γ R nL Q k n Ls ad σ tgt lv st) (kf : b ≤ a → zV Ω Γ R nL Q k n Ls ad σ (pc + 3) lv st) : zV Ω Γ R nL Q k n Ls ad σ pc lv (.int (zI b) :: .int (zI a) :: st) := by
  obtain ⟨l, D, dA, A, sx⟩ := Ω
  obtain ⟨p, e, s, m, args, below, meth, c⟩ := Γ
  obtain ⟨hx', hb, hml, hown, hts, hK, hA, hlk, hst⟩ := cx
  intro H locs ls hl hP hD hS hr
  exact lv_icmp_lt hx' hb hd ht (fun c0 => kt ((zI_lt ha hb0).mp c0) H locs ls hl hP hD hS hr) (fun c0 => kf (Int.not_lt.mp (fun q => c0 ((zI_lt ha hb0).mpr q))) H locs ls hl hP hD hS hr)
theorem v_icmp_ge (cx : zC Ω Γ cc nL own) {off : Int} (tgt : Nat) (hd : decode cc pc = .ok (.if_icmp .ge off, 3)) (ht : (pc : Int) + off = (tgt : Int)) (ha : zR a) (hb0 : zR b) (kt : b ≤ a → zV Ω Γ R nL Q k n Ls ad σ tgt lv st) (kf : a < b → zV Ω Γ R nL Q k n Ls ad σ (pc + 3) lv st) : zV Ω Γ R nL Q k n Ls ad σ pc lv (.int (zI b) :: .int (zI a) :: st) := by
  obtain ⟨l, D, dA, A, sx⟩ := Ω
  obtain ⟨p, e, s, m, args, below, meth, c⟩ := Γ
  obtain ⟨hx', hb, hml, hown, hts, hK, hA, hlk, hst⟩ := cx
  intro H locs ls hl hP hD hS hr
  exact lv_icmp_ge hx' hb hd ht (fun c0 => kt ((zI_le hb0 ha).mp c0) H locs ls hl hP hD hS hr) (fun c0 => kf (Int.not_le.mp (fun q => c0 ((zI_le hb0 ha).mpr q))) H locs ls hl hP hD hS hr)
theorem v_icmp_gt (cx : zC Ω Γ cc nL own) {off : Int} (tgt : Nat) (hd : decode cc pc = .ok (.if_icmp .gt off, 3)) (ht : (pc : Int) + off = (tgt : Int)) (ha : zR a) (hb0 : zR b) (kt : b < a → zV Ω Γ R nL Q k n Ls ad σ tgt lv st) (kf : a ≤ b → zV Ω Γ R nL Q k n Ls ad σ (pc + 3) lv st) : zV Ω Γ R nL Q k n Ls ad σ pc lv (.int (zI b) :: .int (zI a) :: st) := by
  obtain ⟨l, D, dA, A, sx⟩ := Ω
  obtain ⟨p, e, s, m, args, below, meth, c⟩ := Γ
  obtain ⟨hx', hb, hml, hown, hts, hK, hA, hlk, hst⟩ := cx
  intro H locs ls hl hP hD hS hr
  exact lv_icmp_gt hx' hb hd ht (fun c0 => kt ((zI_lt hb0 ha).mp c0) H locs ls hl hP hD hS hr) (fun c0 => kf (Int.not_lt.mp (fun q => c0 ((zI_lt hb0 ha).mpr q))) H locs ls hl hP hD hS hr)
theorem v_icmp_le (cx : zC Ω Γ cc nL own) {off : Int} (tgt : Nat) (hd : decode cc pc = .ok (.if_icmp .le off, 3)) (ht : (pc : Int) + off = (tgt : Int)) (ha : zR a) (hb0 : zR b) (kt : a ≤ b → zV Ω Γ R nL Q k n Ls ad σ tgt lv st) (kf : b < a → zV Ω Γ R nL Q k n Ls ad σ (pc + 3) lv st) : zV Ω Γ R nL Q k n Ls ad σ pc lv (.int (zI b) :: .int (zI a) :: st) := by
  obtain ⟨l, D, dA, A, sx⟩ := Ω
  obtain ⟨p, e, s, m, args, below, meth, c⟩ := Γ
  obtain ⟨hx', hb, hml, hown, hts, hK, hA, hlk, hst⟩ := cx
  intro H locs ls hl hP hD hS hr
  exact lv_icmp_le hx' hb hd ht (fun c0 => kt ((zI_le ha hb0).mp c0) H locs ls hl hP hD hS hr) (fun c0 => kf (Int.not_le.mp (fun q => c0 ((zI_le ha hb0).mpr q))) H locs ls hl hP hD hS hr)
theorem v_if_eq (cx : zC Ω Γ cc nL own) {off : Int} (tgt : Nat) (hd : decode cc pc = .ok (.ifCond .eq off, 3)) (ht : (pc : Int) + off = (tgt : Int)) (ha : zR a) (kt : a = 0 → zV Ω Γ R nL Q k n Ls ad σ tgt lv st) (kf : a ≠ 0 → zV Ω Γ R nL Q k n Ls ad σ (pc + 3) lv st) : zV Ω Γ R nL Q k n Ls ad σ pc lv (.int (zI a) :: st) := by
  have hb0 : zR 0 := zR_0
  obtain ⟨l, D, dA, A, sx⟩ := Ω
  obtain ⟨p, e, s, m, args, below, meth, c⟩ := Γ
  obtain ⟨hx', hb, hml, hown, hts, hK, hA, hlk, hst⟩ := cx
  intro H locs ls hl hP hD hS hr
  exact lv_if_eq hx' hb hd ht (fun c0 => kt ((zI_eq ha hb0).mp c0) H locs ls hl hP hD hS hr) (fun c0 => kf (fun q => c0 ((zI_eq ha hb0).mpr q)) H locs ls hl hP hD hS hr)
theorem v_if_ne (cx : zC Ω Γ cc nL own) {off : Int} (tgt : Nat) (hd : decode cc pc = .ok (.ifCond .ne off, 3)) (ht : (pc : Int) + off = (tgt : Int)) (ha : zR a) (kt : a ≠ 0 → zV Ω Γ R nL Q k n Ls ad σ tgt lv st) (kf : a = 0 → zV Ω Γ R nL Q k n Ls ad σ (pc + 3) lv st) : zV Ω Γ R nL Q k n Ls ad σ pc lv (.int (zI a) :: st) := by
  have hb0 : zR 0 := zR_0
  obtain ⟨l, D, dA, A, sx⟩ := Ω
  obtain ⟨p, e, s, m, args, below, meth, c⟩ := Γ
  obtain ⟨hx', hb, hml, hown, hts, hK, hA, hlk, hst⟩ := cx
  intro H locs ls hl hP hD hS hr
  exact lv_if_ne hx' hb hd ht (fun c0 => kt (fun q => c0 ((zI_eq ha hb0).mpr q)) H locs ls hl hP hD hS hr) (fun c0 => kf ((zI_eq ha hb0).mp c0) H locs ls hl hP hD hS hr)
theorem v_if_lt (cx : zC Ω Γ cc nL own) {off : Int} (tgt : Nat) (hd : decode cc pc = .ok (.ifCond .lt off, 3)) (ht : (pc : Int) + off = (tgt : Int)) (ha : zR a) (kt : a < 0 → zV Ω Γ R nL Q k n Ls ad σ tgt lv st) (kf : 0 ≤ a → zV Ω Γ R nL Q k n Ls ad σ (pc + 3) lv st) : zV Ω Γ R nL Q k n Ls ad σ pc lv (.int (zI a) :: st) := by
  have hb0 : zR 0 := zR_0
  obtain ⟨l, D, dA, A, sx⟩ := Ω
  obtain ⟨p, e, s, m, args, below, meth, c⟩ := Γ
  obtain ⟨hx', hb, hml, hown, hts, hK, hA, hlk, hst⟩ := cx
  intro H locs ls hl hP hD hS hr
  exact lv_if_lt hx' hb hd ht (fun c0 => kt ((zI_lt ha hb0).mp c0) H locs ls hl hP hD hS hr) (fun c0 => kf (Int.not_lt.mp (fun q => c0 ((zI_lt ha hb0).mpr q))) H locs ls hl hP hD hS hr)
theorem v_if_ge (cx : zC Ω Γ cc nL own) {off : Int} (tgt : Nat) (hd : decode cc pc = .ok (.ifCond .ge off, 3)) (ht : (pc : Int) + off = (tgt : Int)) (ha : zR a) (kt : 0 ≤ a → zV Ω Γ R nL Q k n Ls ad σ tgt lv st) (kf : a < 0 → zV Ω Γ R nL Q k n Ls ad σ (pc + 3) lv st) : zV Ω Γ R nL Q k n Ls ad σ pc lv (.int (zI a) :: st) := by
  have hb0 : zR 0 := zR_0
  obtain ⟨l, D, dA, A, sx⟩ := Ω
  obtain ⟨p, e, s, m, args, below, meth, c⟩ := Γ
  obtain ⟨hx', hb, hml, hown, hts, hK, hA, hlk, hst⟩ := cx
  intro H locs ls hl hP hD hS hr
  exact lv_if_ge hx' hb hd ht (fun c0 => kt ((zI_le hb0 ha).mp c0) H locs ls hl hP hD hS hr) (fun c0 => kf (Int.not_le.mp (fun q => c0 ((zI_le hb0 ha).mpr q))) H locs ls hl hP hD hS hr)
theorem v_if_gt (cx : zC Ω Γ cc nL own) {off : Int} (tgt : Nat) (hd : decode cc pc = .ok (.ifCond .gt off, 3)) (ht : (pc : Int) + off = (tgt : Int)) (ha : zR a) (kt : 0 < a → zV Ω Γ R nL Q k n Ls ad σ tgt lv st) (kf : a ≤ 0 → zV Ω Γ R nL Q k n Ls ad σ (pc + 3) lv st) : zV Ω Γ R nL Q k n Ls ad σ pc lv (.int (zI a) :: st) := by
  have hb0 : zR 0 := zR_0
  obtain ⟨l, D, dA, A, sx⟩ := Ω
  obtain ⟨p, e, s, m, args, below, meth, c⟩ := Γ
  obtain ⟨hx', hb, hml, hown, hts, hK, hA, hlk, hst⟩ := cx
  intro H locs ls hl hP hD hS hr
  exact lv_if_gt hx' hb hd ht (fun c0 => kt ((zI_lt hb0 ha).mp c0) H locs ls hl hP hD hS hr) (fun c0 => kf (Int.not_lt.mp (fun q => c0 ((zI_lt hb0 ha).mpr q))) H locs ls hl hP hD hS hr)
theorem v_if_le (cx : zC Ω Γ cc nL own) {off : Int} (tgt : Nat) (hd : decode cc pc = .ok (.ifCond .le off, 3)) (ht : (pc : Int) + off = (tgt : Int)) (ha : zR a) (kt : a ≤ 0 → zV Ω Γ R nL Q k n Ls ad σ tgt lv st) (kf : 0 < a → zV Ω Γ R nL Q k n Ls ad σ (pc + 3) lv st) : zV Ω Γ R nL Q k n Ls ad σ pc lv (.int (zI a) :: st) := by
  have hb0 : zR 0 := zR_0
  obtain ⟨l, D, dA, A, sx⟩ := Ω
  obtain ⟨p, e, s, m, args, below, meth, c⟩ := Γ
  obtain ⟨hx', hb, hml, hown, hts, hK, hA, hlk, hst⟩ := cx
  intro H locs ls hl hP hD hS hr
  exact lv_if_le hx' hb hd ht (fun c0 => kt ((zI_le ha hb0).mp c0) H locs ls hl hP hD hS hr) (fun c0 => kf (Int.not_le.mp (fun q => c0 ((zI_le ha hb0).mpr q))) H locs ls hl hP hD hS hr)
theorem v_bip_ok {x : Int} (h : -128 ≤ x ∧ x ≤ 127) : (Int8.ofInt x).toInt32 = zI x := by
  apply Int32.toInt_inj.mp
  rw [Int8.toInt_toInt32, zI_toInt ⟨by omega, by omega⟩]
  exact Int8.toInt_ofInt_of_le (by omega) (by omega)
theorem v_sip_ok {x : Int} (h : -32768 ≤ x ∧ x ≤ 32767) : (Int16.ofInt x).toInt32 = zI x := by
  apply Int32.toInt_inj.mp
  rw [Int16.toInt_toInt32, zI_toInt ⟨by omega, by omega⟩]
  exact Int16.toInt_ofInt_of_le (by omega) (by omega)
theorem v_bipush (cx : zC Ω Γ cc nL own) {x : Int} (hx : -128 ≤ x ∧ x ≤ 127) (hd : decode cc pc = .ok (.bipush x, 2)) (h : zV Ω Γ R nL Q k n Ls ad σ (pc + 2) lv (.int (zI x) :: st)) : zV Ω Γ R nL Q k n Ls ad σ pc lv st := by
  obtain ⟨l, D, dA, A, sx⟩ := Ω
  obtain ⟨p, e, s, m, args, below, meth, c⟩ := Γ
  obtain ⟨hx', hb, hml, hown, hts, hK, hA, hlk, hst⟩ := cx
  intro H locs ls hl hP hD hS hr
  exact lv_bipush hx' hb hd (v_bip_ok hx) (h H locs ls hl hP hD hS hr)
theorem v_sipush (cx : zC Ω Γ cc nL own) {x : Int} (hx : -32768 ≤ x ∧ x ≤ 32767) (hd : decode cc pc = .ok (.sipush x, 3)) (h : zV Ω Γ R nL Q k n Ls ad σ (pc + 3) lv (.int (zI x) :: st)) : zV Ω Γ R nL Q k n Ls ad σ pc lv st := by
  obtain ⟨l, D, dA, A, sx⟩ := Ω
  obtain ⟨p, e, s, m, args, below, meth, c⟩ := Γ
  obtain ⟨hx', hb, hml, hown, hts, hK, hA, hlk, hst⟩ := cx
  intro H locs ls hl hP hD hS hr
  exact lv_sipush hx' hb hd (v_sip_ok hx) (h H locs ls hl hP hD hS hr)
theorem v_ldc (cx : zC Ω Γ cc nL own) {i : Nat} {x : Int} (hw : Cond.constant own i (zI x) ∈ zT) (hd : decode cc pc = .ok (.ldc i, 2)) (h : zV Ω Γ R nL Q k n Ls ad σ (pc + 2) lv (.int (zI x) :: st)) : zV Ω Γ R nL Q k n Ls ad σ pc lv st := by
  obtain ⟨l, D, dA, A, sx⟩ := Ω
  obtain ⟨p, e, s, m, args, below, meth, c⟩ := Γ
  obtain ⟨hx', hb, hml, hown, hts, hK, hA, hlk, hst⟩ := cx
  intro H locs ls hl hP hD hS hr
  exact lv_ldc hx' hb hown (hts _ hw) hd (h H locs ls hl hP hD hS hr)
theorem v_ldcw (cx : zC Ω Γ cc nL own) {i : Nat} {x : Int} (hw : Cond.constant own i (zI x) ∈ zT) (hd : decode cc pc = .ok (.ldc_w i, 3)) (h : zV Ω Γ R nL Q k n Ls ad σ (pc + 3) lv (.int (zI x) :: st)) : zV Ω Γ R nL Q k n Ls ad σ pc lv st := by
  obtain ⟨l, D, dA, A, sx⟩ := Ω
  obtain ⟨p, e, s, m, args, below, meth, c⟩ := Γ
  obtain ⟨hx', hb, hml, hown, hts, hK, hA, hlk, hst⟩ := cx
  intro H locs ls hl hP hD hS hr
  exact lv_ldcw hx' hb hown (hts _ hw) hd (h H locs ls hl hP hD hS hr)
theorem v_iload_n (cx : zC Ω Γ cc nL own) {f : Fin 4} {i : Nat} (j : Nat) (hd : decode cc pc = .ok (.iload_n f, 1)) (hi : (f : Nat) = i) (hj : lv[j]? = some (i, .int (zI a))) (h : zV Ω Γ R nL Q k n Ls ad σ (pc + 1) lv (.int (zI a) :: st)) : zV Ω Γ R nL Q k n Ls ad σ pc lv st := by
  obtain ⟨l, D, dA, A, sx⟩ := Ω
  obtain ⟨p, e, s, m, args, below, meth, c⟩ := Γ
  obtain ⟨hx', hb, hml, hown, hts, hK, hA, hlk, hst⟩ := cx
  intro H locs ls hl hP hD hS hr
  exact lv_iload_n hx' hb hd hi (lv_at hl j hj) (h H locs ls hl hP hD hS hr)
theorem v_iload (cx : zC Ω Γ cc nL own) {i : Nat} (j : Nat) (hd : decode cc pc = .ok (.iload i, 2)) (hj : lv[j]? = some (i, .int (zI a))) (h : zV Ω Γ R nL Q k n Ls ad σ (pc + 2) lv (.int (zI a) :: st)) : zV Ω Γ R nL Q k n Ls ad σ pc lv st := by
  obtain ⟨l, D, dA, A, sx⟩ := Ω
  obtain ⟨p, e, s, m, args, below, meth, c⟩ := Γ
  obtain ⟨hx', hb, hml, hown, hts, hK, hA, hlk, hst⟩ := cx
  intro H locs ls hl hP hD hS hr
  exact lv_iload hx' hb hd (lv_at hl j hj) (h H locs ls hl hP hD hS hr)
theorem v_aload_n (cx : zC Ω Γ cc nL own) {f : Fin 4} {i x : Nat} (j : Nat) (hd : decode cc pc = .ok (.aload_n f, 1)) (hi : (f : Nat) = i) (hj : lv[j]? = some (i, .ref x)) (h : zV Ω Γ R nL Q k n Ls ad σ (pc + 1) lv (.ref x :: st)) : zV Ω Γ R nL Q k n Ls ad σ pc lv st := by
  obtain ⟨l, D, dA, A, sx⟩ := Ω
  obtain ⟨p, e, s, m, args, below, meth, c⟩ := Γ
  obtain ⟨hx', hb, hml, hown, hts, hK, hA, hlk, hst⟩ := cx
  intro H locs ls hl hP hD hS hr
  exact lv_aload_n hx' hb hd hi (lv_at hl j hj) (h H locs ls hl hP hD hS hr)
theorem v_aload (cx : zC Ω Γ cc nL own) {i x : Nat} (j : Nat) (hd : decode cc pc = .ok (.aload i, 2)) (hj : lv[j]? = some (i, .ref x)) (h : zV Ω Γ R nL Q k n Ls ad σ (pc + 2) lv (.ref x :: st)) : zV Ω Γ R nL Q k n Ls ad σ pc lv st := by
  obtain ⟨l, D, dA, A, sx⟩ := Ω
  obtain ⟨p, e, s, m, args, below, meth, c⟩ := Γ
  obtain ⟨hx', hb, hml, hown, hts, hK, hA, hlk, hst⟩ := cx
  intro H locs ls hl hP hD hS hr
  exact lv_aload hx' hb hd (lv_at hl j hj) (h H locs ls hl hP hD hS hr)
theorem v_istore_n (cx : zC Ω Γ cc nL own) {f : Fin 4} {i : Nat} (hd : decode cc pc = .ok (.istore_n f, 1)) (hi : (f : Nat) = i) (hn : i < nL) (hc : zc1 lv = true) (hp : zput lv i (.int (zI a)) = lv') (h : zV Ω Γ R nL Q k n Ls ad σ (pc + 1) lv' st) : zV Ω Γ R nL Q k n Ls ad σ pc lv (.int (zI a) :: st) := by
  obtain ⟨l, D, dA, A, sx⟩ := Ω
  obtain ⟨p, e, s, m, args, below, meth, c⟩ := Γ
  obtain ⟨hx', hb, hml, hown, hts, hK, hA, hlk, hst⟩ := cx
  intro H locs ls hl hP hD hS hr
  exact lv_istore_n hx' hb hd hi hl hn rfl (fun ls' hl' => h H locs ls' (hp ▸ zput_has hc hl') hP hD hS hr)
theorem v_istore (cx : zC Ω Γ cc nL own) {i : Nat} (hd : decode cc pc = .ok (.istore i, 2)) (hn : i < nL) (hc : zc1 lv = true) (hp : zput lv i (.int (zI a)) = lv') (h : zV Ω Γ R nL Q k n Ls ad σ (pc + 2) lv' st) : zV Ω Γ R nL Q k n Ls ad σ pc lv (.int (zI a) :: st) := by
  obtain ⟨l, D, dA, A, sx⟩ := Ω
  obtain ⟨p, e, s, m, args, below, meth, c⟩ := Γ
  obtain ⟨hx', hb, hml, hown, hts, hK, hA, hlk, hst⟩ := cx
  intro H locs ls hl hP hD hS hr
  exact lv_istore hx' hb hd hl hn rfl (fun ls' hl' => h H locs ls' (hp ▸ zput_has hc hl') hP hD hS hr)
theorem v_astore_n (cx : zC Ω Γ cc nL own) {f : Fin 4} {i x : Nat} (hd : decode cc pc = .ok (.astore_n f, 1)) (hi : (f : Nat) = i) (hn : i < nL) (hc : zc1 lv = true) (hp : zput lv i (.ref x) = lv') (h : zV Ω Γ R nL Q k n Ls ad σ (pc + 1) lv' st) : zV Ω Γ R nL Q k n Ls ad σ pc lv (.ref x :: st) := by
  obtain ⟨l, D, dA, A, sx⟩ := Ω
  obtain ⟨p, e, s, m, args, below, meth, c⟩ := Γ
  obtain ⟨hx', hb, hml, hown, hts, hK, hA, hlk, hst⟩ := cx
  intro H locs ls hl hP hD hS hr
  exact lv_astore_n hx' hb hd hi hl hn rfl (fun ls' hl' => h H locs ls' (hp ▸ zput_has hc hl') hP hD hS hr)
theorem v_astore (cx : zC Ω Γ cc nL own) {i x : Nat} (hd : decode cc pc = .ok (.astore i, 2)) (hn : i < nL) (hc : zc1 lv = true) (hp : zput lv i (.ref x) = lv') (h : zV Ω Γ R nL Q k n Ls ad σ (pc + 2) lv' st) : zV Ω Γ R nL Q k n Ls ad σ pc lv (.ref x :: st) := by
  obtain ⟨l, D, dA, A, sx⟩ := Ω
  obtain ⟨p, e, s, m, args, below, meth, c⟩ := Γ
  obtain ⟨hx', hb, hml, hown, hts, hK, hA, hlk, hst⟩ := cx
  intro H locs ls hl hP hD hS hr
  exact lv_astore hx' hb hd hl hn rfl (fun ls' hl' => h H locs ls' (hp ▸ zput_has hc hl') hP hD hS hr)
theorem v_iinc (cx : zC Ω Γ cc nL own) {i : Nat} {x : Int} (j : Nat) (hd : decode cc pc = .ok (.iinc i x, 3)) (hj : lv[j]? = some (i, .int (zI a))) (hn : i < nL) (hc : zc1 lv = true) (hp : zput lv i (.int (zI (a + x))) = lv') (h : zV Ω Γ R nL Q k n Ls ad σ (pc + 3) lv' st) : zV Ω Γ R nL Q k n Ls ad σ pc lv st := by
  obtain ⟨l, D, dA, A, sx⟩ := Ω
  obtain ⟨p, e, s, m, args, below, meth, c⟩ := Γ
  obtain ⟨hx', hb, hml, hown, hts, hK, hA, hlk, hst⟩ := cx
  intro H locs ls hl hP hD hS hr
  exact lv_iinc hx' hb hd hl hj (zI_add a x) hn rfl (fun ls' hl' => h H locs ls' (hp ▸ zput_has hc hl') hP hD hS hr)
/-- fewer locals -/
theorem v_sub (hs : ∀ q ∈ lv', q ∈ lv) (h : zV Ω Γ R nL Q k n Ls ad σ pc lv' st) : zV Ω Γ R nL Q k n Ls ad σ pc lv st := by
  obtain ⟨l, D, dA, A, sx⟩ := Ω
  obtain ⟨p, e, s, m, args, below, meth, c⟩ := Γ
  intro H locs ls hl hP hD hS hr
  exact h H locs ls ⟨hl.1, hl.2.1, fun q hq => hl.2.2 q (hs q hq)⟩ hP hD hS hr
theorem v_widen {k' n' : Nat} (h1 : k ≤ k') (h2 : n ≤ n') (h : zV Ω Γ R nL Q k' n' Ls ad σ pc lv st) : zV Ω Γ R nL Q k n Ls ad σ pc lv st := by
  obtain ⟨l, D, dA, A, sx⟩ := Ω
  obtain ⟨p, e, s, m, args, below, meth, c⟩ := Γ
  intro H locs ls hl hP hD hS hr
  exact W.widen h1 h2 (h H locs ls hl hP hD hS hr)
theorem v_goto (cx : zC Ω Γ cc nL own) {off : Int} (tgt : Nat) (hd : decode cc pc = .ok (.goto off, 3)) (ht : (pc : Int) + off = (tgt : Int)) (h : zV Ω Γ R nL Q k n Ls ad σ tgt lv st) : zV Ω Γ R nL Q k n Ls ad σ pc lv st := by
  obtain ⟨l, D, dA, A, sx⟩ := Ω
  obtain ⟨p, e, s, m, args, below, meth, c⟩ := Γ
  obtain ⟨hx', hb, hml, hown, hts, hK, hA, hlk, hst⟩ := cx
  intro H locs ls hl hP hD hS hr
  exact lv_goto hx' hb hd ht (h H locs ls hl hP hD hS hr)
theorem v_idiv (cx : zC Ω Γ cc nL own) (hd : decode cc pc = .ok (.idiv, 1)) (ha : zR a) (hb0 : zR b) (hn : b ≠ 0) (hm : -2147483648 < a ∨ b ≠ -1) (h : zV Ω Γ R nL Q k n Ls ad σ (pc + 1) lv (.int (zI (Int.tdiv a b)) :: st)) : zV Ω Γ R nL Q k n Ls ad σ pc lv (.int (zI b) :: .int (zI a) :: st) := by
  obtain ⟨l, D, dA, A, sx⟩ := Ω
  obtain ⟨p, e, s, m, args, below, meth, c⟩ := Γ
  obtain ⟨hx', hb, hml, hown, hts, hK, hA, hlk, hst⟩ := cx
  intro H locs ls hl hP hD hS hr
  refine lv_idiv hx' hb hd (fun e => hn ((zI_eq hb0 zR_0).mp e)) ?_
  rw [zI_div ha hb0 hm]
  exact h H locs ls hl hP hD hS hr
theorem v_irem (cx : zC Ω Γ cc nL own) (hd : decode cc pc = .ok (.irem, 1)) (ha : zR a) (hb0 : zR b) (hn : b ≠ 0) (h : zV Ω Γ R nL Q k n Ls ad σ (pc + 1) lv (.int (zI (Int.tmod a b)) :: st)) : zV Ω Γ R nL Q k n Ls ad σ pc lv (.int (zI b) :: .int (zI a) :: st) := by
  obtain ⟨l, D, dA, A, sx⟩ := Ω
  obtain ⟨p, e, s, m, args, below, meth, c⟩ := Γ
  obtain ⟨hx', hb, hml, hown, hts, hK, hA, hlk, hst⟩ := cx
  intro H locs ls hl hP hD hS hr
  refine lv_irem hx' hb hd (fun e => hn ((zI_eq hb0 zR_0).mp e)) ?_
  rw [zI_rem ha hb0]
  exact h H locs ls hl hP hD hS hr
theorem v_iushr (cx : zC Ω Γ cc nL own) (hd : decode cc pc = .ok (.iushr, 1)) (h : zV Ω Γ R nL Q k n Ls ad σ (pc + 1) lv (.int (zI (zUshr a b)) :: st)) : zV Ω Γ R nL Q k n Ls ad σ pc lv (.int (zI b) :: .int (zI a) :: st) := by
  obtain ⟨l, D, dA, A, sx⟩ := Ω
  obtain ⟨p, e, s, m, args, below, meth, c⟩ := Γ
  obtain ⟨hx', hb, hml, hown, hts, hK, hA, hlk, hst⟩ := cx
  intro H locs ls hl hP hD hS hr
  exact lv_iushr hx' hb hd (zI_ushr a b) (h H locs ls hl hP hD hS hr)
theorem v_dup (cx : zC Ω Γ cc nL own) {v : Value} (hd : decode cc pc = .ok (.dup, 1)) (hv : v.category = 1) (h : zV Ω Γ R nL Q k n Ls ad σ (pc + 1) lv (v :: v :: st)) : zV Ω Γ R nL Q k n Ls ad σ pc lv (v :: st) := by
  obtain ⟨l, D, dA, A, sx⟩ := Ω
  obtain ⟨p, e, s, m, args, below, meth, c⟩ := Γ
  obtain ⟨hx', hb, hml, hown, hts, hK, hA, hlk, hst⟩ := cx
  intro H locs ls hl hP hD hS hr
  exact lv_dup hx' hb hd hv (h H locs ls hl hP hD hS hr)
theorem v_pop (cx : zC Ω Γ cc nL own) {v : Value} (hd : decode cc pc = .ok (.pop, 1)) (hv : v.category = 1) (h : zV Ω Γ R nL Q k n Ls ad σ (pc + 1) lv st) : zV Ω Γ R nL Q k n Ls ad σ pc lv (v :: st) := by
  obtain ⟨l, D, dA, A, sx⟩ := Ω
  obtain ⟨p, e, s, m, args, below, meth, c⟩ := Γ
  obtain ⟨hx', hb, hml, hown, hts, hK, hA, hlk, hst⟩ := cx
  intro H locs ls hl hP hD hS hr
  exact lv_pop hx' hb hd hv (h H locs ls hl hP hD hS hr)
theorem v_dup2 (cx : zC Ω Γ cc nL own) {v w : Value} (hd : decode cc pc = .ok (.dup2, 1)) (hv : v.category = 1) (hw : w.category = 1) (h : zV Ω Γ R nL Q k n Ls ad σ (pc + 1) lv (v :: w :: v :: w :: st)) : zV Ω Γ R nL Q k n Ls ad σ pc lv (v :: w :: st) := by
  obtain ⟨l, D, dA, A, sx⟩ := Ω
  obtain ⟨p, e, s, m, args, below, meth, c⟩ := Γ
  obtain ⟨hx', hb, hml, hown, hts, hK, hA, hlk, hst⟩ := cx
  intro H locs ls hl hP hD hS hr
  exact lv_dup2_11 hx' hb hd hv hw (h H locs ls hl hP hD hS hr)
theorem v_tableIn (cx : zC Ω Γ cc nL own) {dflt lo hi : Int} {offs : Array Int} {len : Nat} {off : Int} (tgt : Nat) (hd : decode cc pc = .ok (.tableswitch dflt lo hi offs, len)) (ha : zR a) (h1 : ¬ a < lo) (h2 : ¬ hi < a) (ho : offs[(a - lo).toNat]? = some off) (ht : (pc : Int) + off = (tgt : Int)) (h : zV Ω Γ R nL Q k n Ls ad σ tgt lv st) : zV Ω Γ R nL Q k n Ls ad σ pc lv (.int (zI a) :: st) := by
  obtain ⟨l, D, dA, A, sx⟩ := Ω
  obtain ⟨p, e, s, m, args, below, meth, c⟩ := Γ
  obtain ⟨hx', hb, hml, hown, hts, hK, hA, hlk, hst⟩ := cx
  intro H locs ls hl hP hD hS hr
  have e := zI_toInt ha
  exact lv_tableIn hx' hb hd (by rw [e]; exact h1) (by rw [e]; exact h2) (by rw [e]; exact ho) ht (h H locs ls hl hP hD hS hr)
theorem v_tableOut (cx : zC Ω Γ cc nL own) {dflt lo hi : Int} {offs : Array Int} {len : Nat} (tgt : Nat) (hd : decode cc pc = .ok (.tableswitch dflt lo hi offs, len)) (ha : zR a) (h1 : a < lo ∨ hi < a) (ht : (pc : Int) + dflt = (tgt : Int)) (h : zV Ω Γ R nL Q k n Ls ad σ tgt lv st) : zV Ω Γ R nL Q k n Ls ad σ pc lv (.int (zI a) :: st) := by
  obtain ⟨l, D, dA, A, sx⟩ := Ω
  obtain ⟨p, e, s, m, args, below, meth, c⟩ := Γ
  obtain ⟨hx', hb, hml, hown, hts, hK, hA, hlk, hst⟩ := cx
  intro H locs ls hl hP hD hS hr
  have e := zI_toInt ha
  exact lv_tableOut hx' hb hd (by rw [e]; exact h1) ht (h H locs ls hl hP hD hS hr)
end ZR

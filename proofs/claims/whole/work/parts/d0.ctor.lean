/-! ===== constructors: the world grows ===== -/
def zAd : List Nat → Nat → Nat
  | [], _ => 0
  | q :: _, 0 => q
  | _ :: r, k + 1 => zAd r k
/-- all that is pointed to is there -/
def zSc (m : Nat) (Ls : List zL) : Bool := Ls.all (fun y => match y with
  | .inr (.inr (_, fs)) => fs.all (fun f => match f with
    | some (some o) => decide (o < m)
    | _ => true)
  | _ => true)
theorem zAd_app : ∀ (qs : List Nat) (q k : Nat), k < qs.length → zAd (qs ++ [q]) k = zAd qs k
  | [], _, _, h => absurd h (Nat.not_lt_zero _)
  | _ :: _, _, 0, _ => rfl
  | _ :: r, q, k + 1, h => zAd_app r q k (Nat.lt_of_succ_lt_succ h)
theorem zAd_last : ∀ (qs : List Nat) (q : Nat), zAd (qs ++ [q]) qs.length = q
  | [], _ => rfl
  | _ :: r, q => zAd_last r q
theorem zF_ad {ad ad' : Nat → Nat} {f : Int → Int} {m : Nat} (he : ∀ k, k < m → ad' k = ad k) : ∀ (fs : List (Option (Option Nat))) (k : Nat), fs.all (fun f => match f with | some (some o) => decide (o < m) | _ => true) = true → zF ad' f k fs = zF ad f k fs
  | [], _, _ => rfl
  | none :: r, k, h => by
    rw [List.all_cons, Bool.and_eq_true] at h
    show _ :: zF ad' f (k + 1) r = _ :: zF ad f (k + 1) r
    rw [zF_ad he r (k + 1) h.2]
  | some none :: r, k, h => by
    rw [List.all_cons, Bool.and_eq_true] at h
    show _ :: zF ad' f (k + 1) r = _ :: zF ad f (k + 1) r
    rw [zF_ad he r (k + 1) h.2]
  | some (some o) :: r, k, h => by
    rw [List.all_cons, Bool.and_eq_true] at h
    show Value.ref (ad' o) :: zF ad' f (k + 1) r = Value.ref (ad o) :: zF ad f (k + 1) r
    rw [zF_ad he r (k + 1) h.2, he o (of_decide_eq_true h.1)]
theorem zX_ad {dA : Nat → ClassId} {ad ad' : Nat → Nat} {σ : zS} {m : Nat} (he : ∀ k, k < m → ad' k = ad k) : ∀ (Ls : List zL) (k : Nat), k + Ls.length ≤ m → zSc m Ls = true → zX dA ad' σ k Ls = zX dA ad σ k Ls
  | [], _, _, _ => rfl
  | y :: r, k, hl, h => by
    unfold zSc at h
    rw [List.all_cons, Bool.and_eq_true] at h
    rw [List.length_cons] at hl
    show (ad' k, zE dA ad' (σ k) y) :: zX dA ad' σ (k + 1) r = (ad k, zE dA ad (σ k) y) :: zX dA ad σ (k + 1) r
    rw [zX_ad he r (k + 1) (by omega) h.2, he k (by omega)]
    congr 2
    match y, h.1 with
    | .inl (_, _), _ => rfl
    | .inr (.inl _), _ => rfl
    | .inr (.inr (ci, fs)), h1 =>
      show (Sum.inr (ci, zF ad' (σ k) 0 fs) : va_E) = Sum.inr (ci, zF ad (σ k) 0 fs)
      rw [zF_ad he fs 0 h1]
theorem zX_push (dA : Nat → ClassId) (ad : Nat → Nat) (σ : zS) (y : zL) : ∀ (Ls : List zL) (k : Nat), zX dA ad σ k (Ls ++ [y]) = zX dA ad σ k Ls ++ [(ad (k + Ls.length), zE dA ad (σ (k + Ls.length)) y)]
  | [], k => rfl
  | z :: r, k => by
    show _ :: zX dA ad σ (k + 1) (r ++ [y]) = _ :: (zX dA ad σ (k + 1) r ++ _)
    rw [zX_push dA ad σ y r (k + 1), List.length_cons, show k + (r.length + 1) = k + 1 + r.length by omega]
theorem zw_push {dA : Nat → ClassId} {qs : List Nat} {Ls : List zL} {σ : zS} {q : Nat} {y : zL} {E : va_E} (hl : qs.length = Ls.length) (hs : zSc Ls.length Ls = true) (hE : zE dA (zAd (qs ++ [q])) (σ Ls.length) y = E) : zw dA (zAd qs) Ls σ ++ [(q, E)] = zw dA (zAd (qs ++ [q])) (Ls ++ [y]) σ := by
  have e1 := zX_push dA (zAd (qs ++ [q])) σ y Ls 0
  rw [Nat.zero_add, hE, ← hl, zAd_last] at e1
  rw [show zw dA (zAd (qs ++ [q])) (Ls ++ [y]) σ = zX dA (zAd (qs ++ [q])) σ 0 (Ls ++ [y]) from rfl, e1]
  rw [zX_ad (m := Ls.length) (fun k hk => zAd_app qs q k (by omega)) Ls 0 (by omega) hs]
def zHz (m : Nat) (σ : zS) : Prop := ∀ o j, m ≤ o → σ o j = 0
theorem zHz_s {m : Nat} {σ : zS} (h : zHz m σ) : zHz (m + 1) σ := fun o j ho => h o j (by omega)
theorem zHz_U {m u : Nat} {σ : zS} {k v : Int} (h : zHz m σ) (hu : u < m) : zHz m (zU σ u k v) := fun o j ho => by rw [zU_o (by omega)]; exact h o j ho
theorem zHz_W {m u : Nat} {σ : zS} {f : Int → Int} (h : zHz m σ) (hu : u < m) : zHz m (zW σ u f) := fun o j ho => by rw [zW_o (by omega)]; exact h o j ho
theorem zHz_F {m u : Nat} {σ : zS} {a b v : Int} (h : zHz m σ) (hu : u < m) : zHz m (zFill σ u a b v) := zHz_W h hu
theorem zF_setr {ad : Nat → Nat} {f : Int → Int} {r : Nat} : ∀ (fs : List (Option (Option Nat))) (k j : Nat), j < fs.length → (zF ad f k fs).set j (.ref (ad r)) = zF ad f k (fs.set j (some (some r)))
  | [], _, _, h => absurd h (Nat.not_lt_zero _)
  | none :: _, _, 0, _ => rfl
  | some none :: _, _, 0, _ => rfl
  | some (some _) :: _, _, 0, _ => rfl
  | none :: t, k, j + 1, h => by
    show _ :: (zF ad f (k + 1) t).set j _ = _ :: zF ad f (k + 1) (t.set j _)
    rw [zF_setr t (k + 1) j (Nat.lt_of_succ_lt_succ h)]
  | some none :: t, k, j + 1, h => by
    show _ :: (zF ad f (k + 1) t).set j _ = _ :: zF ad f (k + 1) (t.set j _)
    rw [zF_setr t (k + 1) j (Nat.lt_of_succ_lt_succ h)]
  | some (some _) :: t, k, j + 1, h => by
    show _ :: (zF ad f (k + 1) t).set j _ = _ :: zF ad f (k + 1) (t.set j _)
    rw [zF_setr t (k + 1) j (Nat.lt_of_succ_lt_succ h)]
theorem zRA_eq {D : va_G} {cA cB : ClassId} {ty : FieldType} {U : State} {tys : List (ClassId × FieldType)} {i : Nat} (hp : ty = .int ∨ ty = .boolean ∨ ty = .long) (h1 : va_K D zCl tys U) (hi : tys[i]? = some (cB, ty)) (h2 : va_K D zCl (tys ++ [(cA, ty)]) U) : cA = cB := by
  have a := (h1.2 i _ hi).2
  have b := (h2.2 tys.length (cA, ty) (by rw [List.getElem?_append_right (Nat.le_refl _), Nat.sub_self]; rfl)).2
  rcases hp with e | e | e <;> subst e <;> exact Option.some.inj (b.symm.trans a)
section ZK
variable {Ω : zO} {Γ : zM} {R rm : Room} {nL k n maxL nA idx : Nat} {Q : State → Prop} {Ls Ls' : List zL} {ad : Nat → Nat} {qs : List Nat} {σ : zS} {pc : Nat} {lv lv' : List (Nat × Value)} {st st0 As av : List Value} {cc bytes : ByteArray} {own : String} {o a : Nat} {y : MethodName} {f : (Nat → Nat) → List Nat}
theorem k_obj (cx : zC Ω Γ cc nL own) (h1 : Cond.methodLink own idx Lib.objectInit ∈ zT) (h2 : Cond.instanceMethod Lib.objectInit ∈ zT) (h3 : Cond.code Lib.objectInit ⟨#[0xb1]⟩ 1 none ∈ zT) (hf : 1 ≤ R.frames) (hlo : (st.map fun v => v.category).sum + 12 ≤ R.locals) (hd : decode cc pc = .ok (.invokespecial idx, 3)) (h : zV Ω Γ R nL Q k n Ls ad σ (pc + 3) lv st) : zV Ω Γ R nL Q k n Ls ad σ pc lv (.ref a :: st) := by
  obtain ⟨l, D, dA, A, sx⟩ := Ω
  obtain ⟨p, e, s, m, args, below, meth, c⟩ := Γ
  obtain ⟨hx', hb, hml, hown, hts, hK, hA, hlk, hst⟩ := cx
  intro H locs ls hl hP hD hS hr
  refine W.objInit hx' hb hown (hts _ h1) (hts _ h2) (hts _ h3) rfl (by rw [hml]; exact hl.1) rfl hd hf (by show 2 * 0 + _ + 12 ≤ _; omega) ?_
  exact W.eq (g2 := F0 m (pc + 3) ls st) rfl (h H locs ls hl hP hD hS hr)
theorem k_newi (cx : zC Ω Γ cc nL own) {N : Nat} {x : Int} (hx : (N : Int) = x) (hl0 : qs.length = Ls.length) (hs0 : zSc Ls.length Ls = true) (hz : zHz Ls.length σ) (hw : Cond.arrayClass .int ∈ zT) (hN : N ≤ 100000) (hc : k + 1 ≤ R.cells) (hsl : n + N ≤ R.slots) (hd : decode cc pc = .ok (.newarray .int, 2)) (eL : Ls ++ [zAr 1 N] = Ls') (h : ∀ q : Nat, zV Ω Γ R nL Q (k + 1) (n + N) Ls' (zAd (qs ++ [q])) σ (pc + 2) lv (.ref q :: st)) : zV Ω Γ R nL Q k n Ls (zAd qs) σ pc lv (.int (zI x) :: st) := by
  obtain ⟨l, D, dA, A, sx⟩ := Ω
  obtain ⟨p, e, s, m, args, below, meth, c⟩ := Γ
  obtain ⟨hx', hb, hml, hown, hts, hK, hA, hlk, hst⟩ := cx
  intro H locs ls hl hP hD hS hr
  subst eL hx
  refine va_newa (atype := .int) (a0 := (N, Sum.inl (fun _ => 0))) hx' hb (hts _ hw) rfl hK hP hD hS hA (fun cA => rfl) (zI_nn ⟨by omega, by omega⟩ (by omega)) (zI_cl ⟨by omega, by omega⟩) (by show N * 4 ≤ _; omega) hc hsl hd (fun q cA H1 hK2 hP1 hD1 hS1 => ?_)
  have ec : cA = dA 1 := zRA_eq (i := 0) (Or.inl rfl) hK rfl hK2
  subst ec
  have e := zw_push (dA := dA) (qs := qs) (Ls := Ls) (σ := σ) (q := q) (y := zAr 1 N) hl0 hs0 (E := .inl (dA 1, N, Sum.inl (fun _ => 0))) (by
    show (Sum.inl (dA 1, N, Sum.inl (fun j : Nat => zI (σ Ls.length (j : Nat)))) : va_E) = _
    rw [show (fun j : Nat => zI (σ Ls.length (j : Nat))) = fun _ => 0 from funext (fun j => by rw [hz _ _ (Nat.le_refl _)]; rfl)])
  rw [e] at hP1 hD1
  exact h q H1 locs ls hl hP1 hD1 hS1 hr
theorem k_newz (cx : zC Ω Γ cc nL own) {N : Nat} {x : Int} (hx : (N : Int) = x) (hl0 : qs.length = Ls.length) (hs0 : zSc Ls.length Ls = true) (hz : zHz Ls.length σ) (hw : Cond.arrayClass .boolean ∈ zT) (hN : N ≤ 100000) (hc : k + 1 ≤ R.cells) (hsl : n + N ≤ R.slots) (hd : decode cc pc = .ok (.newarray .boolean, 2)) (eL : Ls ++ [zAr 2 N] = Ls') (h : ∀ q : Nat, zV Ω Γ R nL Q (k + 1) (n + N) Ls' (zAd (qs ++ [q])) σ (pc + 2) lv (.ref q :: st)) : zV Ω Γ R nL Q k n Ls (zAd qs) σ pc lv (.int (zI x) :: st) := by
  obtain ⟨l, D, dA, A, sx⟩ := Ω
  obtain ⟨p, e, s, m, args, below, meth, c⟩ := Γ
  obtain ⟨hx', hb, hml, hown, hts, hK, hA, hlk, hst⟩ := cx
  intro H locs ls hl hP hD hS hr
  subst eL hx
  refine va_newa (atype := .boolean) (a0 := (N, Sum.inl (fun _ => 0))) hx' hb (hts _ hw) rfl hK hP hD hS hA (fun cA => rfl) (zI_nn ⟨by omega, by omega⟩ (by omega)) (zI_cl ⟨by omega, by omega⟩) (by show N * 1 ≤ _; omega) hc hsl hd (fun q cA H1 hK2 hP1 hD1 hS1 => ?_)
  have ec : cA = dA 2 := zRA_eq (i := 1) (Or.inr (Or.inl rfl)) hK rfl hK2
  subst ec
  have e := zw_push (dA := dA) (qs := qs) (Ls := Ls) (σ := σ) (q := q) (y := zAr 2 N) hl0 hs0 (E := .inl (dA 2, N, Sum.inl (fun _ => 0))) (by
    show (Sum.inl (dA 2, N, Sum.inl (fun j : Nat => zI (σ Ls.length (j : Nat)))) : va_E) = _
    rw [show (fun j : Nat => zI (σ Ls.length (j : Nat))) = fun _ => 0 from funext (fun j => by rw [hz _ _ (Nat.le_refl _)]; rfl)])
  rw [e] at hP1 hD1
  exact h q H1 locs ls hl hP1 hD1 hS1 hr
theorem k_newl (cx : zC Ω Γ cc nL own) {N : Nat} {x : Int} (hx : (N : Int) = x) (hl0 : qs.length = Ls.length) (hs0 : zSc Ls.length Ls = true) (hz : zHz Ls.length σ) (hw : Cond.arrayClass .long ∈ zT) (hN : N ≤ 100000) (hc : k + 1 ≤ R.cells) (hsl : n + N ≤ R.slots) (hd : decode cc pc = .ok (.newarray .long, 2)) (eL : Ls ++ [zLo N] = Ls') (h : ∀ q : Nat, zV Ω Γ R nL Q (k + 1) (n + N) Ls' (zAd (qs ++ [q])) σ (pc + 2) lv (.ref q :: st)) : zV Ω Γ R nL Q k n Ls (zAd qs) σ pc lv (.int (zI x) :: st) := by
  obtain ⟨l, D, dA, A, sx⟩ := Ω
  obtain ⟨p, e, s, m, args, below, meth, c⟩ := Γ
  obtain ⟨hx', hb, hml, hown, hts, hK, hA, hlk, hst⟩ := cx
  intro H locs ls hl hP hD hS hr
  subst eL hx
  refine va_newa (atype := .long) (a0 := (N, Sum.inr (Sum.inl (fun _ => 0)))) hx' hb (hts _ hw) rfl hK hP hD hS hA (fun cA => rfl) (zI_nn ⟨by omega, by omega⟩ (by omega)) (zI_cl ⟨by omega, by omega⟩) (by show N * 8 ≤ _; omega) hc hsl hd (fun q cA H1 hK2 hP1 hD1 hS1 => ?_)
  have ec : cA = dA 3 := zRA_eq (i := 2) (Or.inr (Or.inr rfl)) hK rfl hK2
  subst ec
  have e := zw_push (dA := dA) (qs := qs) (Ls := Ls) (σ := σ) (q := q) (y := zLo N) hl0 hs0 (E := .inl (dA 3, N, Sum.inr (Sum.inl (fun _ => 0)))) (by
    show (Sum.inl (dA 3, N, Sum.inr (Sum.inl (fun j : Nat => zJ (σ Ls.length (j : Nat))))) : va_E) = _
    rw [show (fun j : Nat => zJ (σ Ls.length (j : Nat))) = fun _ => 0 from funext (fun j => by rw [hz _ _ (Nat.le_refl _)]; rfl)])
  rw [e] at hP1 hD1
  exact h q H1 locs ls hl hP1 hD1 hS1 hr
theorem k_new (cx : zC Ω Γ cc nL own) {C : String} {T : u_T} {N ci : Nat} {fs : List (Option (Option Nat))} {fv : List Value} (ty : Nat → FieldType) (hty : ∀ j, j < N → parseFieldDescriptor (T j).2.2.1 = some (ty j)) (hin : ∀ w ∈ u_ws C T N, w ∈ zT) (hcl : Cond.classLink own idx C ∈ zT) (hinst : Cond.instantiable C N ∈ zT) (hini : Cond.initialized C ∈ zT) (hcc : zCl[ci]? = some (C, T, N)) (hfs : ∀ j, j < N → defaultValue (ty j) = vp_V fv j) (hfv : ∀ ad : Nat → Nat, zF ad (fun _ => 0) 0 fs = fv) (hl0 : qs.length = Ls.length) (hs0 : zSc Ls.length Ls = true) (hz : zHz Ls.length σ) (hc : k + 1 ≤ R.cells) (hsl : n + N ≤ R.slots) (hd : decode cc pc = .ok (.new idx, 3)) (eL : Ls ++ [zOb ci fs] = Ls') (h : ∀ q : Nat, zV Ω Γ R nL Q (k + 1) (n + N) Ls' (zAd (qs ++ [q])) σ (pc + 3) lv (.ref q :: st)) : zV Ω Γ R nL Q k n Ls (zAd qs) σ pc lv st := by
  obtain ⟨l, D, dA, A, sx⟩ := Ω
  obtain ⟨p, e, s, m, args, below, meth, c⟩ := Γ
  obtain ⟨hx', hb, hml, hown, hts, hK, hA, hlk, hst⟩ := cx
  intro H locs ls hl hP hD hS hr
  subst eL
  refine va_new (ci := ci) (fs := fv) hx' hb hts hin ty hty hown (hts _ hcl) (hts _ hinst) (hts _ hini) hK hP hD hS hA hcc hfs hc hsl hd (fun q H1 hP1 hD1 hS1 => ?_)
  have e := zw_push (dA := dA) (qs := qs) (Ls := Ls) (σ := σ) (q := q) (y := zOb ci fs) hl0 hs0 (E := .inr (ci, fv)) (by
    show (Sum.inr (ci, zF (zAd (qs ++ [q])) (σ Ls.length) 0 fs) : va_E) = _
    rw [show σ Ls.length = fun _ => 0 from funext (fun j => hz _ _ (Nat.le_refl _)), hfv])
  rw [e] at hP1 hD1
  exact h q H1 locs ls hl hP1 hD1 hS1 hr
theorem k_putr (cx : zC Ω Γ cc nL own) (hi : Γ.2.2.2.2.2.2.1.name = "<init>") {ci r : Nat} {fs : List (Option (Option Nat))} {C : String} {T : u_T} {N : Nat} (o j : Nat) (ty0 : Nat → FieldType) (hty : ∀ x, x < N → parseFieldDescriptor (T x).2.2.1 = some (ty0 x)) (hnm : ∀ x, x < N → ∀ y, y < N → x ≠ y → (T x).2.1 ≠ (T y).2.1) (hy : Ls[o]? = some (zOb ci fs)) (hj : j < fs.length) (hc : zCl[ci]? = some (C, T, N)) (hk : j < N) (hin : ∀ w ∈ u_ws C T N, w ∈ zT) (hw : Cond.fieldLink own idx (T j).1 (T j).2.1 (T j).2.2.1 ∈ zT) (hf : (T j).2.2.2 = true) (hdl : (T j).1 = own) {ty : FieldType} (ht : parseFieldDescriptor (T j).2.2.1 = some ty) (hn : narrow ty (.ref (ad r)) = .ref (ad r)) (hfit : fits ty (.ref (ad r)) = true) (hd : decode cc pc = .ok (.putfield idx, 3)) (eL : Ls.set o (zOb ci (fs.set j (some (some r)))) = Ls') (h : zV Ω Γ R nL Q k n Ls' ad σ (pc + 3) lv st) : zV Ω Γ R nL Q k n Ls ad σ pc lv (.ref (ad r) :: .ref (ad o) :: st) := by
  obtain ⟨l, D, dA, A, sx⟩ := Ω
  obtain ⟨p, e, s, m, args, below, meth, c⟩ := Γ
  obtain ⟨hx', hb, hml, hown, hts, hK, hA, hlk, hst⟩ := cx
  intro H locs ls hl hP hD hS hr
  subst eL
  have hlen : ∀ (fs : List (Option (Option Nat))) (k : Nat), (zF ad (σ o) k fs).length = fs.length := by
    intro fs
    induction fs with
    | nil => intro k; rfl
    | cons a t ih =>
      intro k
      match a with
      | none => exact congrArg (· + 1) (ih (k + 1))
      | some none => exact congrArg (· + 1) (ih (k + 1))
      | some (some _) => exact congrArg (· + 1) (ih (k + 1))
  refine va_putF hx' hb hts hin ty0 hty hnm hown hK hP hD hS o (zw_get hy) hc j hk (hts _ hw) (fun _ q => q) hf hi hdl ht hn hfit (by rw [hlen]; exact hj) hd (fun H1 locs1 hP1 hD1 hS1 => ?_)
  have e : (zw dA ad Ls σ).set o (ad o, .inr (ci, (zF ad (σ o) 0 fs).set j (.ref (ad r)))) = zw dA ad (Ls.set o (zOb ci (fs.set j (some (some r))))) σ := zw_set hy (by rw [zF_setr fs 0 j hj]; rfl) (fun _ _ => rfl)
  rw [e] at hP1 hD1
  exact h H1 locs1 ls hl hP1 hD1 hS1 hr
/-- a constructor's contract: the addresses of what it makes come with the world -/
def zMk (Ω : zO) (y : MethodName) (cw : Cond) (rm : Room) (Ls Ls' : List zL) (qs : List Nat) (f : (Nat → Nat) → List Nat) (av : List Value) (σ : zS) (K : zS → Prop) : Prop :=
  Met Ω.1 y (cw :: zT) rm (va_Pc av (zWd Ω Ls (zAd qs) σ)) (va_Qv (fun u : (Nat → Nat) × zS => K u.2 ∧ va_D Ω.2.2.2.1 (zw Ω.2.2.1 (zAd (f u.1)) Ls' u.2)) (fun u t => zPo Ω Ls' (zAd (f u.1)) u.2 t) Ω.2.2.2.1) rm.cells rm.slots Ω.2.2.2.1
def zRt_k (Ω : zO) (Γ : zM) (rm : Room) (maxL : Nat) (Q : State → Prop) (Ls' : List zL) (f : (Nat → Nat) → List Nat) (cc : ByteArray) (K : zS → Prop) : Prop := ∀ (k n : Nat) (σ1 : zS) (pc : Nat) (lv : List (Nat × Value)) (v : Nat → Nat), k ≤ rm.cells → n ≤ rm.slots → decode cc pc = .ok (.return_, 1) → K σ1 → zV Ω Γ rm maxL Q k n Ls' (zAd (f v)) σ1 pc lv []
theorem z_ofk {K : zS → Prop} (hy : plainName y.cls = true) (hyn : y.name = "<init>") (hlv : lv_args 0 av = lv) (hav : (lg_sl av).length ≤ maxL) (body : ∀ (Γ : zM) (Q : State → Prop), zC Ω Γ cc maxL y.cls → Γ.2.2.2.2.2.2.1.name = "<init>" → zRt_k Ω Γ rm maxL Q Ls' f cc K → zV Ω Γ rm maxL Q 0 0 Ls (zAd qs) σ 0 lv []) : zMk Ω y (.code y cc maxL none) rm Ls Ls' qs f av σ K := by
  obtain ⟨l, D, dA, A, sx⟩ := Ω
  refine Met.ofW (cc := cc) (maxL := maxL) (ret := none) hy rfl ?_
  intro p e s m args below meth c s₁ B hml hv
  obtain ⟨rfl, hP, hK, hD, hr, hA, hst⟩ := hv
  have hts0 := atoms_spec (ws := .code y cc maxL none :: zT) B.pre
  have cx : zC (l, D, dA, A, sx) (p, e, s, m, av.toArray, below, meth, c) cc maxL y.cls := ⟨B.exec, B.bytes, hml, findClass_of_methodNamed B.named, fun w hw => hts0 w (List.mem_cons_of_mem _ hw), hK, hA, B.notSynchronized, hst⟩
  have hl := lv_entry av (n := maxL) hav
  rw [lg_entry_eq]
  refine body (p, e, s, m, av.toArray, below, meth, c) _ cx ((name_of_methodNamed B.named B.method).1.trans hyn) ?_ s.heap [] _ (hlv ▸ hl) hP hD va_S.rf hr
  · intro k n σ1 pc lv v hk hn hd hKx H locs ls hl hP hD hS hr
    refine W.widen hk hn (W.vret B.exec B.bytes B.returns (fun t ht hW => ⟨⟨(v, σ1), rfl, ⟨hKx, hD⟩, by show va_P D zCl (zw dA (zAd (f v)) Ls' σ1) t.heap ∧ zRG σ1; rw [ht]; exact ⟨hP, hr⟩⟩, hS.F ht⟩) hS.2.2 hd B.notSynchronized)
def zYk (y : MethodName) (bytes : ByteArray) (maxL : Nat) (nA : Nat) : Prop :=
  Cond.code y bytes maxL none ∈ zT ∧ Cond.instanceMethod y ∈ zT ∧ Cond.initialized y.cls ∈ zT ∧ y.name = "<init>" ∧ (y.cls ≠ "java/lang/invoke/MethodHandle" ∧ y.cls ≠ "java/lang/invoke/VarHandle" ∧ (parseMethodDescriptor y.desc).map (fun d => d.parameters.length) = some nA)
theorem k_call {K : zS → Prop} (cx : zC Ω Γ cc nL own) (hM : zMk Ω y (.code y bytes maxL none) rm Ls Ls' qs f (.ref a :: As) σ K) (hY : zYk y bytes maxL nA) (hln : Cond.methodLink own idx y ∈ zT) (hn : As.length = nA) (hs : st0 = As.reverse ++ .ref a :: st) (hw : (st.map fun v => v.category).sum ≤ 8) (hR : rm.frames + 1 ≤ R.frames ∧ 8 + (maxL + 11) + rm.locals ≤ R.locals) (hf : k + rm.cells ≤ R.cells ∧ n + rm.slots ≤ R.slots) (hd : decode cc pc = .ok (.invokespecial idx, 3)) (h : ∀ (v : Nat → Nat) (σ1 : zS), K σ1 → zV Ω Γ R nL Q (k + rm.cells) (n + rm.slots) Ls' (zAd (f v)) σ1 (pc + 3) lv st) : zV Ω Γ R nL Q k n Ls (zAd qs) σ pc lv st0 := by
  subst hs
  have hpre := fun {H : Heap} {locs : List Loc} (hP) (hD) (hS : va_S Ω.2.2.2.1 Γ.2.2.1.heap H locs) (hr) => zc_pre (As := .ref a :: As) (ad := zAd qs) (Ls := Ls) (σ := σ) cx hP hD hS hr
  obtain ⟨l, D, dA, A, sx⟩ := Ω
  obtain ⟨p, e, s, m, args, below, meth, c⟩ := Γ
  obtain ⟨hx', hb, hml, hown, hts, hK, hA, hlk, hst⟩ := cx
  intro H locs ls hl hP hD hS hr
  have hp := hpre hP hD hS hr
  have cw := cwI (R := R) (own := own) (index := idx) (y := y) (bytes := bytes) (maxL := maxL) (ws := .code y bytes maxL none :: zT) (rm := rm) (mc := rm.cells) (ms := rm.slots) nA hts (zGoodL _ (fun w hw => by
    rcases List.mem_cons.mp hw with rfl | q
    · exact hY.1
    · exact q)) rfl rfl rfl (hts _ hY.2.2.1) (hts _ hln) (hts _ hY.2.1) hY.2.2.2.1 hY.2.2.2.2 hR
  refine va_callv (va_runI (As := As) (rest := st) (b := a) ⟨hx', hb, hml, hown, hts⟩ hM cw hp rfl hn hl.1 rfl (lv_room hw) hd hf) hS (fun q _ h => h) (fun q h => h) (fun u t H1 locs1 ht hvm hw hB hz1 hk1 hS1 => ?_)
  obtain ⟨hP1, hr1⟩ := hB
  rw [ht] at hP1
  exact h u.1 u.2 hw.1 H1 locs1 ls hl hP1 hw.2 hS1 hr1
end ZK

set_option maxRecDepth 20000 in
theorem s_J_fill2L {Ls : List zL} {Ω : zO} {ad : Nat → Nat} {o N : Nat} {v : Int} {K : zS → Prop} {σ : zS} (hy : Ls[o]? = some (zAr 1 N)) (hN : N ≤ 2147483647) (hv : zR v) (h : q_J_fill2 o N v K σ) : zMv Ω y_J_fill2 (.code y_J_fill2 c_J_fill2 4 none) rm_J_fill2 Ls ad [.ref (ad o), .int (zI v)] σ K := by
  refine z_ofv (lv := [(0, .ref (ad o)), (1, .int (zI v))]) (by decide) rfl (Nat.le_of_ble_eq_true rfl) ?_
  intro Γ Q cx rt
  refine v_iconst cx d_J_fill2_0 ?_
  refine v_istore_n (lv' := [(0, .ref (ad o)), (1, .int (zI v)), (2, .int (zI 0))]) cx d_J_fill2_1 rfl (by decide) rfl rfl ?_
  refine v_aload_n cx 0 d_J_fill2_2 rfl rfl ?_
  refine v_alen cx hy d_J_fill2_3 ?_
  refine v_istore_n (lv' := [(0, .ref (ad o)), (1, .int (zI v)), (2, .int (zI 0)), (3, .int (zI N))]) cx d_J_fill2_4 rfl (by decide) rfl rfl ?_
  have L : ∀ (m : Nat) (i : Int), 0 ≤ i → i ≤ N → N - i < m → zV Ω Γ rm_J_fill2 4 Q 0 0 Ls ad (zFill σ o 0 i v) 5 [(0, .ref (ad o)), (1, .int (zI v)), (2, .int (zI i)), (3, .int (zI N))] [] := by
    intro m
    induction m with
    | zero => intro i _ _ hm; exact absurd hm (by omega)
    | succ m ih =>
      intro i h0 h1 hm
      refine v_iload_n cx 2 d_J_fill2_5 rfl rfl ?_
      refine v_iload_n cx 3 d_J_fill2_6 rfl rfl ?_
      refine v_icmp_ge cx 20 d_J_fill2_7 (by decide) ⟨by omega, by omega⟩ ⟨by omega, by omega⟩ (fun c => ?_) (fun c => ?_)
      · have e : i = N := by omega
        subst e
        exact rt _ _ _ _ _ (Nat.le_of_ble_eq_true rfl) (Nat.le_of_ble_eq_true rfl) d_J_fill2_20 h
      · refine v_aload_n cx 0 d_J_fill2_10 rfl rfl ?_
        refine v_iload_n cx 2 d_J_fill2_11 rfl rfl ?_
        refine v_iload_n cx 1 d_J_fill2_12 rfl rfl ?_
        refine v_iast cx hy (by omega) h0 c hv d_J_fill2_13 ?_
        rw [zFill_step h0]
        refine v_iinc (lv' := [(0, .ref (ad o)), (1, .int (zI v)), (2, .int (zI (i + 1))), (3, .int (zI N))]) cx 2 d_J_fill2_14 rfl (by decide) rfl rfl ?_
        refine v_goto cx 5 d_J_fill2_17 (by decide) ?_
        exact ih (i + 1) (by omega) (by omega) (by omega)
  have L0 := L (N + 1) 0 (by omega) (by omega) (by omega)
  rw [zFill_0] at L0
  exact L0

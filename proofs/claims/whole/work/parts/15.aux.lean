section ZW
variable {Ω : zO} {Γ : zM} {R : Room} {nL k n : Nat} {Q : State → Prop} {Ls : List zL} {ad : Nat → Nat} {σ : zS} {pc : Nat} {lv lv' : List (Nat × Value)} {st : List Value} {cc : ByteArray} {own : String} {a b : Int}
theorem v_iincw (cx : zC Ω Γ cc nL own) {i : Nat} {x : Int} (j : Nat) (hd : decode cc pc = .ok (.iinc i x, 6)) (hj : lv[j]? = some (i, .int (zI a))) (hn : i < nL) (hc : zc1 lv = true) (hp : zput lv i (.int (zI (a + x))) = lv') (h : zV Ω Γ R nL Q k n Ls ad σ (pc + 6) lv' st) : zV Ω Γ R nL Q k n Ls ad σ pc lv st := by
  obtain ⟨l, D, dA, A, sx⟩ := Ω
  obtain ⟨p, e, s, m, args, below, meth, c⟩ := Γ
  obtain ⟨hx', hb, hml, hown, hts, hK, hA, hlk, hst⟩ := cx
  intro H locs ls hl hP hD hS hr
  exact lv_iincW hx' hb hd hl hj (zI_add a x) hn rfl (fun ls' hl' => h H locs ls' (hp ▸ zput_has hc hl') hP hD hS hr)
end ZW

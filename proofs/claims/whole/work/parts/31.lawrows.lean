/-! the law's own rows: its script, its end -/
def mj_Xs (v : mj_V) (r : mj_R) (Ln : Nat) (xs : Nat → Int32) : Prop := match v, r with
  | (_, _, _, _, _, ad, _, _), (_, _, _, s, _, _, _, _, _, A, _, _, _) => va_X (ad 55) Ln xs s s.heap ∧ ad 55 < s.heap.size ∧ ¬ A (ad 55)
def mj_Cl (v : mj_V) (r : mj_R) : Prop := match v, r with
  | (_, _, _, _, _, ad, _, _), (_, _, R, s, _, args, below, meth, _, A, cells, slots, Qw) => meth.sig.returnType = ret ∧ meth.locks = false ∧ R = room_1 ∧ args = #[Value.ref (ad 55)] ∧ cells = 600000 ∧ slots = 7302250 ∧ Qw = lw_Z below args s ∧ ∀ q, A q → s.heap.size ≤ q
section LR
variable {v : mj_V} {r : mj_R} {cc : ByteArray} {nL : Nat} {own : String} {Ts : List Cond} {rm : Room} {pc : Nat} {L : List (Nat × Value)} {S : List Value} {x : mj_X} {Ln : Nat} {xs : Nat → Int32}
theorem mj_sld (C : mj_Cx v r cc nL own Ts rm) (X : mj_Xs v r Ln xs) {j : Int32} (hj : vp_in j Ln) (hd : decode cc pc = .ok (.iaload, 1)) (h : mj_G v r (pc + 1) L (.int (xs j.toNatClampNeg) :: S) x) : mj_G v r pc L (.int j :: .ref 55 :: S) x := by
  obtain ⟨l0, D, cl, tys, NW, ad, wl, Aw⟩ := v
  obtain ⟨p, e, R, s, m, args, below, meth, c, A, cells, slots, Qw⟩ := r
  intro H locs ls hP hS hl'
  exact va_sld C.1 C.2.1 X.1 X.2.1 X.2.2 hS hj hd (h H locs ls hP hS hl')
theorem mj_slen (C : mj_Cx v r cc nL own Ts rm) (X : mj_Xs v r Ln xs) (hd : decode cc pc = .ok (.arraylength, 1)) (h : mj_G v r (pc + 1) L (.int (Int32.ofNat Ln) :: S) x) : mj_G v r pc L (.ref 55 :: S) x := by
  obtain ⟨l0, D, cl, tys, NW, ad, wl, Aw⟩ := v
  obtain ⟨p, e, R, s, m, args, below, meth, c, A, cells, slots, Qw⟩ := r
  intro H locs ls hP hS hl'
  exact va_slen C.1 C.2.1 X.1 X.2.1 X.2.2 hS hd (h H locs ls hP hS hl')
theorem mj_lret (C : mj_Cx v r code nL own Ts rm) (Z : mj_Cl v r) (hd : decode code pc = .ok (.ireturn, 1)) : mj_G v r pc L [.int 1] x := by
  obtain ⟨l0, D, cl, tys, NW, ad, wl, Aw⟩ := v
  obtain ⟨p, e, R, s, m, args, below, meth, c, A, cells, slots, Qw⟩ := r
  intro H locs ls hP hS hl'
  obtain ⟨z1, z2, rfl, rfl, rfl, rfl, rfl, z8⟩ := Z
  exact va_forget (fun q hq => z8 _ (hS.2.2 q hq)) (lw_ret C.1 C.2.1 z1 z2 hd)
end LR

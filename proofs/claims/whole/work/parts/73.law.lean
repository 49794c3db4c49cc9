/-! the law's loop: call after call -/
theorem xLaw {xs : Nat → Int32} {Ln : Nat} (hL : Ln < 2 ^ 20) : ∀ (d p : Nat) (k m : mj_St) (l : List Nat) (el : Nat → List Nat) (N : Nat), Ln < p + 6 * d + 6 → p < 2 ^ 20 → pA k m l el N → N + 150 * d < 2 ^ 29 → wL_law_28 (d + 1) (nI p) k m xs Ln := by
  have hLn : (Int32.ofNat Ln - 6).toInt = (Ln : Int) - 6 := pk_sub_toInt (a := Ln) (b := 6) (by omega) (by omega)
  intro d
  induction d with
  | zero =>
    intro p k m l el N h1 h2 h hN
    rw [wL_law_28]
    refine ⟨fun _ => trivial, fun q => ?_⟩
    exfalso
    apply q
    rw [Int32.lt_iff_toInt_lt, hLn, nI_toInt (by omega)]
    omega
  | succ d ih =>
    intro p k m l el N h1 h2 h hN
    rw [wL_law_28]
    refine ⟨fun _ => trivial, fun q => ?_⟩
    rw [Int32.lt_iff_toInt_lt, hLn, nI_toInt (by omega)] at q
    have hp : p + 6 ≤ Ln := by omega
    have v0 : vp_in (nI p) Ln := vp_in_nI (by omega) (by omega)
    have v1 : vp_in (nI p + 1) Ln := by
      rw [show nI p + 1 = nI (p + 1) from nI_add p 1]; exact vp_in_nI (by omega) (by omega)
    have v2 : vp_in (nI p + 2) Ln := by
      rw [show nI p + 2 = nI (p + 2) from nI_add p 2]; exact vp_in_nI (by omega) (by omega)
    have v3 : vp_in (nI p + 3) Ln := by
      rw [show nI p + 3 = nI (p + 3) from nI_add p 3]; exact vp_in_nI (by omega) (by omega)
    have v4 : vp_in (nI p + 4) Ln := by
      rw [show nI p + 4 = nI (p + 4) from nI_add p 4]; exact vp_in_nI (by omega) (by omega)
    have v5 : vp_in (nI p + 5) Ln := by
      rw [show nI p + 5 = nI (p + 5) from nI_add p 5]; exact vp_in_nI (by omega) (by omega)
    have nx : ∀ (k' m' : mj_St) (l' : List Nat) (el' : Nat → List Nat), pA k' m' l' el' (N + 150) → wL_law_645 (nI p) k' m' xs Ln (fun x3_ k_ m_ => wL_law_28 (d + 1) x3_ k_ m_ xs Ln) := by
      intro k' m' l' el' h'
      rintro a8 rfl
      rw [show nI p + 6 = nI (p + 6) from nI_add p 6]
      exact ih (p + 6) k' m' l' el' (N + 150) (by omega) (by omega) h' (by omega)
    have nr : wL_law_645 (nI p) k m xs Ln (fun x3_ k_ m_ => wL_law_28 (d + 1) x3_ k_ m_ xs Ln) := nx k m l el (h.le (by omega))
    refine ⟨v0, fun _ => ?_, fun _ => ⟨fun _ => ?_, fun _ => ⟨fun _ => ?_, fun _ => ⟨fun _ => ?_, fun _ => ⟨fun _ => ?_, fun _ => ⟨fun _ => ?_, fun _ => ⟨fun _ => ?_, fun _ => ⟨fun _ => ?_, fun _ => ⟨fun _ => ?_, fun _ => ⟨fun _ => ?_, fun _ => ⟨fun _ => ?_, fun _ => ⟨fun _ => ?_, fun _ => ⟨fun _ => ?_, fun _ => ⟨fun _ => ?_, fun _ => ⟨fun _ => ?_, fun _ => ⟨fun _ => ?_, fun _ => ⟨fun _ => ?_, fun _ => nr⟩⟩⟩⟩⟩⟩⟩⟩⟩⟩⟩⟩⟩⟩⟩⟩⟩
    · obtain ⟨a, k', m', l', el', g0, gK, gM⟩ := yPoke (xs (nI p + 1).toNatClampNeg) (xs (nI p + 2).toNatClampNeg) h
      exact ⟨v1, v2, gK _ ⟨v1, v2, gM _ ⟨fun _ => nx k' m' l' el' g0, fun q => absurd rfl q⟩⟩⟩
    · obtain ⟨a, gK, gM⟩ := yPeek (xs (nI p + 1).toNatClampNeg) h
      exact ⟨v1, gK _ ⟨v1, gM _ ⟨fun _ => nr, fun q => absurd rfl q⟩⟩⟩
    · obtain ⟨a, k', m', l', el', g0, gK, gM⟩ := ySpawn (xs (nI p + 1).toNatClampNeg) (xs (nI p + 2).toNatClampNeg) (xs (nI p + 3).toNatClampNeg) h (by omega)
      exact ⟨v1, v2, v3, gK _ ⟨v1, v2, v3, gM _ ⟨fun _ => nx k' m' l' el' g0, fun q => absurd rfl q⟩⟩⟩
    · obtain ⟨a, k', m', l', el', g0, gK, gM⟩ := yPut (xs (nI p + 1).toNatClampNeg) (xs (nI p + 2).toNatClampNeg) (xs (nI p + 3).toNatClampNeg) h
      exact ⟨v1, v2, v3, gK _ ⟨v1, v2, v3, gM _ ⟨fun _ => nx k' m' l' el' g0, fun q => absurd rfl q⟩⟩⟩
    · obtain ⟨a, k', m', l', el', g0, gK, gM⟩ := yGive (xs (nI p + 1).toNatClampNeg) (xs (nI p + 2).toNatClampNeg) (xs (nI p + 3).toNatClampNeg) (xs (nI p + 4).toNatClampNeg) (xs (nI p + 5).toNatClampNeg) h
      exact ⟨v1, v2, v3, v4, v5, gK _ ⟨v1, v2, v3, v4, v5, gM _ ⟨fun _ => nx k' m' l' el' g0, fun q => absurd rfl q⟩⟩⟩
    · obtain ⟨a, k', m', l', el', g0, gK, gM⟩ := yReap (xs (nI p + 1).toNatClampNeg) h
      exact ⟨v1, gK _ ⟨v1, gM _ ⟨fun _ => nx k' m' l' el' g0, fun q => absurd rfl q⟩⟩⟩
    · obtain ⟨a, k', m', l', el', g0, gK, gM⟩ := yStep (xs (nI p + 1).toNatClampNeg) h (by omega)
      exact ⟨v1, gK _ ⟨v1, gM _ ⟨fun _ => nx k' m' l' el' g0, fun q => absurd rfl q⟩⟩⟩
    · obtain ⟨a, gK, gM⟩ := yState (xs (nI p + 1).toNatClampNeg) h
      exact ⟨v1, gK _ ⟨v1, gM _ ⟨fun _ => nr, fun q => absurd rfl q⟩⟩⟩
    · obtain ⟨a, gK, gM⟩ := yFault (xs (nI p + 1).toNatClampNeg) h
      exact ⟨v1, gK _ ⟨v1, gM _ ⟨fun _ => nr, fun q => absurd rfl q⟩⟩⟩
    · obtain ⟨a, gK, gM⟩ := yRegister (xs (nI p + 1).toNatClampNeg) (xs (nI p + 2).toNatClampNeg) h
      exact ⟨v1, v2, gK _ ⟨v1, v2, gM _ ⟨fun _ => nr, fun q => absurd rfl q⟩⟩⟩
    · obtain ⟨a, gK, gM⟩ := yCounter (xs (nI p + 1).toNatClampNeg) h
      exact ⟨v1, gK _ ⟨v1, gM _ ⟨fun _ => nr, fun q => absurd rfl q⟩⟩⟩
    · obtain ⟨a, gK, gM⟩ := yCaller (xs (nI p + 1).toNatClampNeg) h
      exact ⟨v1, gK _ ⟨v1, gM _ ⟨fun _ => nr, fun q => absurd rfl q⟩⟩⟩
    · obtain ⟨a, gK, gM⟩ := yCapability (xs (nI p + 1).toNatClampNeg) (xs (nI p + 2).toNatClampNeg) (xs (nI p + 3).toNatClampNeg) h
      exact ⟨v1, v2, v3, gK _ ⟨v1, v2, v3, gM _ ⟨fun _ => nr, fun q => absurd rfl q⟩⟩⟩
    · obtain ⟨a, gK, gM⟩ := yDescendants (xs (nI p + 1).toNatClampNeg) (xs (nI p + 2).toNatClampNeg) h
      exact ⟨v1, v2, gK _ ⟨v1, v2, gM _ ⟨fun _ => nr, fun q => absurd rfl q⟩⟩⟩
    · obtain ⟨a, gK, gM⟩ := yInRow (xs (nI p + 1).toNatClampNeg) (xs (nI p + 2).toNatClampNeg) h
      exact ⟨v1, v2, gK _ ⟨v1, v2, gM _ ⟨fun _ => nr, fun q => absurd rfl q⟩⟩⟩
    · obtain ⟨a, gK, gM⟩ := yPrinted  h
      exact gK _ (gM _ ⟨fun _ => nr, fun q => absurd rfl q⟩)
    · obtain ⟨a, gK, gM⟩ := yPrint (xs (nI p + 1).toNatClampNeg) h (by omega)
      exact ⟨v1, gK _ ⟨v1, gM _ ⟨fun _ => nr, fun q => absurd rfl q⟩⟩⟩

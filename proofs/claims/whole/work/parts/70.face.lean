/-! the questions that every call asks first -/
theorem vK_in1 {j n : Nat} {hi : Int32} {R : Int32 → Prop} (h : hi = nI (n - 1)) (hj : j < n) (hn : n < 2 ^ 31) (hR : R 1) : wK_isBetween (nI j) 0 hi R :=
  vK_isBetween (fun _ _ => hR) (fun a => absurd rfl (pn_nbtw h (by omega) hn a j hj))
theorem vK_in0 {x : Int32} {n : Nat} {hi : Int32} {R : Int32 → Prop} (h : hi = nI (n - 1)) (h0 : 0 < n) (hn : n < 2 ^ 31) (hx : ∀ j, j < n → x ≠ nI j) (hR : R 0) : wK_isBetween x 0 hi R :=
  vK_isBetween (fun a b => by
    obtain ⟨j, j1, j2⟩ := pn_btw h h0 hn a b
    exact absurd j2 (hx j j1)) (fun _ => hR)
theorem vK_used1 {k : mj_St} {t : Nat} {Q : Option Nat → Prop} (ht : t < 6) (h : ¬ k (3 + t) 1 = 0) (hQ : Q (some (3 + t))) : wK_usedTask (nI t) k Q := by
  have hv : vp_in (nI t) 6 := vp_in_nI ht (by decide)
  unfold wK_usedTask
  rw [nI_clamp (by omega)]
  exact vK_in1 (n := 6) rfl ht (by decide) ⟨fun z => absurd z (by decide), fun _ => ⟨hv, fun z => absurd z h, fun _ => ⟨hv, hQ⟩⟩⟩
theorem vK_used0 {k : mj_St} {x : Int32} {Q : Option Nat → Prop} (h : ∀ t, t < 6 → x = nI t → k (3 + t) 1 = 0) (hQ : Q none) : wK_usedTask x k Q := by
  by_cases hx : ∃ t, t < 6 ∧ x = nI t
  · obtain ⟨t, ht, rfl⟩ := hx
    have hv : vp_in (nI t) 6 := vp_in_nI ht (by decide)
    unfold wK_usedTask
    rw [nI_clamp (by omega)]
    exact vK_in1 (n := 6) rfl ht (by decide) ⟨fun z => absurd z (by decide), fun _ => ⟨hv, fun _ => hQ, fun z => absurd (h t ht rfl) z⟩⟩
  · exact vK_in0 (n := 6) rfl (by decide) (by decide) (fun j j1 j2 => hx ⟨j, j1, j2⟩) ⟨fun _ => hQ, fun z => absurd rfl z⟩
theorem vM_thread1 {t : Nat} {Q : Int32 → Prop} (ht : t < 6) (hQ : Q 1) : wM_isThread (nI t) Q :=
  ⟨fun z => absurd z (nI_pos (by omega)), fun _ => ⟨fun z => absurd z (nI_ge (b := 6) ht (by decide)), fun _ => hQ⟩⟩
theorem vM_thread0 {x : Int32} {Q : Int32 → Prop} (h : ∀ t, t < 6 → x ≠ nI t) (hQ : Q 0) : wM_isThread x Q := by
  refine ⟨fun _ => hQ, fun z => ⟨fun _ => hQ, fun z2 => ?_⟩⟩
  rcases pn_rng x 6 (by omega) with q | q | ⟨j, j1, j2⟩
  · exact absurd q z
  · exact absurd q z2
  · exact absurd j2 (h j j1)
theorem vM_eight1 {t : Nat} {Q : Int32 → Prop} (ht : t < 8) (hQ : Q 1) : wM_isEight (nI t) Q :=
  ⟨fun z => absurd z (nI_pos (by omega)), fun _ => ⟨fun z => absurd z (nI_ge (b := 8) ht (by decide)), fun _ => hQ⟩⟩
theorem vM_eight0 {x : Int32} {Q : Int32 → Prop} (h : ∀ t, t < 8 → x ≠ nI t) (hQ : Q 0) : wM_isEight x Q := by
  refine ⟨fun _ => hQ, fun z => ⟨fun _ => hQ, fun z2 => ?_⟩⟩
  rcases pn_rng x 8 (by omega) with q | q | ⟨j, j1, j2⟩
  · exact absurd q z
  · exact absurd q z2
  · exact absurd j2 (h j j1)
theorem vM_there1 {m : mj_St} {t : Nat} {Q : Int32 → Prop} (ht : t < 6) (h : ¬ m 2 t = 0) (hQ : Q 1) : wM_isThere (nI t) m Q := by
  refine vM_thread1 ht ⟨fun z => absurd z (by decide), fun _ => ⟨vp_in_nI ht (by decide), ?_⟩⟩
  rw [nI_clamp (by omega)]
  exact ⟨fun z => absurd z h, fun _ => hQ⟩
theorem vM_there0 {m : mj_St} {x : Int32} {Q : Int32 → Prop} (h : ∀ t, t < 6 → x = nI t → m 2 t = 0) (hQ : Q 0) : wM_isThere x m Q := by
  by_cases hx : ∃ t, t < 6 ∧ x = nI t
  · obtain ⟨t, ht, rfl⟩ := hx
    refine vM_thread1 ht ⟨fun z => absurd z (by decide), fun _ => ⟨vp_in_nI ht (by decide), ?_⟩⟩
    rw [nI_clamp (by omega)]
    exact ⟨fun _ => hQ, fun z => absurd (h t ht rfl) z⟩
  · exact vM_thread0 (fun t ht e => hx ⟨t, ht, e⟩) ⟨fun _ => hQ, fun z => absurd rfl z⟩
theorem vK_place1 {t s : Nat} {Q : Int32 → Prop} (ht : t < 6) (hs : s < 8) (hQ : Q (nI (8 * t + s))) : wK_placeOf (nI t) (nI s) Q := by
  refine vK_in1 (n := 6) rfl ht (by decide) ⟨fun z => absurd z (by decide), fun _ => vK_in1 (n := 8) rfl hs (by decide) ⟨fun z => absurd z (by decide), fun _ => ⟨fun z => absurd z (by decide), fun _ => ?_⟩⟩⟩
  unfold wK_slotPlace
  rw [pn_slot]
  exact hQ
theorem vK_place0 {x y : Int32} {Q : Int32 → Prop} (h : ∀ t s, t < 6 → s < 8 → x = nI t → y ≠ nI s) (hQ : Q (-1)) : wK_placeOf x y Q := by
  have h23 : wK_placeOf_23 x y Q := ⟨fun _ => hQ, fun z => absurd rfl z⟩
  by_cases hx : ∃ t, t < 6 ∧ x = nI t
  · obtain ⟨t, ht, rfl⟩ := hx
    exact vK_in1 (n := 6) rfl ht (by decide) ⟨fun z => absurd z (by decide), fun _ => vK_in0 (n := 8) rfl (by decide) (by decide) (fun s hs => h t s ht hs rfl) ⟨fun _ => h23, fun z => absurd rfl z⟩⟩
  · exact vK_in0 (n := 6) rfl (by decide) (by decide) (fun t ht e => hx ⟨t, ht, e⟩) ⟨fun _ => h23, fun z => absurd rfl z⟩
theorem vM_cap1 {m : mj_St} {t s : Nat} {Q : Int32 → Prop} (ht : t < 6) (hs : s < 8) (h2 : ¬ m 2 t = 0) (h : ¬ m 16 (8 * t + s) = 0) (hQ : Q 1) : wM_isCapability (nI t) (nI s) m Q := by
  refine vM_thread1 ht ⟨fun z => absurd z (by decide), fun _ => vM_eight1 hs ⟨fun z => absurd z (by decide), fun _ => ⟨vp_in_nI ht (by decide), ?_⟩⟩⟩
  rw [pn_slot, nI_clamp (by omega), nI_clamp (by omega)]
  exact ⟨fun z => absurd z h2, fun _ => ⟨vp_in_nI (by omega) (by decide), fun z => absurd z h, fun _ => hQ⟩⟩
theorem vM_cap0 {m : mj_St} {x y : Int32} {Q : Int32 → Prop} (h : ∀ t s, t < 6 → s < 8 → x = nI t → y = nI s → m 16 (8 * t + s) = 0) (hQ : Q 0) : wM_isCapability x y m Q := by
  by_cases hx : ∃ t, t < 6 ∧ x = nI t
  · obtain ⟨t, ht, rfl⟩ := hx
    by_cases hy : ∃ s, s < 8 ∧ y = nI s
    · obtain ⟨s, hs, rfl⟩ := hy
      refine vM_thread1 ht ⟨fun z => absurd z (by decide), fun _ => vM_eight1 hs ⟨fun z => absurd z (by decide), fun _ => ⟨vp_in_nI ht (by decide), fun _ => hQ, fun _ => ⟨?_, ?_⟩⟩⟩⟩
      · rw [pn_slot]; exact vp_in_nI (by omega) (by decide)
      · rw [pn_slot, nI_clamp (by omega)]
        exact ⟨fun _ => hQ, fun z => absurd (h t s ht hs rfl rfl) z⟩
    · exact vM_thread1 ht ⟨fun z => absurd z (by decide), fun _ => vM_eight0 (fun s hs e => hy ⟨s, hs, e⟩) ⟨fun _ => hQ, fun z => absurd rfl z⟩⟩
  · exact vM_thread0 (fun t ht e => hx ⟨t, ht, e⟩) ⟨fun _ => hQ, fun z => absurd rfl z⟩
/-! what only looks: one answer on both sides -/
def pAns (A B : (Int32 → Prop) → Prop) : Prop := ∃ a : Int32, (∀ Q : Int32 → Prop, Q a → A Q) ∧ (∀ Q : Int32 → Prop, Q a → B Q)
section Look
variable {k m : mj_St} {l : List Nat} {el : Nat → List Nat} {N : Nat}
theorem yPeek (x : Int32) (h : pA k m l el N) : pAns (fun Q => wK_peek x k Q) (fun Q => wM_peek x m Q) := by
  by_cases hx : ∃ j, j < 128 ∧ x = nI j
  · obtain ⟨j, hj, rfl⟩ := hx
    refine ⟨m 1 j, fun Q hQ => vK_in1 (n := 128) rfl hj (by decide) ⟨fun z => absurd z (by decide), fun _ => ⟨vp_in_nI hj (by decide), ?_⟩⟩, fun Q hQ => ⟨fun z => absurd z (nI_pos (by omega)), fun _ => ⟨fun _ => ⟨vp_in_nI hj (by decide), ?_⟩, fun z => absurd (nI_le (b := 127) (by omega) (by decide)) z⟩⟩⟩
    · rw [nI_clamp (by omega), h.2.1 j hj]; exact hQ
    · rw [nI_clamp (by omega)]; exact hQ
  · refine ⟨0, fun Q hQ => vK_in0 (n := 128) rfl (by decide) (by decide) (fun j j1 j2 => hx ⟨j, j1, j2⟩) ⟨fun _ => hQ, fun z => absurd rfl z⟩, fun Q hQ => ⟨fun _ => hQ, fun z => ⟨fun z2 => ?_, fun _ => hQ⟩⟩⟩
    exfalso
    rcases pn_rng x 128 (by omega) with q | q | q
    · exact z q
    · rw [Int32.le_iff_toInt_le] at q z2
      have e1 : (nI 128).toInt = 128 := by decide
      have e2 : (127 : Int32).toInt = 127 := by decide
      omega
    · exact hx q
theorem yState (x : Int32) (h : pA k m l el N) : pAns (fun Q => wK_state x k Q) (fun Q => wM_state x m Q) := by
  by_cases hx : ∃ t, t < 6 ∧ x = nI t
  · obtain ⟨t, ht, rfl⟩ := hx
    refine ⟨m 2 t, fun Q hQ => vK_in1 (n := 6) rfl ht (by decide) ⟨fun z => absurd z (by decide), fun _ => ⟨vp_in_nI ht (by decide), ?_⟩⟩, fun Q hQ => vM_thread1 ht ⟨fun z => absurd z (by decide), fun _ => ⟨vp_in_nI ht (by decide), ?_⟩⟩⟩
    · rw [nI_clamp (by omega), (h.2.2.2.1 t ht).1]; exact hQ
    · rw [nI_clamp (by omega)]; exact hQ
  · exact ⟨-1, fun Q hQ => vK_in0 (n := 6) rfl (by decide) (by decide) (fun j j1 j2 => hx ⟨j, j1, j2⟩) ⟨fun _ => hQ, fun z => absurd rfl z⟩, fun Q hQ => vM_thread0 (fun j j1 j2 => hx ⟨j, j1, j2⟩) ⟨fun _ => hQ, fun z => absurd rfl z⟩⟩
/-- a thread that is there, or not -/
theorem pA.there (x : Int32) (h : pA k m l el N) : (∃ t, t < 6 ∧ x = nI t ∧ ¬ m 2 t = 0 ∧ ¬ k (3 + t) 1 = 0) ∨ ((∀ t, t < 6 → x = nI t → m 2 t = 0) ∧ ∀ t, t < 6 → x = nI t → k (3 + t) 1 = 0) := by
  by_cases hx : ∃ t, t < 6 ∧ x = nI t ∧ ¬ m 2 t = 0
  · obtain ⟨t, ht, e, h2⟩ := hx
    exact Or.inl ⟨t, ht, e, h2, by rw [(h.2.2.2.1 t ht).1]; exact h2⟩
  · have g : ∀ t, t < 6 → x = nI t → m 2 t = 0 := fun t ht e => by
      by_cases q : m 2 t = 0
      · exact q
      · exact absurd ⟨t, ht, e, q⟩ hx
    exact Or.inr ⟨g, fun t ht e => by rw [(h.2.2.2.1 t ht).1]; exact g t ht e⟩
theorem yFault (x : Int32) (h : pA k m l el N) : pAns (fun Q => wK_fault x k Q) (fun Q => wM_fault x m Q) := by
  rcases h.there x with ⟨t, ht, rfl, h2, h1⟩ | ⟨g2, g1⟩
  · obtain ⟨b1, b2, b3, b4, b5, b6, b7, -⟩ := h.2.2.2.1 t ht
    refine ⟨k (3 + t) 2, fun Q hQ => vK_used1 ht h1 ⟨fun z => absurd z (by simp), fun o e => ?_⟩, fun Q hQ => vM_thread1 ht ⟨fun z => absurd z (by decide), fun _ => ⟨vp_in_nI ht (by decide), ?_⟩⟩⟩
    · cases e; exact ⟨⟨by omega, by omega⟩, hQ⟩
    · rw [nI_clamp (by omega)]
      refine ⟨fun z => ?_, fun z => ⟨vp_in_nI ht (by decide), ?_⟩⟩
      · rw [b7 z] at hQ; exact hQ
      · rw [b6 z] at hQ; exact hQ
  · refine ⟨0, fun Q hQ => vK_used0 g1 ⟨fun _ => hQ, fun o e => by cases e⟩, fun Q hQ => ?_⟩
    by_cases hx : ∃ t, t < 6 ∧ x = nI t
    · obtain ⟨t, ht, rfl⟩ := hx
      refine vM_thread1 ht ⟨fun z => absurd z (by decide), fun _ => ⟨vp_in_nI ht (by decide), ?_⟩⟩
      rw [nI_clamp (by omega), g2 t ht rfl]
      exact ⟨fun _ => hQ, fun z => absurd z (by decide)⟩
    · exact vM_thread0 (fun j j1 j2 => hx ⟨j, j1, j2⟩) ⟨fun _ => hQ, fun z => absurd rfl z⟩
theorem yRegister (x y : Int32) (h : pA k m l el N) : pAns (fun Q => wK_register x y k Q) (fun Q => wM_register x y m Q) := by
  rcases h.there x with ⟨t, ht, rfl, h2, h1⟩ | ⟨g2, g1⟩
  · by_cases hy : ∃ s, s < 8 ∧ y = nI s
    · obtain ⟨s, hs, rfl⟩ := hy
      refine ⟨m 8 (8 * t + s), fun Q hQ => vK_used1 ht h1 ⟨fun z => absurd z (by simp), fun o e => ?_⟩, fun Q hQ => vM_there1 ht h2 ⟨fun z => absurd z (by decide), fun _ => vM_eight1 hs ⟨fun z => absurd z (by decide), fun _ => ?_⟩⟩⟩
      · cases e
        refine ⟨⟨by omega, by omega⟩, vK_in1 (n := 8) rfl hs (by decide) ⟨fun _ => ⟨vp_in_nI hs (by decide), ?_⟩, fun z => absurd z (by decide)⟩⟩
        rw [nI_clamp (by omega), h.2.2.1 t s ht hs]
        exact hQ
      · rw [pn_slot, nI_clamp (by omega)]
        exact ⟨vp_in_nI (by omega) (by decide), hQ⟩
    · refine ⟨0, fun Q hQ => vK_used1 ht h1 ⟨fun z => absurd z (by simp), fun o e => ?_⟩, fun Q hQ => vM_there1 ht h2 ⟨fun z => absurd z (by decide), fun _ => vM_eight0 (fun j j1 j2 => hy ⟨j, j1, j2⟩) ⟨fun _ => hQ, fun z => absurd rfl z⟩⟩⟩
      cases e
      exact ⟨⟨by omega, by omega⟩, vK_in0 (n := 8) rfl (by decide) (by decide) (fun j j1 j2 => hy ⟨j, j1, j2⟩) ⟨fun z => absurd rfl z, fun _ => hQ⟩⟩
  · exact ⟨0, fun Q hQ => vK_used0 g1 ⟨fun _ => hQ, fun o e => by cases e⟩, fun Q hQ => vM_there0 g2 ⟨fun _ => hQ, fun z => absurd rfl z⟩⟩
theorem yCounter (x : Int32) (h : pA k m l el N) : pAns (fun Q => wK_counter x k Q) (fun Q => wM_counter x m Q) := by
  rcases h.there x with ⟨t, ht, rfl, h2, h1⟩ | ⟨g2, g1⟩
  · refine ⟨m 4 t, fun Q hQ => vK_used1 ht h1 ⟨fun z => absurd z (by simp), fun o e => ?_⟩, fun Q hQ => vM_there1 ht h2 ⟨fun z => absurd z (by decide), fun _ => ⟨vp_in_nI ht (by decide), ?_⟩⟩⟩
    · cases e
      refine ⟨⟨by omega, by omega⟩, ?_⟩
      rw [(h.2.2.2.1 t ht).2.1]
      exact hQ
    · rw [nI_clamp (by omega)]; exact hQ
  · exact ⟨-1, fun Q hQ => vK_used0 g1 ⟨fun _ => hQ, fun o e => by cases e⟩, fun Q hQ => vM_there0 g2 ⟨fun _ => hQ, fun z => absurd rfl z⟩⟩
theorem yCaller (x : Int32) (h : pA k m l el N) : pAns (fun Q => wK_caller x k Q) (fun Q => wM_caller x m Q) := by
  rcases h.there x with ⟨t, ht, rfl, h2, h1⟩ | ⟨g2, g1⟩
  · refine ⟨m 7 t, fun Q hQ => vK_used1 ht h1 ⟨fun z => absurd z (by simp), fun o e => ?_⟩, fun Q hQ => vM_there1 ht h2 ⟨fun z => absurd z (by decide), fun _ => ⟨vp_in_nI ht (by decide), ?_⟩⟩⟩
    · cases e
      refine ⟨⟨by omega, by omega⟩, ?_⟩
      rw [(h.2.2.2.1 t ht).2.2.2.2.2.2.2.1 h2]
      exact hQ
    · rw [nI_clamp (by omega)]; exact hQ
  · exact ⟨-1, fun Q hQ => vK_used0 g1 ⟨fun _ => hQ, fun o e => by cases e⟩, fun Q hQ => vM_there0 g2 ⟨fun _ => hQ, fun z => absurd rfl z⟩⟩
/-- a capability that is there, or not -/
theorem pA.slot (x y : Int32) (h : pA k m l el N) : (∃ t s, t < 6 ∧ s < 8 ∧ x = nI t ∧ y = nI s ∧ ¬ m 2 t = 0 ∧ ¬ m 16 (8 * t + s) = 0) ∨ (∀ t s, t < 6 → s < 8 → x = nI t → y = nI s → m 16 (8 * t + s) = 0) := by
  by_cases hx : ∃ t s, t < 6 ∧ s < 8 ∧ x = nI t ∧ y = nI s ∧ ¬ m 16 (8 * t + s) = 0
  · obtain ⟨t, s, ht, hs, e1, e2, h3⟩ := hx
    exact Or.inl ⟨t, s, ht, hs, e1, e2, fun q => h3 (h.2.2.2.2.2.1 t s ht hs q), h3⟩
  · right
    intro t s ht hs e1 e2
    by_cases q : m 16 (8 * t + s) = 0
    · exact q
    · exact absurd ⟨t, s, ht, hs, e1, e2, q⟩ hx
/-- the class's question whether a slot holds one -/
theorem vK_slot0 {x y : Int32} {R : Int32 → Prop} {P : Int32 → Prop} (h : pA k m l el N) (g : ∀ t s, t < 6 → s < 8 → x = nI t → y = nI s → m 16 (8 * t + s) = 0) (hR : R (-1)) : wK_placeOf x y (fun a1 => (((a1 = (-1)) → R (-1)) ∧ ((¬ a1 = (-1)) → wG_holds a1 k (fun a3 => (((¬ a3 = 0) → P a1) ∧ ((a3 = 0) → R (-1))))))) := by
  by_cases hx : ∃ t s, t < 6 ∧ s < 8 ∧ x = nI t ∧ y = nI s
  · obtain ⟨t, s, ht, hs, rfl, rfl⟩ := hx
    refine vK_place1 ht hs ⟨fun _ => hR, fun _ => vG_holds (by omega) (fun z => ?_) (fun _ => ⟨fun z => absurd rfl z, fun _ => hR⟩)⟩
    rw [(h.2.2.2.2.1.1 _ (by omega)).1] at z
    exact absurd (g t s ht hs rfl rfl) z
  · exact vK_place0 (fun t s ht hs e1 e2 => hx ⟨t, s, ht, hs, e1, e2⟩) ⟨fun _ => hR, fun z => absurd rfl z⟩
theorem yCapability (x y z : Int32) (h : pA k m l el N) : pAns (fun Q => wK_capability x y z k Q) (fun Q => wM_capability x y z m Q) := by
  rcases h.slot x y with ⟨t, s, ht, hs, rfl, rfl, h2, h3⟩ | g
  · obtain ⟨c1, c2, c3⟩ := h.2.2.2.2.1.1 (8 * t + s) (by omega)
    obtain ⟨d1, d2, d3, -⟩ := c3 h3
    have hv : vp_in (nI (8 * t + s)) 48 := vp_in_nI (by omega) (by decide)
    have hcl : (nI (8 * t + s)).toNatClampNeg = 8 * t + s := nI_clamp (by omega)
    have hh : ∀ Q : Int32 → Prop, wG_partOf (nI (8 * t + s)) z k (fun a => Q a) → wK_capability (nI t) (nI s) z k Q := fun Q hQ =>
      vK_place1 ht hs ⟨fun q => absurd q (pn_m1 (by omega)), fun _ => vG_holds (by omega) (fun _ => ⟨fun _ => hQ, fun q => absurd q (by decide)⟩) (fun q => absurd (by rw [← c1]; exact q) h3)⟩
    by_cases z0 : z = 0
    · subst z0
      refine ⟨m 16 (8 * t + s), fun Q hQ => hh Q ?_, fun Q hQ => vM_cap1 ht hs h2 h3 ⟨fun q => absurd q (by decide), fun _ => ⟨fun q => absurd q (by decide), fun _ => ⟨fun _ => ?_, fun q => absurd (by decide) q⟩⟩⟩⟩
      · unfold wG_partOf
        rw [hcl, c1]
        exact ⟨fun _ => ⟨hv, hQ⟩, fun q => absurd rfl q⟩
      · rintro a5 rfl
        rw [pn_slot, hcl]
        exact ⟨fun q => absurd rfl q, fun _ => ⟨hv, hQ⟩⟩
    · by_cases z1 : z = 1
      · subst z1
        refine ⟨m 17 (8 * t + s), fun Q hQ => hh Q ?_, fun Q hQ => vM_cap1 ht hs h2 h3 ⟨fun q => absurd q (by decide), fun _ => ⟨fun q => absurd q (by decide), fun _ => ⟨fun _ => ?_, fun q => absurd (by decide) q⟩⟩⟩⟩
        · unfold wG_partOf
          rw [hcl, d1]
          exact ⟨fun q => absurd q (by decide), fun _ => ⟨fun _ => ⟨hv, hQ⟩, fun q => absurd rfl q⟩⟩
        · rintro a5 rfl
          rw [pn_slot, hcl]
          exact ⟨fun _ => ⟨fun q => absurd rfl q, fun _ => ⟨hv, hQ⟩⟩, fun q => absurd q (by decide)⟩
      · by_cases z2 : z = 2
        · subst z2
          refine ⟨m 18 (8 * t + s), fun Q hQ => hh Q ?_, fun Q hQ => vM_cap1 ht hs h2 h3 ⟨fun q => absurd q (by decide), fun _ => ⟨fun q => absurd q (by decide), fun _ => ⟨fun _ => ?_, fun q => absurd (by decide) q⟩⟩⟩⟩
          · unfold wG_partOf
            rw [hcl, d2]
            exact ⟨fun q => absurd q (by decide), fun _ => ⟨fun q => absurd q (by decide), fun _ => ⟨fun _ => ⟨hv, hQ⟩, fun q => absurd rfl q⟩⟩⟩
          · rintro a5 rfl
            rw [pn_slot, hcl]
            exact ⟨fun _ => ⟨fun _ => ⟨fun q => absurd rfl q, fun _ => ⟨hv, hQ⟩⟩, fun q => absurd q (by decide)⟩, fun q => absurd q (by decide)⟩
        · by_cases z3 : z = 3
          · subst z3
            refine ⟨m 19 (8 * t + s), fun Q hQ => hh Q ?_, fun Q hQ => vM_cap1 ht hs h2 h3 ⟨fun q => absurd q (by decide), fun _ => ⟨fun q => absurd q (by decide), fun _ => ⟨fun _ => ?_, fun q => absurd (by decide) q⟩⟩⟩⟩
            · unfold wG_partOf
              rw [hcl, d3]
              exact ⟨fun q => absurd q (by decide), fun _ => ⟨fun q => absurd q (by decide), fun _ => ⟨fun q => absurd q (by decide), fun _ => ⟨fun _ => ⟨hv, hQ⟩, fun q => absurd rfl q⟩⟩⟩⟩
            · rintro a5 rfl
              rw [pn_slot, hcl]
              exact ⟨fun _ => ⟨fun _ => ⟨fun _ => ⟨hv, hQ⟩, fun q => absurd q (by decide)⟩, fun q => absurd q (by decide)⟩, fun q => absurd q (by decide)⟩
          · refine ⟨-1, fun Q hQ => hh Q ⟨fun q => absurd q z0, fun _ => ⟨fun q => absurd q z1, fun _ => ⟨fun q => absurd q z2, fun _ => ⟨fun q => absurd q z3, fun _ => hQ⟩⟩⟩⟩, fun Q hQ => vM_cap1 ht hs h2 h3 ⟨fun q => absurd q (by decide), fun _ => ⟨fun _ => hQ, fun n0 => ⟨fun n3 => ?_, fun _ => hQ⟩⟩⟩⟩
            exfalso
            rcases pn_rng z 4 (by omega) with q | q | ⟨j, j1, j2⟩
            · exact n0 q
            · rw [Int32.le_iff_toInt_le] at q n3
              have e1 : (nI 4).toInt = 4 := by decide
              have e2 : (3 : Int32).toInt = 3 := by decide
              omega
            · have : j = 0 ∨ j = 1 ∨ j = 2 ∨ j = 3 := by omega
              rcases this with rfl | rfl | rfl | rfl
              · exact z0 j2
              · exact z1 j2
              · exact z2 j2
              · exact z3 j2
  · exact ⟨-1, fun Q hQ => vK_slot0 (P := fun a1 => wG_partOf a1 z k (fun a5 => (Q a5))) (R := Q) h g hQ, fun Q hQ => vM_cap0 g ⟨fun _ => hQ, fun q => absurd rfl q⟩⟩
theorem yDescendants (x y : Int32) (h : pA k m l el N) : pAns (fun Q => wK_descendants x y k Q) (fun Q => wM_descendants x y m Q) := by
  rcases h.slot x y with ⟨t, s, ht, hs, rfl, rfl, h2, h3⟩ | g
  · have hCp := h.2.2.2.2.1
    obtain ⟨c1, c2, c3⟩ := hCp.1 (8 * t + s) (by omega)
    obtain ⟨rk, hF, hr⟩ := hCp.2
    refine ⟨nI (qC (m 16) (m 19) (8 * t + s) 48), fun Q hQ => vK_place1 ht hs ⟨fun q => absurd q (pn_m1 (by omega)), fun _ => vG_holds (by omega) (fun _ => ⟨fun _ => vG_countBelow (hCp.E.F hF) (by omega) ?_, fun q => absurd q (by decide)⟩) (fun q => absurd (by rw [← c1]; exact q) h3)⟩, fun Q hQ => vM_cap1 ht hs h2 h3 ⟨fun q => absurd q (by decide), fun _ => ?_⟩⟩
    · rw [hCp.E.C hF _ _ (Nat.le_refl _)]; exact hQ
    · rw [pn_slot]; exact vM_countBelow hF hr (by omega) hQ
  · exact ⟨-1, fun Q hQ => vK_slot0 (P := fun a1 => wG_countBelow a1 k (fun a5 => (Q a5))) (R := Q) h g hQ, fun Q hQ => vM_cap0 g ⟨fun _ => hQ, fun q => absurd rfl q⟩⟩
/-- a place in a row, on both sides -/
theorem pA.row {o : Nat} {e x : Int32} {r : List Nat} (ho : mk_N o) (hL : pL k o r) (hR : pRow m e r) : pAns (fun Q => wN_at o x k Q) (fun Q => ((x < 0) → Q (-1)) ∧ ((¬ x < 0) → ((x ≤ 5) → wM_at e x m (fun a5 => (Q a5))) ∧ ((¬ x ≤ 5) → Q (-1)))) := by
  by_cases hx : ∃ j, ∃ hj : j < r.length, x = nI j
  · obtain ⟨j, hj, rfl⟩ := hx
    have h6 := hL.2.1
    have uq : ∀ i, (hi : i < r.length) → nI j = nI i → r[i] = r[j] := fun i hi e => by
      have : j = i := (nI_eq (by omega) (by omega)).mp e
      subst this; rfl
    refine ⟨nI r[j], fun Q hQ => vN_at ho hL (fun i hi e => by rw [uq i hi e]; exact hQ) (fun z => absurd rfl (z j hj)), fun Q hQ => ⟨fun z => absurd z (nI_pos (by omega)), fun _ => ⟨fun _ => vM_at hR hR.le6 (fun i hi e => by rw [uq i hi e]; exact hQ) (fun z => absurd rfl (z j hj)), fun z => absurd (nI_le (b := 5) (by omega) (by decide)) z⟩⟩⟩
  · exact ⟨-1, fun Q hQ => vN_at ho hL (fun j hj e => absurd ⟨j, hj, e⟩ hx) (fun _ => hQ), fun Q hQ => ⟨fun _ => hQ, fun _ => ⟨fun _ => vM_at hR hR.le6 (fun j hj e => absurd ⟨j, hj, e⟩ hx) (fun _ => hQ), fun _ => hQ⟩⟩⟩
theorem yInRow (x y : Int32) (h : pA k m l el N) : pAns (fun Q => wK_inRow x y k Q) (fun Q => wM_inRow x y m Q) := by
  by_cases h1 : x = -1
  · subst h1
    obtain ⟨a, g1, g2⟩ := pA.row (o := 15) (e := -1) (x := y) (by decide) h.2.2.2.2.2.2.2.1.1 h.2.2.2.2.2.2.2.2.2.1
    exact ⟨a, fun Q hQ => ⟨fun z => absurd rfl z, fun _ => g1 Q hQ⟩, fun Q hQ => ⟨fun z => absurd z (by decide), fun _ => ⟨fun z => absurd z (by decide), fun _ => g2 Q hQ⟩⟩⟩
  · by_cases hx : ∃ e, e < 4 ∧ x = nI e
    · obtain ⟨e, he, rfl⟩ := hx
      obtain ⟨a, g1, g2⟩ := pA.row (o := 16 + e) (e := nI e) (x := y) ⟨by omega, by omega⟩ (h.2.2.2.2.2.2.2.1.2 e he) (h.2.2.2.2.2.2.2.2.2.2.1 e he)
      refine ⟨a, fun Q hQ => ⟨fun _ => vK_in1 (n := 4) rfl he (by decide) ⟨fun z => absurd z (by decide), fun _ => ⟨vp_in_nI he (by decide), ?_⟩⟩, fun z => absurd z h1⟩, fun Q hQ => ⟨fun z => ?_, fun _ => ⟨fun z => absurd z (nI_nlt (a := 3) (by omega) (by decide)), fun _ => g2 Q hQ⟩⟩⟩
      · rw [nI_clamp (by omega)]; exact g1 Q hQ
      · exfalso
        rw [Int32.lt_iff_toInt_lt, nI_toInt (by omega), show (-1 : Int32).toInt = -1 from by decide] at z
        omega
    · refine ⟨-1, fun Q hQ => ⟨fun _ => vK_in0 (n := 4) rfl (by decide) (by decide) (fun j j1 j2 => hx ⟨j, j1, j2⟩) ⟨fun _ => hQ, fun z => absurd rfl z⟩, fun z => absurd z h1⟩, fun Q hQ => ⟨fun _ => hQ, fun z => ⟨fun _ => hQ, fun z2 => ?_⟩⟩⟩
      exfalso
      rcases pn_rng x 4 (by omega) with q | q | q
      · rw [Int32.lt_iff_toInt_lt] at q z
        have e1 : (0 : Int32).toInt = 0 := by decide
        have e2 : (-1 : Int32).toInt = -1 := by decide
        exact h1 (Int32.toInt_inj.mp (by omega))
      · rw [Int32.le_iff_toInt_le] at q
        rw [Int32.lt_iff_toInt_lt] at z2
        have e1 : (nI 4).toInt = 4 := by decide
        have e2 : (3 : Int32).toInt = 3 := by decide
        omega
      · exact hx q
theorem yPrinted (h : pA k m l el N) : pAns (fun Q => wK_printed k Q) (fun Q => wM_printed m Q) := by
  obtain ⟨n, n1, n2, n3, n4⟩ := h.2.2.2.2.2.2.1
  refine ⟨nI n, fun Q hQ => ?_, fun Q hQ => ?_⟩
  · show Q (k 32 1)
    rw [n2]; exact hQ
  · show Q (m 0 22)
    rw [n3]; exact hQ
theorem yPrint (x : Int32) (h : pA k m l el N) (hN : N < 2 ^ 30) : pAns (fun Q => wK_print x k Q) (fun Q => wM_print x m Q) := by
  obtain ⟨n, n1, n2, n3, n4⟩ := h.2.2.2.2.2.2.1
  have pr : ∀ Q : Int32 → Prop, wK_isBetween x 0 15 (fun a1 => (((a1 = 0) → wP_backFromLatest_22 x k Q) ∧ ((¬ a1 = 0) → (((k 32 1) ≤ x) → wP_backFromLatest_22 x k Q) ∧ ((¬ (k 32 1) ≤ x) → wP_backFromLatest_23 x 1 k Q)))) → wK_print x k Q := fun _ h => h
  have z22 : ∀ Q : Int32 → Prop, Q 0 → wP_backFromLatest_22 x k Q := fun Q hQ => ⟨fun _ => hQ, fun z => absurd rfl z⟩
  by_cases hx : ∃ j, j < 16 ∧ x = nI j
  · obtain ⟨j, hj, rfl⟩ := hx
    by_cases hjn : j < n
    · have e0 : nI n - 1 - nI j = nI (n - 1 - j) := by
        rw [show (1 : Int32) = nI 1 from rfl, pk_sub (by omega), pk_sub (by omega)]
      have e1 : nI (n - 1 - j) - nI (n - 1 - j) / 16 * 16 = nI ((n - 1 - j) % 16) := by
        rw [show (16 : Int32) = nI 16 from rfl, pk_rem (by omega) (by omega) (by omega)]
      have e2 : nI (n - 1 - j) &&& 15 = nI ((n - 1 - j) % 16) := pk_andN (by omega) 4 (by decide)
      have h16 : (n - 1 - j) % 16 < 16 := Nat.mod_lt _ (by decide)
      refine ⟨m 20 ((n - 1 - j) % 16), fun Q hQ => pr Q (vK_in1 (n := 16) rfl hj (by decide) ⟨fun z => absurd z (by decide), fun _ => ⟨fun z => ?_, fun _ => ⟨fun z => absurd z (by decide), fun _ => ?_⟩⟩⟩), fun Q hQ => ⟨fun z => absurd z (nI_pos (by omega)), fun _ => ⟨fun z => absurd z (nI_nlt (a := 15) (by omega) (by decide)), fun _ => ⟨fun _ => ?_, fun z => ?_⟩⟩⟩⟩
      · rw [n2] at z
        exact absurd z (nI_ge hjn (by omega))
      · rw [n2, e0, e1, nI_clamp (by omega), n4 _ h16]
        exact ⟨vp_in_nI h16 (by decide), hQ⟩
      · rw [n3, e0, e2, nI_clamp (by omega)]
        exact ⟨vp_in_nI h16 (by decide), hQ⟩
      · rw [n3] at z
        exact absurd (nI_lt hjn (by omega)) z
    · refine ⟨0, fun Q hQ => pr Q (vK_in1 (n := 16) rfl hj (by decide) ⟨fun z => absurd z (by decide), fun _ => ⟨fun _ => z22 _ hQ, fun z => ?_⟩⟩), fun Q hQ => ⟨fun _ => hQ, fun _ => ⟨fun _ => hQ, fun _ => ⟨fun z => ?_, fun _ => hQ⟩⟩⟩⟩
      · rw [n2] at z
        exact absurd (nI_le (by omega) (by omega)) z
      · rw [n3] at z
        exact absurd z (nI_nlt (by omega) (by omega))
  · refine ⟨0, fun Q hQ => pr Q (vK_in0 (n := 16) rfl (by decide) (by decide) (fun j j1 j2 => hx ⟨j, j1, j2⟩) ⟨fun _ => z22 _ hQ, fun z => absurd rfl z⟩), fun Q hQ => ⟨fun _ => hQ, fun z => ⟨fun _ => hQ, fun z2 => ?_⟩⟩⟩
    exfalso
    rcases pn_rng x 16 (by omega) with q | q | q
    · exact z q
    · rw [Int32.le_iff_toInt_le] at q
      rw [Int32.lt_iff_toInt_lt] at z2
      have e1 : (nI 16).toInt = 16 := by decide
      have e2 : (15 : Int32).toInt = 15 := by decide
      omega
    · exact hx q
end Look

/-! one instruction, on both sides -/
def pI (k m : mj_St) (t N : Nat) (w : Int32) : Prop := ∃ (f : Int32) (k' : mj_St), (∀ Q : Int32 → mj_St → Prop, Q f k' → wK_perform (nI t) w k Q) ∧ (∀ Q : Int32 → Prop, Q f → wM_faultOf (nI t) (w &&& 31) m Q) ∧
  (((f = 2 ∨ f = 3 ∨ f = 4 ∨ f = 5) ∧ k' = k) ∨ (f = 0 ∧ ∃ (m' : mj_St) (tl' : List Nat) (el' : Nat → List Nat), (∀ Q : mj_St → Prop, Q m' → wM_act (nI t) (w &&& 31) m Q) ∧ pS k' m' t tl' el' el' (N + 2) ∧ pCl m' ∧ m' 4 = m 4 ∧ k' 0 = k 0 ∧ (∀ j, j ≠ 11 → j ≠ 22 → j ≠ 28 → m' 0 j = m 0 j) ∧ (∀ Q : Int32 → Prop, Q (m' 0 28) → wK_counterAfter (3 + t) w k' Q)))
def pH (k m : mj_St) (t : Nat) (tl : List Nat) (el : Nat → List Nat) (N : Nat) (w : Int32) : Prop := pS k m t tl el el N ∧ pCl m ∧ t < 6 ∧ m 2 t = 1 ∧ m 0 24 = fdA w ∧ m 0 25 = fdB w ∧ m 0 26 = fdC w ∧ m 0 27 = fdN w ∧ m 0 28 = m 4 t + 1 ∧ N < 2 ^ 29
/-- an instruction that doesn't go, done -/
theorem pI.done {k m k' m' : mj_St} {t N : Nat} {w : Int32} {tl' : List Nat} {el' : Nat → List Nat} (ht : t < 6) (h28 : m 0 28 = m 4 t + 1) (n10 : ¬ w &&& 31 = 10) (n11 : ¬ w &&& 31 = 11) (n12 : ¬ w &&& 31 = 12) (hK : ∀ Q : Int32 → mj_St → Prop, Q 0 k' → wK_perform (nI t) w k Q) (hF : ∀ Q : Int32 → Prop, Q 0 → wM_faultOf (nI t) (w &&& 31) m Q) (hM : ∀ Q : mj_St → Prop, Q m' → wM_act (nI t) (w &&& 31) m Q) (hS : pS k' m' t tl' el' el' (N + 2)) (hC : pCl m') (h4 : m' 4 = m 4) (h0 : k' 0 = k 0) (hj : ∀ j, j ≠ 11 → j ≠ 22 → m' 0 j = m 0 j) : pI k m t N w := by
  refine ⟨0, k', hK, hF, Or.inr ⟨rfl, m', tl', el', hM, hS, hC, h4, h0, fun j h1 h2 _ => hj j h1 h2, fun Q hQ => vK_after ht n10 n11 n12 ?_⟩⟩
  have e : k' (3 + t) 3 = m' 4 t := (hS.2.2.2.1 t ht).2.1
  rw [e, h4, ← h28, ← hj 28 (by omega) (by omega)]
  exact hQ
theorem pI.fault {k m : mj_St} {t N : Nat} {w f : Int32} (hf : f = 2 ∨ f = 3 ∨ f = 4 ∨ f = 5) (hK : ∀ Q : Int32 → mj_St → Prop, Q f k → wK_perform (nI t) w k Q) (hF : ∀ Q : Int32 → Prop, Q f → wM_faultOf (nI t) (w &&& 31) m Q) : pI k m t N w := ⟨f, k, hK, hF, Or.inl ⟨hf, rfl⟩⟩
/-- the class's compute, at one of its cases -/
theorem vK_compute {k : mj_St} {t a b c : Nat} {w : Int32} {Q : Int32 → mj_St → Prop} (ht : t < 6) (ha : a < 8) (hb : b < 8) (hc : c < 8) (eA : fdA w = nI a) (eB : fdB w = nI b) (eC : fdC w = nI c) {o : Int32} (eO : w &&& 31 = o)
    (h : (o = 0 → Q 0 (mj_up k (3 + t) 1 6)) ∧ (o = 1 → Q 0 (mj_up k (3 + t + 6) a (fdN w))) ∧ (o = 2 → Q 0 (mj_up k (3 + t + 6) a (k (3 + t + 6) b))) ∧ (o = 3 → Q 0 (mj_up k (3 + t + 6) a (k (3 + t + 6) b + k (3 + t + 6) c))) ∧ (o = 4 → Q 0 (mj_up k (3 + t + 6) a (k (3 + t + 6) b - k (3 + t + 6) c))) ∧ (o = 5 → Q 0 (mj_up k (3 + t + 6) a (k (3 + t + 6) b * k (3 + t + 6) c))) ∧ (o = 6 → Q 0 (mj_up k (3 + t + 6) a (k (3 + t + 6) b &&& k (3 + t + 6) c))) ∧ (o = 7 → Q 0 (mj_up k (3 + t + 6) a (k (3 + t + 6) b ^^^ k (3 + t + 6) c))) ∧ ((o = 10 ∨ o = 11 ∨ o = 12 ∨ o = 13) → Q 0 k) ∧ (¬ (o = 0 ∨ o = 1 ∨ o = 2 ∨ o = 3 ∨ o = 4 ∨ o = 5 ∨ o = 6 ∨ o = 7 ∨ o = 10 ∨ o = 11 ∨ o = 12 ∨ o = 13) → Q 3 k)) : wK_compute (3 + t) w k Q := by
  obtain ⟨h0, h1, h2, h3, h4, h5, h6, h7, h8, h9⟩ := h
  have eA' : (w >>> (5 &&& 31)) &&& 7 = nI a := eA
  have eB' : (w >>> (8 &&& 31)) &&& 7 = nI b := eB
  have eC' : (w >>> (11 &&& 31)) &&& 7 = nI c := eC
  have hva : vp_in (nI a) 8 := vp_in_nI ha (by decide)
  unfold wK_compute wK_fieldA wK_fieldB wK_fieldC wK_opOf wK_numberOf
  rw [eA', eB', eC', eO]
  refine ⟨⟨by omega, by omega⟩, vp_in_nI hb (by decide), ?_⟩
  rw [nI_clamp (by omega)]
  rintro a4 rfl
  refine ⟨vp_in_nI hc (by decide), ?_⟩
  rw [nI_clamp (by omega), nI_clamp (by omega)]
  rintro a6 rfl
  refine ⟨fun z => ?_, fun z0 => ⟨fun z => ⟨hva, ?_⟩, fun z1 => ⟨fun z => ⟨hva, ?_⟩, fun z2 => ⟨fun z => ⟨hva, ?_⟩, fun z3 => ⟨fun z => ⟨hva, ?_⟩, fun z4 => ⟨fun z => ⟨hva, ?_⟩, fun z5 => ⟨fun z => ⟨hva, ?_⟩, fun z6 => ⟨fun z => ⟨hva, ?_⟩, fun z7 => ⟨fun z => h9 (by rw [z]; decide), fun z8 => ⟨fun z => h9 (by rw [z]; decide), fun z9 => ⟨fun z => h8 (Or.inl z), fun z10 => ⟨fun z => h8 (Or.inr (Or.inl z)), fun z11 => ⟨fun z => h8 (Or.inr (Or.inr (Or.inl z))), fun z12 => ⟨fun z => h8 (Or.inr (Or.inr (Or.inr z))), fun z13 => h9 ?_⟩⟩⟩⟩⟩⟩⟩⟩⟩⟩⟩⟩⟩⟩
  · rintro k9 rfl; exact h0 z
  · rintro k9 rfl; exact h1 z
  · rintro k9 rfl; exact h2 z
  · rintro k9 rfl; exact h3 z
  · rintro k9 rfl; exact h4 z
  · rintro k9 rfl; exact h5 z
  · rintro k9 rfl; exact h6 z
  · rintro k9 rfl; exact h7 z
  · rintro (q | q | q | q | q | q | q | q | q | q | q | q)
    · exact z0 q
    · exact z1 q
    · exact z2 q
    · exact z3 q
    · exact z4 q
    · exact z5 q
    · exact z6 q
    · exact z7 q
    · exact z10 q
    · exact z11 q
    · exact z12 q
    · exact z13 q
/-- HALT -/
theorem xI_0 {k m : mj_St} {t : Nat} {tl : List Nat} {el : Nat → List Nat} {N : Nat} {w : Int32} (h : pH k m t tl el N w) (e : w &&& 31 = 0) : pI k m t N w := by
  obtain ⟨hS, hC, ht, h2, hA, hB, hCc, hN, h28, hNb⟩ := h
  obtain ⟨a, ha, ea⟩ := fdA_of w
  obtain ⟨b, hb, eb⟩ := fdB_of w
  obtain ⟨c, hc, ec⟩ := fdC_of w
  refine pI.done (k' := mj_up k (3 + t) 1 6) (m' := mj_up m 2 t 6) (tl' := tl) (el' := el) ht h28 (by rw [e]; decide) (by rw [e]; decide) (by rw [e]; decide) (fun Q hQ => vK_perf_c ht (o := 0) (by omega) e (by omega) (vK_compute ht ha hb hc ea eb ec e (by simp; exact hQ))) (fun Q hQ => by rw [e]; exact vM_fault_0 (Or.inl rfl) hQ) (fun Q hQ => by rw [e]; exact vM_act_0 ht ha hb hc (hA.trans ea) (hB.trans eb) (hCc.trans ec) hQ) ?_ ?_ (pu_ne _ _ _ (by omega)) (pu_ne _ _ _ (by omega)) (fun j _ _ => by rw [pu_ne _ _ _ (by omega)])
  · have hup : ∀ v, v ≠ t → mj_up m 2 t 6 2 v = m 2 v := fun v hv => by rw [pu_eq, pd_ne _ _ hv]
    have hut : mj_up m 2 t 6 2 t = 6 := by rw [pu_eq, pd_eq]
    refine (hS.turn (u := t) (k' := mj_up k (3 + t) 1 6) (m' := mj_up m 2 t 6) (er' := el) ht (fun i hi => pu_ne _ _ _ hi) (fun i i2 _ => pu_ne _ _ _ i2) (fun v hv => ⟨hup v hv, by rw [pu_ne _ _ _ (by omega)]⟩) ?_ (by rw [hut]; decide) (by rw [hut]; decide) ?_ ?_).le (by omega)
    · obtain ⟨b1, b2, b3, b4, b5, b6, b7, b8, b9, b10⟩ := hS.2.2.2.1 t ht
      unfold pT1
      rw [hut, pu_eq, pu_ne (i := 2) _ _ _ (show (3 : Nat) ≠ 2 by omega), pu_ne (i := 2) _ _ _ (show (4 : Nat) ≠ 2 by omega), pu_ne (i := 2) _ _ _ (show (5 : Nat) ≠ 2 by omega), pu_ne (i := 2) _ _ _ (show (6 : Nat) ≠ 2 by omega), pu_ne (i := 2) _ _ _ (show (7 : Nat) ≠ 2 by omega), pd_eq, pd_ne _ _ (show (3 : Nat) ≠ 1 by omega), pd_ne _ _ (show (4 : Nat) ≠ 1 by omega), pd_ne _ _ (show (5 : Nat) ≠ 1 by omega), pd_ne _ _ (show (2 : Nat) ≠ 1 by omega), pd_ne _ _ (show (6 : Nat) ≠ 1 by omega)]
      exact ⟨rfl, b2, b3, b4, b5, fun q => absurd q (by decide), fun _ => b7 (by rw [h2]; decide), fun _ => b8 (by rw [h2]; decide), fun q => absurd q (by decide), fun q => absurd q (by decide)⟩
    · exact hS.2.2.2.2.2.2.2.2.2.1.own (by rw [hut]; decide) (fun v hv => ⟨hup v hv, by rw [pu_ne _ _ _ (by omega)]⟩)
    · exact hS.2.2.2.2.2.2.2.2.2.2.other (u := t) (by rw [h2]; decide) (by rw [h2]; decide) (by rw [hut]; decide) (by rw [hut]; decide) (fun v hv => ⟨hup v hv, by rw [pu_ne _ _ _ (by omega)], by rw [pu_ne _ _ _ (by omega)]⟩)
  · refine ⟨fun u hu hz => ?_, fun u v hu hv hz1 hz2 h1 h2' => ?_⟩
    · rw [pu_ne (i := 2) _ _ _ (show (7 : Nat) ≠ 2 by omega)]
      have hz' : ¬ m 2 u = 0 := by
        by_cases q : u = t
        · rw [q, h2]; decide
        · rw [pu_eq, pd_ne _ _ q] at hz; exact hz
      rcases hC.1 u hu hz' with g | ⟨x, g1, g2, g3⟩
      · exact Or.inl g
      · refine Or.inr ⟨x, g1, g2, ?_⟩
        rw [pu_eq, pd_ne _ _ (fun q => by rw [q, h2] at g3; exact absurd g3 (by decide))]
        exact g3
    · have nz : ∀ x, ¬ mj_up m 2 t 6 2 x = 0 → ¬ m 2 x = 0 := by
        intro x hx
        by_cases q : x = t
        · rw [q, h2]; decide
        · rw [pu_eq, pd_ne _ _ q] at hx; exact hx
      rw [pu_ne (i := 2) _ _ _ (show (7 : Nat) ≠ 2 by omega)] at h1 h2'
      exact hC.2 u v hu hv (nz u hz1) (nz v hz2) h1 h2'
/-- the arithmetic of registers -/
theorem xI_reg {k m : mj_St} {t : Nat} {tl : List Nat} {el : Nat → List Nat} {N : Nat} {w : Int32} (h : pH k m t tl el N w) {o : Nat} (e : w &&& 31 = nI o) (ho : 1 ≤ o ∧ o ≤ 7) : pI k m t N w := by
  obtain ⟨hS, hC, ht, h2, hA, hB, hCc, hN, h28, hNb⟩ := h
  obtain ⟨a, ha, ea⟩ := fdA_of w
  obtain ⟨b, hb, eb⟩ := fdB_of w
  obtain ⟨c, hc, ec⟩ := fdC_of w
  have rb : m 8 (8 * t + b) = k (3 + t + 6) b := (hS.2.2.1 t b ht hb).symm
  have rc : m 8 (8 * t + c) = k (3 + t + 6) c := (hS.2.2.1 t c ht hc).symm
  have go : ∀ v : Int32, (∀ Q : Int32 → mj_St → Prop, Q 0 (mj_up k (3 + t + 6) a v) → wK_compute (3 + t) w k Q) → (∀ Q : mj_St → Prop, Q (mj_up m 8 (8 * t + a) v) → wM_act (nI t) (w &&& 31) m Q) → pI k m t N w := by
    intro v hK hM
    refine pI.done (tl' := tl) (el' := el) ht h28 (by rw [e]; exact fun q => absurd ((nI_eq (b := 10) (by omega) (by omega)).mp q) (by omega)) (by rw [e]; exact fun q => absurd ((nI_eq (b := 11) (by omega) (by omega)).mp q) (by omega)) (by rw [e]; exact fun q => absurd ((nI_eq (b := 12) (by omega) (by omega)).mp q) (by omega)) (fun Q hQ => vK_perf_c ht (o := o) (by omega) e (by omega) (hK Q hQ)) (fun Q hQ => ?_) hM ((hS.reg ht ha).le (by omega)) (hC.of (pu_ne _ _ _ (by omega)) (pu_ne _ _ _ (by omega))) (pu_ne _ _ _ (by omega)) (pu_ne _ _ _ (by omega)) (fun j _ _ => by rw [pu_ne _ _ _ (by omega)])
    rw [e]
    have : o = 1 ∨ o = 2 ∨ o = 3 ∨ o = 4 ∨ o = 5 ∨ o = 6 ∨ o = 7 := by omega
    rcases this with rfl | rfl | rfl | rfl | rfl | rfl | rfl <;> exact vM_fault_0 (by simp [nI]) hQ
  have : o = 1 ∨ o = 2 ∨ o = 3 ∨ o = 4 ∨ o = 5 ∨ o = 6 ∨ o = 7 := by omega
  rcases this with rfl | rfl | rfl | rfl | rfl | rfl | rfl
  · exact go (fdN w) (fun Q hQ => vK_compute (o := 1) ht ha hb hc ea eb ec e (by simp; exact hQ)) (fun Q hQ => by rw [e]; exact vM_act_1 ht ha hb hc (hA.trans ea) (hB.trans eb) (hCc.trans ec) (by rw [hN]; exact hQ))
  · exact go (k (3 + t + 6) b) (fun Q hQ => vK_compute (o := 2) ht ha hb hc ea eb ec e (by simp; exact hQ)) (fun Q hQ => by rw [e]; exact vM_act_2 ht ha hb hc (hA.trans ea) (hB.trans eb) (hCc.trans ec) (by rw [rb]; exact hQ))
  · exact go (k (3 + t + 6) b + k (3 + t + 6) c) (fun Q hQ => vK_compute (o := 3) ht ha hb hc ea eb ec e (by simp; exact hQ)) (fun Q hQ => by rw [e]; exact vM_act_3 ht ha hb hc (hA.trans ea) (hB.trans eb) (hCc.trans ec) (by rw [rb, rc]; exact hQ))
  · exact go (k (3 + t + 6) b - k (3 + t + 6) c) (fun Q hQ => vK_compute (o := 4) ht ha hb hc ea eb ec e (by simp; exact hQ)) (fun Q hQ => by rw [e]; exact vM_act_4 ht ha hb hc (hA.trans ea) (hB.trans eb) (hCc.trans ec) (by rw [rb, rc]; exact hQ))
  · exact go (k (3 + t + 6) b * k (3 + t + 6) c) (fun Q hQ => vK_compute (o := 5) ht ha hb hc ea eb ec e (by simp; exact hQ)) (fun Q hQ => by rw [e]; exact vM_act_5 ht ha hb hc (hA.trans ea) (hB.trans eb) (hCc.trans ec) (by rw [rb, rc]; exact hQ))
  · exact go (k (3 + t + 6) b &&& k (3 + t + 6) c) (fun Q hQ => vK_compute (o := 6) ht ha hb hc ea eb ec e (by simp; exact hQ)) (fun Q hQ => by rw [e]; exact vM_act_6 ht ha hb hc (hA.trans ea) (hB.trans eb) (hCc.trans ec) (by rw [rb, rc]; exact hQ))
  · exact go (k (3 + t + 6) b ^^^ k (3 + t + 6) c) (fun Q hQ => vK_compute (o := 7) ht ha hb hc ea eb ec e (by simp; exact hQ)) (fun Q hQ => by rw [e]; exact vM_act_7 ht ha hb hc (hA.trans ea) (hB.trans eb) (hCc.trans ec) (by rw [rb, rc]; exact hQ))
/-- no such instruction -/
theorem xI_bad {k m : mj_St} {t : Nat} {tl : List Nat} {el : Nat → List Nat} {N : Nat} {w : Int32} (h : pH k m t tl el N w) {o : Nat} (e : w &&& 31 = nI o) (ho : 23 ≤ o ∧ o < 32) : pI k m t N w := by
  obtain ⟨hS, hC, ht, h2, hA, hB, hCc, hN, h28, hNb⟩ := h
  obtain ⟨a, ha, ea⟩ := fdA_of w
  obtain ⟨b, hb, eb⟩ := fdB_of w
  obtain ⟨c, hc, ec⟩ := fdC_of w
  have ne : ∀ x : Nat, x < 23 → ¬ nI o = nI x := fun x hx q => absurd ((nI_eq (by omega) (by omega)).mp q) (by omega)
  refine pI.fault (f := 3) (Or.inr (Or.inl rfl)) (fun Q hQ => vK_perf_c ht (o := o) (by omega) e (by omega) (vK_compute ht ha hb hc ea eb ec e ⟨fun q => absurd q (ne 0 (by omega)), fun q => absurd q (ne 1 (by omega)), fun q => absurd q (ne 2 (by omega)), fun q => absurd q (ne 3 (by omega)), fun q => absurd q (ne 4 (by omega)), fun q => absurd q (ne 5 (by omega)), fun q => absurd q (ne 6 (by omega)), fun q => absurd q (ne 7 (by omega)), fun q => ?_, fun _ => hQ⟩)) (fun Q hQ => vM_fault_3 (by rw [e]; exact nI_ge (b := o) (a := 22) (by omega) (by omega)) hQ)
  rcases q with q | q | q | q
  · exact absurd q (ne 10 (by omega))
  · exact absurd q (ne 11 (by omega))
  · exact absurd q (ne 12 (by omega))
  · exact absurd q (ne 13 (by omega))

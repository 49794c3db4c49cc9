/-- PRINT -/
theorem xI_14 {k m : mj_St} {t : Nat} {tl : List Nat} {el : Nat → List Nat} {N : Nat} {w : Int32} (h : pH k m t tl el N w) (e : w &&& 31 = 14) : pI k m t N w := by
  obtain ⟨hS, hC, ht, h2, hA, hB, hCc, hN, h28, hNb⟩ := h
  obtain ⟨a, ha, ea⟩ := fdA_of w
  obtain ⟨b, hb, eb⟩ := fdB_of w
  obtain ⟨c, hc, ec⟩ := fdC_of w
  have ea' : (w >>> (5 &&& 31)) &&& 7 = nI a := ea
  have eb' : (w >>> (8 &&& 31)) &&& 7 = nI b := eb
  have hvt : vp_in (nI t) 6 := vp_in_nI ht (by decide)
  have hp : 8 * t + a < 48 := by omega
  obtain ⟨c1, c2, c3⟩ := hS.2.2.2.2.1.1 _ hp
  have rb : k (3 + t + 6) b = m 8 (8 * t + b) := hS.2.2.1 t b ht hb
  have hK : ∀ Q : Int32 → mj_St → Prop, (k 27 (8 * t + a) = 2 → (k 29 (8 * t + a) &&& 1) = 1 → wP_append (k (3 + t + 6) b) k (fun k7 => Q 0 k7)) → ((¬ k 27 (8 * t + a) = 2 ∨ ¬ (k 29 (8 * t + a) &&& 1) = 1) → Q 4 k) → wK_perform (nI t) w k Q := by
    intro Q g1 g2
    refine vK_perf_14 e ?_
    unfold wK_printBy wK_fieldA wK_slotPlace wK_fieldB
    rw [ea', eb']
    dsimp only
    rw [pn_slot]
    refine vG_allows hp (fun z1 z2 => ⟨fun _ => ⟨hvt, ?_⟩, fun y => absurd y (by decide)⟩) (fun z => ⟨fun y => absurd rfl y, fun _ => g2 z⟩)
    rw [nI_clamp (by omega), nI_clamp (by omega)]
    exact ⟨vp_in_nI hb (by decide), g1 z1 z2⟩
  by_cases hok : m 16 (8 * t + a) = 2 ∧ (m 18 (8 * t + a) &&& 1) = 1
  · have h16 : ¬ m 16 (8 * t + a) = 0 := by rw [hok.1]; decide
    obtain ⟨d1, d2, d3, d4, d5⟩ := c3 h16
    obtain ⟨k', m', f1, f2, f3, f4, f5, f6⟩ := xP_append (v := k (3 + t + 6) b) hS (by omega)
    exact pI.done (tl' := tl) (el' := el) ht h28 (by rw [e]; decide) (by rw [e]; decide) (by rw [e]; decide) (fun Q hQ => hK Q (fun _ _ => f5 _ hQ) (fun z => by
      rw [c1, d2] at z
      rcases z with z | z
      · exact absurd hok.1 z
      · exact absurd hok.2 z)) (fun Q hQ => by
      rw [e]
      exact vM_fault_14 (vM_lacks ht ha (hA.trans ea) (fun z => ⟨fun _ => by
        rcases z with z | z | z
        · exact absurd z h16
        · exact absurd hok.1 z.2
        · exact absurd hok.2 z, fun y => absurd y (by decide)⟩) (fun _ _ _ => ⟨fun y => absurd rfl y, fun _ => hQ⟩))) (fun Q hQ => by rw [e]; exact vM_act_14 ht ha hb hc (hA.trans ea) (hB.trans eb) (hCc.trans ec) (by rw [← rb]; exact f6 Q hQ)) (f1.le (by omega)) (hC.of (f3 2 (by omega) (by omega)) (f3 7 (by omega) (by omega))) (f3 4 (by omega) (by omega)) (f2 0 (by omega) (by omega)) (fun j _ h22 => f4 j h22)
  · refine pI.fault (f := 4) (Or.inr (Or.inr (Or.inl rfl))) (fun Q hQ => hK Q (fun z1 z2 => absurd ?_ hok) (fun _ => hQ)) (fun Q hQ => ?_)
    · have h16 : ¬ m 16 (8 * t + a) = 0 := by rw [← c1, z1]; decide
      obtain ⟨d1, d2, d3, d4, d5⟩ := c3 h16
      rw [c1] at z1
      rw [d2] at z2
      exact ⟨z1, z2⟩
    · rw [e]
      exact vM_fault_14 (vM_lacks ht ha (hA.trans ea) (fun _ => ⟨fun _ => hQ, fun y => absurd y (by decide)⟩) (fun z1 z2 z3 => absurd ⟨z2 (by decide), z3⟩ hok))
/-- MINT -/
theorem xI_19 {k m : mj_St} {t : Nat} {tl : List Nat} {el : Nat → List Nat} {N : Nat} {w : Int32} (h : pH k m t tl el N w) (e : w &&& 31 = 19) : pI k m t N w := by
  obtain ⟨hS, hC, ht, h2, hA, hB, hCc, hN, h28, hNb⟩ := h
  obtain ⟨a, ha, ea⟩ := fdA_of w
  obtain ⟨b, hb, eb⟩ := fdB_of w
  obtain ⟨c, hc, ec⟩ := fdC_of w
  have ea' : (w >>> (5 &&& 31)) &&& 7 = nI a := ea
  have eb' : (w >>> (8 &&& 31)) &&& 7 = nI b := eb
  have hp : 8 * t + a < 48 := by omega
  have hq : 8 * t + b < 48 := by omega
  have c1 := (hS.2.2.2.2.1.1 _ hp).1
  have c2 := (hS.2.2.2.2.1.1 _ hq).1
  have hK : ∀ Q : Int32 → mj_St → Prop, (k 27 (8 * t + a) = 0 → Q 4 k) → (¬ k 27 (8 * t + a) = 0 → ¬ k 27 (8 * t + b) = 0 → Q 5 k) → (¬ k 27 (8 * t + a) = 0 → k 27 (8 * t + b) = 0 → Q 0 (gFill k (8 * t + b) (k 27 (8 * t + a)) (k 28 (8 * t + a)) (k 29 (8 * t + a) &&& fdN w) (nI (8 * t + a)))) → wK_perform (nI t) w k Q := by
    intro Q g1 g2 g3
    refine vK_perf_19 e ?_
    unfold wK_mintInto wK_fieldA wK_slotPlace wK_fieldB wK_numberOf
    rw [ea', eb']
    dsimp only
    rw [pn_slot, pn_slot]
    exact vG_holds hp (fun z1 => ⟨fun _ => vG_holds hq (fun z2 => ⟨fun y => absurd y (by decide), fun _ => g2 z1 z2⟩) (fun z2 => ⟨fun _ => vG_derive hq hp (g3 z1 z2), fun y => absurd rfl y⟩), fun y => absurd y (by decide)⟩) (fun z1 => ⟨fun y => absurd rfl y, fun _ => g1 z1⟩)
  have hF : ∀ Q : Int32 → Prop, (m 16 (8 * t + a) = 0 → Q 4) → (¬ m 16 (8 * t + a) = 0 → ¬ m 16 (8 * t + b) = 0 → Q 5) → (¬ m 16 (8 * t + a) = 0 → m 16 (8 * t + b) = 0 → Q 0) → wM_faultOf (nI t) (w &&& 31) m Q := by
    intro Q g1 g2 g3
    rw [e]
    refine vM_fault_19 ?_
    rw [hB, eb, pn_slot, nI_clamp (by omega)]
    have x0 : ∀ x : Int32, (x &&& 0) = 0 := fun x => Int32.and_zero
    refine vM_lacks ht ha (hA.trans ea) (fun z => ⟨fun y => absurd y (by decide), fun _ => ?_⟩) (fun z1 _ _ => ⟨fun _ => ⟨vp_in_nI hq (by decide), fun y => g3 z1 y, fun y => g2 z1 y⟩, fun y => absurd rfl y⟩)
    rcases z with z | z | z
    · exact g1 z
    · exact absurd z.1 (by decide)
    · exact absurd (x0 _) z
  by_cases z1 : m 16 (8 * t + a) = 0
  · exact pI.fault (f := 4) (Or.inr (Or.inr (Or.inl rfl))) (fun Q hQ => hK Q (fun _ => hQ) (fun y => absurd (c1.trans z1) y) (fun y => absurd (c1.trans z1) y)) (fun Q hQ => hF Q (fun _ => hQ) (fun y => absurd z1 y) (fun y => absurd z1 y))
  · have z1' : ¬ k 27 (8 * t + a) = 0 := by rw [c1]; exact z1
    by_cases z2 : m 16 (8 * t + b) = 0
    · have z2' : k 27 (8 * t + b) = 0 := c2.trans z2
      refine pI.done (tl' := tl) (el' := el) ht h28 (by rw [e]; decide) (by rw [e]; decide) (by rw [e]; decide) (fun Q hQ => hK Q (fun y => absurd y z1') (fun _ y => absurd z2' y) (fun _ _ => hQ)) (fun Q hQ => hF Q (fun y => absurd y z1) (fun _ y => absurd z2 y) (fun _ _ => hQ)) (fun Q hQ => by rw [e]; exact vM_act_19 ht ha hb hc (hA.trans ea) (hB.trans eb) (hCc.trans ec) (vM_place hq hp (by rw [hN]; exact hQ))) ((hS.derive ht hb (by rw [h2]; decide) hp z2 z1).le (by omega)) (hC.of (gPlace_ne (by omega)) (gPlace_ne (by omega))) (gPlace_ne (by omega)) (gFill_ne (by omega)) (fun j _ _ => by rw [gPlace_ne (by omega)])
    · have z2' : ¬ k 27 (8 * t + b) = 0 := by rw [c2]; exact z2
      exact pI.fault (f := 5) (Or.inr (Or.inr (Or.inr rfl))) (fun Q hQ => hK Q (fun y => absurd y z1') (fun _ _ => hQ) (fun _ y => absurd y z2')) (fun Q hQ => hF Q (fun y => absurd y z1) (fun _ _ => hQ) (fun _ y => absurd y z2))
/-- the removal of a capability, REVOKE -/
theorem xI_20 {k m : mj_St} {t : Nat} {tl : List Nat} {el : Nat → List Nat} {N : Nat} {w : Int32} (h : pH k m t tl el N w) (e : w &&& 31 = 20 ∨ w &&& 31 = 21) : pI k m t N w := by
  obtain ⟨hS, hC, ht, h2, hA, hB, hCc, hN, h28, hNb⟩ := h
  obtain ⟨a, ha, ea⟩ := fdA_of w
  obtain ⟨b, hb, eb⟩ := fdB_of w
  obtain ⟨c, hc, ec⟩ := fdC_of w
  have ea' : (w >>> (5 &&& 31)) &&& 7 = nI a := ea
  have hp : 8 * t + a < 48 := by omega
  have c1 := (hS.2.2.2.2.1.1 _ hp).1
  have n10 : ¬ w &&& 31 = 10 := by rcases e with q | q <;> rw [q] <;> decide
  have n11 : ¬ w &&& 31 = 11 := by rcases e with q | q <;> rw [q] <;> decide
  have n12 : ¬ w &&& 31 = 12 := by rcases e with q | q <;> rw [q] <;> decide
  have hFr := hS.2.2.2.2.2.1
  have hK : ∀ Q : Int32 → mj_St → Prop, (k 27 (8 * t + a) = 0 → Q 4 k) → (¬ k 27 (8 * t + a) = 0 → (w &&& 31 = 20 → wG_removeAt (nI (8 * t + a)) k (fun k8 => Q 0 k8)) ∧ (¬ w &&& 31 = 20 → wG_revokeBelow (nI (8 * t + a)) k (fun k8 => Q 0 k8))) → wK_perform (nI t) w k Q := by
    intro Q g1 g2
    refine vK_perf_20 e ?_
    unfold wK_takeBack wK_fieldA wK_slotPlace wK_opOf
    rw [ea']
    dsimp only
    rw [pn_slot]
    exact vG_holds hp (fun z1 => ⟨fun _ => ⟨(g2 z1).2, (g2 z1).1⟩, fun y => absurd y (by decide)⟩) (fun z1 => ⟨fun y => absurd rfl y, fun _ => g1 z1⟩)
  have hF : ∀ Q : Int32 → Prop, (m 16 (8 * t + a) = 0 → Q 4) → (¬ m 16 (8 * t + a) = 0 → Q 0) → wM_faultOf (nI t) (w &&& 31) m Q := by
    intro Q g1 g2
    have x0 : ∀ x : Int32, (x &&& 0) = 0 := fun x => Int32.and_zero
    refine vM_fault_20 e (vM_lacks ht ha (hA.trans ea) (fun z => ⟨fun y => absurd y (by decide), fun _ => ?_⟩) (fun z1 _ _ => ⟨fun _ => g2 z1, fun y => absurd rfl y⟩))
    rcases z with z | z | z
    · exact g1 z
    · exact absurd z.1 (by decide)
    · exact absurd (x0 _) z
  by_cases z1 : m 16 (8 * t + a) = 0
  · exact pI.fault (f := 4) (Or.inr (Or.inr (Or.inl rfl))) (fun Q hQ => hK Q (fun _ => hQ) (fun y => absurd (c1.trans z1) y)) (fun Q hQ => hF Q (fun _ => hQ) (fun y => absurd z1 y))
  · have z1' : ¬ k 27 (8 * t + a) = 0 := by rw [c1]; exact z1
    rcases e with q | q
    · obtain ⟨k', m', f1, f2, f3, f4, f5, f6⟩ := xRemove hS.2.2.2.2.1 hp z1
      have fr : pFr m' := by
        intro u s hu hs hz
        rw [f2 2 (by omega) (by omega)] at hz
        rw [f3]
        by_cases y : 8 * u + s = 8 * t + a
        · rw [y, pd_eq]
        · rw [pd_ne _ _ y]; exact hFr u s hu hs hz
      exact pI.done (tl' := tl) (el' := el) ht h28 n10 n11 n12 (fun Q hQ => hK Q (fun y => absurd y z1') (fun _ => ⟨fun _ => f5 _ hQ, fun y => absurd q y⟩)) (fun Q hQ => hF Q (fun y => absurd y z1) (fun _ => hQ)) (fun Q hQ => by rw [q]; exact vM_act_20 ht ha hb hc (hA.trans ea) (hB.trans eb) (hCc.trans ec) (f6 Q hQ)) ((hS.cap (fun i hi => f1 i (by omega)) (fun i hi => f2 i (by omega) (by omega)) f4 fr).le (by omega)) (hC.of (f2 _ (by omega) (by omega)) (f2 _ (by omega) (by omega))) (f2 _ (by omega) (by omega)) (f1 _ (by omega)) (fun j _ _ => by rw [f2 0 (by omega) (by omega)])
    · have n20 : ¬ w &&& 31 = 20 := by rw [q]; decide
      obtain ⟨k', m', f1, f2, f3, f4, f5, f6⟩ := xRevoke hS.2.2.2.2.1 hp
      have fr : pFr m' := by
        intro u s hu hs hz
        rw [f2 2 (by omega) (by omega)] at hz
        exact f3 _ (by omega) (hFr u s hu hs hz)
      exact pI.done (tl' := tl) (el' := el) ht h28 n10 n11 n12 (fun Q hQ => hK Q (fun y => absurd y z1') (fun _ => ⟨fun y => absurd y n20, fun _ => f5 _ hQ⟩)) (fun Q hQ => hF Q (fun y => absurd y z1) (fun _ => hQ)) (fun Q hQ => by rw [q]; exact vM_act_21 ht ha hb hc (hA.trans ea) (hB.trans eb) (hCc.trans ec) (f6 Q hQ)) ((hS.cap (fun i hi => f1 i (by omega)) (fun i hi => f2 i (by omega) (by omega)) f4 fr).le (by omega)) (hC.of (f2 _ (by omega) (by omega)) (f2 _ (by omega) (by omega))) (f2 _ (by omega) (by omega)) (f1 _ (by omega)) (fun j _ _ => by rw [f2 0 (by omega) (by omega)])
/-- HAS -/
theorem xI_22 {k m : mj_St} {t : Nat} {tl : List Nat} {el : Nat → List Nat} {N : Nat} {w : Int32} (h : pH k m t tl el N w) (e : w &&& 31 = 22) : pI k m t N w := by
  obtain ⟨hS, hC, ht, h2, hA, hB, hCc, hN, h28, hNb⟩ := h
  obtain ⟨a, ha, ea⟩ := fdA_of w
  obtain ⟨b, hb, eb⟩ := fdB_of w
  obtain ⟨c, hc, ec⟩ := fdC_of w
  have ea' : (w >>> (5 &&& 31)) &&& 7 = nI a := ea
  have eb' : (w >>> (8 &&& 31)) &&& 7 = nI b := eb
  have hq : 8 * t + b < 48 := by omega
  have c2 := (hS.2.2.2.2.1.1 _ hq).1
  have hK : ∀ Q : Int32 → mj_St → Prop, (k 27 (8 * t + b) = 0 → Q 0 (mj_up k (3 + t + 6) a 0)) → (¬ k 27 (8 * t + b) = 0 → Q 0 (mj_up k (3 + t + 6) a 1)) → wK_perform (nI t) w k Q := by
    intro Q g1 g2
    refine vK_perf_22 e ?_
    unfold wK_lookIntoSlot wK_fieldA wK_slotPlace wK_fieldB
    rw [ea', eb']
    dsimp only
    rw [pn_slot, nI_clamp (by omega), nI_clamp (by omega)]
    refine ⟨vp_in_nI ht (by decide), vG_holds hq (fun z => ⟨fun y => absurd y (by decide), fun _ => ⟨vp_in_nI ha (by decide), ?_⟩⟩) (fun z => ⟨fun _ => ⟨vp_in_nI ha (by decide), ?_⟩, fun y => absurd rfl y⟩)⟩
    · rintro k8 rfl; exact g2 z
    · rintro k7 rfl; exact g1 z
  have fin : ∀ v : Int32, (∀ Q : Int32 → mj_St → Prop, Q 0 (mj_up k (3 + t + 6) a v) → wK_perform (nI t) w k Q) → (∀ Q : mj_St → Prop, Q (mj_up m 8 (8 * t + a) v) → wM_act (nI t) (w &&& 31) m Q) → pI k m t N w := fun v g1 g2 =>
    pI.done (tl' := tl) (el' := el) ht h28 (by rw [e]; decide) (by rw [e]; decide) (by rw [e]; decide) g1 (fun Q hQ => by rw [e]; exact vM_fault_0 (by simp) hQ) g2 ((hS.reg ht ha).le (by omega)) (hC.of (pu_ne _ _ _ (by omega)) (pu_ne _ _ _ (by omega))) (pu_ne _ _ _ (by omega)) (pu_ne _ _ _ (by omega)) (fun j _ _ => by rw [pu_ne _ _ _ (by omega)])
  by_cases z : m 16 (8 * t + b) = 0
  · exact fin 0 (fun Q hQ => hK Q (fun _ => hQ) (fun y => absurd (c2.trans z) y)) (fun Q hQ => by rw [e]; exact vM_act_22 ht ha hb hc (hA.trans ea) (hB.trans eb) (hCc.trans ec) ⟨fun _ => hQ, fun y => absurd z y⟩)
  · exact fin 1 (fun Q hQ => hK Q (fun y => absurd (c2.symm.trans y) z) (fun _ => hQ)) (fun Q hQ => by rw [e]; exact vM_act_22 ht ha hb hc (hA.trans ea) (hB.trans eb) (hCc.trans ec) ⟨fun y => absurd y z, fun _ => hQ⟩)

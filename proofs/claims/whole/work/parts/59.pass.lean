/-! passing a word -/
theorem pu_comm (k : mj_St) {i i' j j' : Nat} {v v' : Int32} (h : i ≠ i') : mj_up (mj_up k i j v) i' j' v' = mj_up (mj_up k i' j' v') i j v := by
  funext a
  by_cases e : a = i'
  · subst e
    rw [pu_eq, pu_ne (i := i) _ _ _ (fun q => h q.symm), pu_ne (i := i) _ _ _ (fun q => h q.symm), pu_eq]
  · rw [pu_ne _ _ _ e]
    by_cases e2 : a = i
    · subst e2; rw [pu_eq, pu_eq, pu_ne _ _ _ h]
    · rw [pu_ne _ _ _ e2, pu_ne _ _ _ e2, pu_ne _ _ _ e]
theorem gPlace_comm (m : mj_St) {p x : Nat} {a b c d v : Int32} : gPlace (mj_up m 8 x v) p a b c d = mj_up (gPlace m p a b c d) 8 x v := by
  unfold gPlace
  rw [pu_comm m (show (8 : Nat) ≠ 16 by omega), pu_comm (mj_up m 16 p a) (show (8 : Nat) ≠ 17 by omega), pu_comm (mj_up (mj_up m 16 p a) 17 p b) (show (8 : Nat) ≠ 18 by omega), pu_comm (mj_up (mj_up (mj_up m 16 p a) 17 p b) 18 p c) (show (8 : Nat) ≠ 19 by omega)]
theorem pS.call {k m : mj_St} {t : Nat} {tl : List Nat} {el er : Nat → List Nat} {N r : Nat} {v : Int32} (h : pS k m t tl el er N) (hr : r < 6) : pS (mj_up k (3 + r) 6 v) (mj_up m 7 r v) t tl el er N := by
  obtain ⟨a1, a2, a3, a4, a6, a7, a8, a9, a10, a11, a12⟩ := h
  have hk : ∀ i, i ≠ 3 + r → mj_up k (3 + r) 6 v i = k i := fun i hi => pu_ne _ _ _ hi
  have hm : ∀ i, i ≠ 7 → mj_up m 7 r v i = m i := fun i hi => pu_ne _ _ _ hi
  refine ⟨?_, ?_, ?_, a4.one (u := r) (fun w hw e => hk _ (by omega)) (fun i w _ _ _ _ _ e => ?_) (fun _ => ?_), a6.of (hk _ (by omega)) (hk _ (by omega)) (hk _ (by omega)) (hk _ (by omega)) (hm _ (by omega)) (hm _ (by omega)) (hm _ (by omega)) (hm _ (by omega)), a7.of (hm _ (by omega)) (hm _ (by omega)), a8.of (hk _ (by omega)) (hk _ (by omega)) (by rw [hm _ (by omega)]) (hm _ (by omega)), a9.of (fun i h1 h2 => hk i (by omega)), a10.of (by rw [hm _ (by omega)]) (hm _ (by omega)) (hm _ (by omega)), a11.of (hm _ (by omega)) (hm _ (by omega)), a12.of (hm _ (by omega)) (hm _ (by omega)) (hm _ (by omega))⟩
  · unfold pQn
    rw [hk _ (by omega), hm _ (by omega)]
    exact a1
  · unfold pMe
    rw [hk _ (by omega), hm _ (by omega)]
    exact a2
  · intro w s hw hs
    rw [hk _ (by omega), hm _ (by omega)]
    exact a3 w s hw hs
  · by_cases e7 : i = 7
    · subst e7; rw [pu_eq, pd_ne _ _ e]
    · rw [hm i e7]
  · obtain ⟨b1, b2, b3, b4, b5, b6, b7, b8, b9, b10⟩ := a4 r hr
    unfold pT1
    rw [pu_eq, hm 2 (by omega), hm 3 (by omega), hm 4 (by omega), hm 5 (by omega), hm 6 (by omega), pu_eq, hm 11 (by omega), hm 12 (by omega), hm 13 (by omega), hm 14 (by omega), hm 15 (by omega), pd_ne _ _ (show (1 : Nat) ≠ 6 by omega), pd_ne _ _ (show (3 : Nat) ≠ 6 by omega), pd_ne _ _ (show (4 : Nat) ≠ 6 by omega), pd_ne _ _ (show (5 : Nat) ≠ 6 by omega), pd_ne _ _ (show (2 : Nat) ≠ 6 by omega), pd_ne _ _ (show (7 : Nat) ≠ 6 by omega), pd_ne _ _ (show (8 : Nat) ≠ 6 by omega), pd_eq, pd_eq]
    exact ⟨b1, b2, b3, b4, b5, b6, b7, fun _ => rfl, b9, b10⟩
/-- what an instruction said, on both sides -/
def pSaid (k m : mj_St) (u : Nat) : Prop := m 11 u = fdB (k (3 + u) 7) ∧ m 12 u = fdC (k (3 + u) 7)
def pSent (k m : mj_St) (u : Nat) : Prop := (m 13 u = 0 ↔ (fdN (k (3 + u) 7) &&& 1) = 0) ∧ m 14 u = k (3 + u) 8 ∧ (m 15 u = 0 ↔ ¬ fdO (k (3 + u) 7) = 16)
theorem xPass {k m : mj_St} {t : Nat} {tl : List Nat} {el er : Nat → List Nat} {N s r : Nat} (h : pS k m t tl el er N) (hs : s < 6) (hr : r < 6) (h0 : ¬ m 2 r = 0) (h1 : pSaid k m s) (h2 : pSent k m s) (h3 : pSaid k m r) :
    ∃ k' m', pS k' m' t tl el er N ∧ (∀ v b, v < 6 → b ≠ 6 → k' (3 + v) b = k (3 + v) b) ∧ (∀ i, i ≠ 7 → i ≠ 8 → i < 16 → m' i = m i) ∧ (m' 7 = if fdO (k (3 + s) 7) = 16 then upd (m 7) r (nI s) else m 7) ∧ k' 0 = k 0 ∧ (∀ Q : mj_St → Prop, Q k' → wK_pass (nI s) (nI r) k Q) ∧ ∀ Q : mj_St → Prop, Q m' → wM_pass (nI s) (nI r) m Q := by
  obtain ⟨cs, hcs, ecs⟩ := fdC_of (k (3 + s) 7)
  obtain ⟨cr, hcr, ecr⟩ := fdC_of (k (3 + r) 7)
  obtain ⟨b, hb, eb⟩ := fdB_of (k (3 + r) 7)
  have hvs : vp_in (nI s) 6 := vp_in_nI hs (by decide)
  have hvr : vp_in (nI r) 6 := vp_in_nI hr (by decide)
  have ecs' : (k (3 + s) 7 >>> (11 &&& 31)) &&& 7 = nI cs := ecs
  have ecr' : (k (3 + r) 7 >>> (11 &&& 31)) &&& 7 = nI cr := ecr
  have eb' : (k (3 + r) 7 >>> (8 &&& 31)) &&& 7 = nI b := eb
  have q1 : m 12 s = nI cs := by rw [h1.2]; exact ecs
  have q2 : m 12 r = nI cr := by rw [h3.2]; exact ecr
  have q3 : m 11 r = nI b := by rw [h3.1]; exact eb
  have hsrc : 8 * s + cs < 48 := by omega
  have htgt : 8 * r + cr < 48 := by omega
  have hCp := h.2.2.2.2.1
  have k1 := (hCp.1 _ hsrc).1
  have k2 := (hCp.1 _ htgt).1
  -- the tail: word, register 7, caller, from any state
  have endK : ∀ (kx : mj_St) (g x7 : Int32) (Q : mj_St → Prop), (x7 = 0 ∧ g = 0 ∨ x7 = 1 ∧ g = 1) → (∀ v, v < 6 → kx (3 + v) = k (3 + v)) → Q (if fdO (k (3 + s) 7) = 16 then mj_up (mj_up (mj_up kx (3 + r + 6) b (k (3 + s) 8)) (3 + r + 6) 7 g) (3 + r) 6 (nI s) else mj_up (mj_up kx (3 + r + 6) b (k (3 + s) 8)) (3 + r + 6) 7 g) → wK_pass_101 (nI s) (3 + s) (3 + r) x7 kx Q := by
    intro kx g x7 Q hg hkx hQ
    have h136 : wK_pass_136 (nI s) (3 + s) (3 + r) g 7 (3 + r) (mj_up kx (3 + r + 6) b (k (3 + s) 8)) Q := by
      refine ⟨⟨by omega, by omega⟩, ⟨by omega, by omega⟩, ⟨by omega, by omega⟩, vp_in_nI (n := 7) (N := 8) (by decide) (by decide), ?_⟩
      rw [show (7 : Int32).toNatClampNeg = 7 from by decide]
      rintro k22 rfl
      show ((¬ (mj_up (mj_up kx (3 + r + 6) b (k (3 + s) 8)) (3 + r + 6) 7 g (3 + s) 7) &&& 31 = 16) → _) ∧ _
      rw [pu_ne _ _ _ (by omega), pu_ne _ _ _ (by omega), hkx s hs]
      refine ⟨fun z => ?_, fun z => ?_⟩
      · rw [if_neg (show ¬ fdO (k (3 + s) 7) = 16 from z)] at hQ; exact hQ
      · rintro k25 rfl
        rw [if_pos (show fdO (k (3 + s) 7) = 16 from z)] at hQ; exact hQ
    refine ⟨⟨by omega, by omega⟩, ⟨by omega, by omega⟩, ?_⟩
    unfold wK_fieldB
    rw [hkx r hr, hkx s hs, eb']
    dsimp only
    rw [nI_clamp (by omega)]
    refine ⟨vp_in_nI hb (by decide), ?_⟩
    rintro k17 rfl
    rcases hg with ⟨rfl, rfl⟩ | ⟨rfl, rfl⟩
    · exact ⟨fun _ => h136, fun z => absurd rfl z⟩
    · exact ⟨fun z => absurd z (by decide), fun _ => h136⟩
  have endM : ∀ (mx : mj_St) (g x5 : Int32) (Q : mj_St → Prop), (x5 = 0 ∧ g = 0 ∨ x5 = 1 ∧ g = 1) → mx 15 = m 15 → Q (if fdO (k (3 + s) 7) = 16 then mj_up (mj_up mx 8 (8 * r + 7) g) 7 r (nI s) else mj_up mx 8 (8 * r + 7) g) → wM_pass_100 (nI s) (nI r) x5 mx Q := by
    intro mx g x5 Q hg h15 hQ
    have h121 : wM_pass_121 (nI s) (nI r) g (8 * nI r + 7) mx Q := by
      unfold wM_pass_121
      rw [show (7 : Int32) = nI 7 from rfl, pn_slot, nI_clamp (by omega), nI_clamp (by omega), nI_clamp (by omega)]
      refine ⟨vp_in_nI (by omega) (by decide), ?_⟩
      rintro k7 rfl
      rw [pu_ne _ _ _ (show (15 : Nat) ≠ 8 by omega), h15]
      refine ⟨hvs, fun z => ?_, fun z => ⟨hvr, ?_⟩⟩
      · rw [if_neg (h2.2.2.mp z)] at hQ; exact hQ
      · rintro k9 rfl
        have : fdO (k (3 + s) 7) = 16 := by
          by_cases w : fdO (k (3 + s) 7) = 16
          · exact w
          · exact absurd (h2.2.2.mpr w) z
        rw [if_pos this] at hQ; exact hQ
    rcases hg with ⟨rfl, rfl⟩ | ⟨rfl, rfl⟩
    · exact ⟨fun _ => h121, fun z => absurd rfl z⟩
    · exact ⟨fun z => absurd z (by decide), fun _ => h121⟩
  have hword : m 14 s = k (3 + s) 8 := h2.2.1
  -- the whole, by whether a capability goes along
  have fin : ∀ (kx mx : mj_St) (g : Int32), pS kx mx t tl el er N → (∀ v, v < 6 → kx (3 + v) = k (3 + v)) → (∀ i, i < 16 → mx i = m i) → kx 0 = k 0 →
      ∃ k' m', pS k' m' t tl el er N ∧ (∀ v b, v < 6 → b ≠ 6 → k' (3 + v) b = k (3 + v) b) ∧ (∀ i, i ≠ 7 → i ≠ 8 → i < 16 → m' i = m i) ∧ (m' 7 = if fdO (k (3 + s) 7) = 16 then upd (m 7) r (nI s) else m 7) ∧ k' 0 = k 0 ∧ k' = (if fdO (k (3 + s) 7) = 16 then mj_up (mj_up (mj_up kx (3 + r + 6) b (k (3 + s) 8)) (3 + r + 6) 7 g) (3 + r) 6 (nI s) else mj_up (mj_up kx (3 + r + 6) b (k (3 + s) 8)) (3 + r + 6) 7 g) ∧ m' = (if fdO (k (3 + s) 7) = 16 then mj_up (mj_up (mj_up mx 8 (8 * r + b) (m 14 s)) 8 (8 * r + 7) g) 7 r (nI s) else mj_up (mj_up mx 8 (8 * r + b) (m 14 s)) 8 (8 * r + 7) g) := by
    intro kx mx g hS hkx hmx hk0
    have e1 := (hS.reg (u := r) (r := b) (v := k (3 + s) 8) hr hb).reg (u := r) (r := 7) (v := g) hr (by omega)
    rw [hword]
    by_cases w : fdO (k (3 + s) 7) = 16
    · refine ⟨_, _, e1.call (r := r) (v := nI s) hr, fun v b2 hv hb2 => ?_, fun i i1 i2 i3 => ?_, ?_, by rw [pu_ne _ _ _ (by omega), pu_ne _ _ _ (by omega), pu_ne _ _ _ (by omega), hk0], by rw [if_pos w], by rw [if_pos w]⟩
      · by_cases e : v = r
        · subst e
          rw [pu_eq, pd_ne _ _ hb2, pu_ne _ _ _ (by omega), pu_ne _ _ _ (by omega), hkx v hv]
        · rw [pu_ne _ _ _ (by omega), pu_ne _ _ _ (by omega), pu_ne _ _ _ (by omega), hkx v hv]
      · rw [pu_ne _ _ _ i1, pu_ne _ _ _ i2, pu_ne _ _ _ i2, hmx i i3]
      · rw [if_pos w, pu_eq, pu_ne _ _ _ (by omega), pu_ne _ _ _ (by omega), hmx 7 (by omega)]
    · refine ⟨_, _, e1, fun v b2 hv hb2 => ?_, fun i i1 i2 i3 => ?_, ?_, by rw [pu_ne _ _ _ (by omega), pu_ne _ _ _ (by omega), hk0], by rw [if_neg w], by rw [if_neg w]⟩
      · rw [pu_ne _ _ _ (by omega), pu_ne _ _ _ (by omega), hkx v hv]
      · rw [pu_ne _ _ _ i2, pu_ne _ _ _ i2, hmx i i3]
      · rw [if_neg w, pu_ne _ _ _ (by omega), pu_ne _ _ _ (by omega), hmx 7 (by omega)]
  by_cases gr : ¬ (fdN (k (3 + s) 7) &&& 1) = 0 ∧ ¬ m 16 (8 * s + cs) = 0 ∧ m 16 (8 * r + cr) = 0
  · obtain ⟨g1, g2, g3⟩ := gr
    obtain ⟨d1, d2, d3, d4, d5⟩ := (hCp.1 _ hsrc).2.2 g2
    have hd := h.derive (u := r) (s := cr) (q := 8 * s + cs) (w := 7) hr hcr h0 hsrc g3 g2
    rw [d5] at hd
    obtain ⟨k', m', f1, f2, f3, f4, f0, f5, f6⟩ := fin _ _ 1 hd (fun v hv => gFill_ne (by omega)) (fun i hi => gPlace_ne (by omega)) (gFill_ne (by omega))
    refine ⟨k', m', f1, f2, f3, f4, f0, fun Q hQ => ?_, fun Q hQ => ?_⟩
    · unfold wK_pass wK_fieldC wK_slotPlace wK_isNumberOdd wK_numberOf
      rw [nI_clamp (by omega), nI_clamp (by omega), ecs', ecr']
      dsimp only
      rw [pn_slot, pn_slot]
      refine ⟨hvs, hvr, fun z => absurd z g1, fun _ => ⟨fun z => absurd z (by decide), fun _ => vG_holds hsrc (fun _ => ⟨fun z => absurd z (by decide), fun _ => vG_holds htgt (fun z => absurd (by rw [k2]; exact g3) z) (fun _ => ⟨fun z => absurd rfl z, fun _ => ⟨⟨by omega, by omega⟩, ⟨by omega, by omega⟩, fun z => absurd z (by decide), fun _ => vG_derive htgt hsrc ?_⟩⟩)⟩) (fun z => absurd (by rw [← k1]; exact z) g2)⟩⟩
      exact endK _ 1 1 Q (Or.inr ⟨rfl, rfl⟩) (fun v hv => gFill_ne (by omega)) (by rw [← f5]; exact hQ)
    · unfold wM_pass
      rw [nI_clamp (by omega), nI_clamp (by omega), q3, pn_slot, nI_clamp (by omega)]
      refine ⟨hvr, hvs, vp_in_nI (by omega) (by decide), ?_⟩
      rintro k1 rfl
      rw [pu_ne _ _ _ (show (12 : Nat) ≠ 8 by omega), pu_ne _ _ _ (show (13 : Nat) ≠ 8 by omega), pu_ne _ _ _ (show (16 : Nat) ≠ 8 by omega), q1, q2, pn_slot, pn_slot]
      refine ⟨hvs, ?_⟩
      rintro a2 rfl
      refine ⟨hvr, ?_⟩
      rintro a3 rfl
      rw [nI_clamp (by omega), nI_clamp (by omega)]
      refine ⟨hvs, fun z => absurd (h2.1.mp z) g1, fun _ => ⟨vp_in_nI hsrc (by decide), fun z => absurd z g2, fun _ => ⟨vp_in_nI htgt (by decide), fun z => absurd g3 z, fun _ => ⟨fun z => absurd z (by decide), fun _ => ⟨vp_in_nI hsrc (by decide), ?_⟩⟩⟩⟩⟩
      rw [nI_clamp (by omega)]
      refine vM_place htgt hsrc ?_
      refine endM _ 1 1 Q (Or.inr ⟨rfl, rfl⟩) (by rw [gPlace_ne (by omega), pu_ne _ _ _ (by omega)]) ?_
      rw [f6] at hQ
      rw [gPlace_comm, pu_ne _ _ _ (show (16 : Nat) ≠ 8 by omega), pu_ne _ _ _ (show (17 : Nat) ≠ 8 by omega), pu_ne _ _ _ (show (18 : Nat) ≠ 8 by omega)]
      exact hQ
  · obtain ⟨k', m', f1, f2, f3, f4, f0, f5, f6⟩ := fin k m 0 h (fun v hv => rfl) (fun i hi => rfl) rfl
    refine ⟨k', m', f1, f2, f3, f4, f0, fun Q hQ => ?_, fun Q hQ => ?_⟩
    · have h80 : wK_pass_80 (nI s) (3 + s) (3 + r) (nI (8 * s + cs)) (nI (8 * r + cr)) k Q :=
        ⟨⟨by omega, by omega⟩, ⟨by omega, by omega⟩, ⟨by omega, by omega⟩, ⟨by omega, by omega⟩, fun _ => endK k 0 0 Q (Or.inl ⟨rfl, rfl⟩) (fun v hv => rfl) (by rw [← f5]; exact hQ), fun z => absurd rfl z⟩
      unfold wK_pass wK_fieldC wK_slotPlace wK_isNumberOdd wK_numberOf
      rw [nI_clamp (by omega), nI_clamp (by omega), ecs', ecr']
      dsimp only
      rw [pn_slot, pn_slot]
      refine ⟨hvs, hvr, fun _ => ⟨fun _ => h80, fun z => absurd rfl z⟩, fun w1 => ⟨fun z => absurd z (by decide), fun _ => vG_holds hsrc (fun w2 => ⟨fun z => absurd z (by decide), fun _ => vG_holds htgt (fun _ => ⟨fun _ => h80, fun z => absurd z (by decide)⟩) (fun w3 => absurd ⟨w1, by rw [← k1]; exact w2, by rw [← k2]; exact w3⟩ gr)⟩) (fun _ => ⟨fun _ => h80, fun z => absurd rfl z⟩)⟩⟩
    · unfold wM_pass
      rw [nI_clamp (by omega), nI_clamp (by omega), q3, pn_slot, nI_clamp (by omega)]
      refine ⟨hvr, hvs, vp_in_nI (by omega) (by decide), ?_⟩
      rintro k1 rfl
      rw [pu_ne _ _ _ (show (12 : Nat) ≠ 8 by omega), pu_ne _ _ _ (show (13 : Nat) ≠ 8 by omega), pu_ne _ _ _ (show (16 : Nat) ≠ 8 by omega), q1, q2, pn_slot, pn_slot]
      refine ⟨hvs, ?_⟩
      rintro a2 rfl
      refine ⟨hvr, ?_⟩
      rintro a3 rfl
      rw [nI_clamp (by omega), nI_clamp (by omega)]
      have h79 : wM_pass_79 (nI s) (nI r) (nI (8 * s + cs)) (nI (8 * r + cr)) (mj_up m 8 (8 * r + b) (m 14 s)) Q :=
        ⟨fun _ => endM _ 0 0 Q (Or.inl ⟨rfl, rfl⟩) (by rw [pu_ne _ _ _ (by omega)]) (by rw [← f6]; exact hQ), fun z => absurd rfl z⟩
      refine ⟨hvs, fun _ => h79, fun w1 => ⟨vp_in_nI hsrc (by decide), fun _ => h79, fun w2 => ⟨vp_in_nI htgt (by decide), fun _ => h79, fun w3 => absurd ⟨fun z => w1 (h2.1.mpr z), w2, w3⟩ gr⟩⟩⟩

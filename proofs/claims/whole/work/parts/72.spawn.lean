/-! spawn -/
/-- the least free thread, if there is one -/
theorem pn_least (f : Nat → Int32) : (∃ t, t < 6 ∧ f t = 0 ∧ ∀ u, u < t → ¬ f u = 0) ∨ (∀ u, u < 6 → ¬ f u = 0) := by
  have go : ∀ n, (∃ t, t < n ∧ f t = 0 ∧ ∀ u, u < t → ¬ f u = 0) ∨ (∀ u, u < n → ¬ f u = 0) := by
    intro n
    induction n with
    | zero => exact Or.inr (fun u hu => by omega)
    | succ n ih =>
      rcases ih with ⟨t, h1, h2⟩ | h
      · exact Or.inl ⟨t, by omega, h2⟩
      · by_cases e : f n = 0
        · exact Or.inl ⟨n, by omega, e, h⟩
        · right
          intro u hu
          by_cases q : u = n
          · rw [q]; exact e
          · exact h u (by omega)
  exact go 6
theorem vK_least1 {k : mj_St} {t : Nat} {Q : Int32 → Prop} (ht : t < 6) (h0 : k (3 + t) 1 = 0) (hu : ∀ u, u < t → ¬ k (3 + u) 1 = 0) (hQ : Q (nI t)) : ∀ d i, i + d = t → wK_leastFree_2 (d + 1) (nI i) k Q := by
  intro d
  induction d with
  | zero =>
    intro i hi
    obtain rfl : i = t := by omega
    rw [wK_leastFree_2]
    refine ⟨fun z => absurd z (nI_ge (b := 6) ht (by decide)), fun _ => ⟨vp_in_nI ht (by decide), ?_⟩⟩
    rw [nI_clamp (by omega)]
    exact ⟨fun z => absurd h0 z, fun _ => hQ⟩
  | succ d ih =>
    intro i hi
    rw [wK_leastFree_2]
    refine ⟨fun z => absurd z (nI_ge (b := 6) (by omega) (by decide)), fun _ => ⟨vp_in_nI (by omega) (by decide), ?_⟩⟩
    rw [nI_clamp (by omega)]
    refine ⟨fun _ => ?_, fun z => absurd z (hu i (by omega))⟩
    rintro a4 rfl
    rw [nI_1]
    exact ih (i + 1) (by omega)
theorem vK_least0 {k : mj_St} {Q : Int32 → Prop} (hu : ∀ u, u < 6 → ¬ k (3 + u) 1 = 0) (hQ : Q (-1)) : ∀ d i, i + d = 6 → wK_leastFree_2 (d + 1) (nI i) k Q := by
  intro d
  induction d with
  | zero =>
    intro i hi
    obtain rfl : i = 6 := by omega
    rw [wK_leastFree_2]
    exact ⟨fun _ => hQ, fun z => absurd (show (6 : Int32) ≤ nI 6 by decide) z⟩
  | succ d ih =>
    intro i hi
    rw [wK_leastFree_2]
    refine ⟨fun z => absurd z (nI_ge (b := 6) (by omega) (by decide)), fun _ => ⟨vp_in_nI (by omega) (by decide), ?_⟩⟩
    rw [nI_clamp (by omega)]
    refine ⟨fun _ => ?_, fun z => absurd z (hu i (by omega))⟩
    rintro a4 rfl
    rw [nI_1]
    exact ih (i + 1) (by omega)
theorem vM_least {m : mj_St} {x y z : Int32} {t : Nat} {Q : Int32 → mj_St → Prop} (ht : t ≤ 6) (h0 : t < 6 → m 2 t = 0) (hu : ∀ u, u < t → ¬ m 2 u = 0) (hQ : wM_spawn_29 x y z (nI t) m Q) : ∀ d i, i + d = t → wM_spawn_3 (d + 1) x y z (nI i) m Q := by
  intro d
  induction d with
  | zero =>
    intro i hi
    obtain rfl : i = t := by omega
    rw [wM_spawn_3]
    refine ⟨fun _ => hQ, fun q => ?_⟩
    have hi6 : i < 6 := by
      by_cases w : i = 6
      · subst w; exact absurd (show (6 : Int32) ≤ nI 6 by decide) q
      · omega
    refine ⟨vp_in_nI hi6 (by decide), ?_⟩
    rw [nI_clamp (by omega)]
    exact ⟨fun _ => hQ, fun w => absurd (h0 hi6) w⟩
  | succ d ih =>
    intro i hi
    rw [wM_spawn_3]
    refine ⟨fun q => absurd q (nI_ge (b := 6) (by omega) (by decide)), fun _ => ⟨vp_in_nI (by omega) (by decide), ?_⟩⟩
    rw [nI_clamp (by omega)]
    refine ⟨fun q => absurd q (hu i (by omega)), fun _ => ?_⟩
    rintro a20 rfl
    rw [nI_1]
    exact ih (i + 1) (by omega)
/-- registers of a new thread, the class -/
theorem xBegin {t : Nat} (ht : t < 6) : ∀ (d i : Nat) (k : mj_St), i + d = 8 → ∃ k', (∀ a, a ≠ 3 + t + 6 → k' a = k a) ∧ (∀ r, r < 8 → k' (3 + t + 6) r = if i ≤ r then 0 else k (3 + t + 6) r) ∧ ∀ Q : mj_St → Prop, Q k' → wT_begin_23 (d + 1) (3 + t) (nI i) k Q := by
  intro d
  induction d with
  | zero =>
    intro i k hi
    obtain rfl : i = 8 := by omega
    refine ⟨k, fun _ _ => rfl, fun r hr => by rw [if_neg (by omega)], fun Q hQ => ?_⟩
    rw [wT_begin_23]
    exact ⟨⟨by omega, by omega⟩, fun _ => hQ, fun z => absurd (show (8 : Int32) ≤ nI 8 by decide) z⟩
  | succ d ih =>
    intro i k hi
    obtain ⟨k', g1, g2, g3⟩ := ih (i + 1) (mj_up k (3 + t + 6) i 0) (by omega)
    refine ⟨k', fun a ha => by rw [g1 a ha, pu_ne _ _ _ ha], fun r hr => ?_, fun Q hQ => ?_⟩
    · rw [g2 r hr, pu_eq]
      by_cases e : i + 1 ≤ r
      · rw [if_pos e, if_pos (by omega)]
      · rw [if_neg e]
        by_cases e2 : r = i
        · rw [e2, pd_eq, if_pos (Nat.le_refl _)]
        · rw [pd_ne _ _ e2, if_neg (by omega)]
    · rw [wT_begin_23]
      refine ⟨⟨by omega, by omega⟩, fun z => absurd z (nI_ge (b := 8) (by omega) (by decide)), fun _ => ⟨vp_in_nI (by omega) (by decide), ?_⟩⟩
      rw [nI_clamp (by omega)]
      rintro k8 rfl a9 rfl
      rw [nI_1]
      exact g3 Q hQ
/-- registers and slots of a new thread, the reference -/
theorem xFresh {t : Nat} (ht : t < 6) : ∀ (d i : Nat) (m : mj_St), i + d = 8 → ∃ m', (∀ a, a ≠ 8 → a ≠ 16 → a ≠ 19 → m' a = m a) ∧ (∀ p, m' 8 p = if 8 * t + i ≤ p ∧ p < 8 * t + 8 then 0 else m 8 p) ∧ (∀ p, m' 16 p = if 8 * t + i ≤ p ∧ p < 8 * t + 8 then 0 else m 16 p) ∧ (∀ p, ¬ (8 * t + i ≤ p ∧ p < 8 * t + 8) → m' 19 p = m 19 p) ∧ ∀ Q : Int32 → mj_St → Prop, wM_makeReady (nI t) m' (fun k14 => (Q (nI t) k14)) → wM_spawn_109 (d + 1) (nI t) (nI (8 * t + i)) m Q := by
  have e8 : 8 * nI t + 8 = nI (8 * t + 8) := pn_slot (s := 8)
  intro d
  induction d with
  | zero =>
    intro i m hi
    obtain rfl : i = 8 := by omega
    refine ⟨m, fun _ _ _ _ => rfl, fun p => by rw [if_neg (by omega)], fun p => by rw [if_neg (by omega)], fun _ _ => rfl, fun Q hQ => ?_⟩
    rw [wM_spawn_109, e8]
    exact ⟨fun _ => hQ, fun z => absurd (nI_le (Nat.le_refl _) (by omega)) z⟩
  | succ d ih =>
    intro i m hi
    obtain ⟨m', g1, g2, g3, g4, g5⟩ := ih (i + 1) (mj_up (mj_up (mj_up m 8 (8 * t + i) 0) 16 (8 * t + i) 0) 19 (8 * t + i) (-1)) (by omega)
    refine ⟨m', fun a a1 a2 a3 => by rw [g1 a a1 a2 a3, pu_ne _ _ _ a3, pu_ne _ _ _ a2, pu_ne _ _ _ a1], fun p => ?_, fun p => ?_, fun p hp => ?_, fun Q hQ => ?_⟩
    · rw [g2 p, pu_ne _ _ _ (by omega), pu_ne _ _ _ (by omega), pu_eq]
      by_cases e : 8 * t + (i + 1) ≤ p ∧ p < 8 * t + 8
      · rw [if_pos e, if_pos (by omega)]
      · rw [if_neg e]
        by_cases e2 : p = 8 * t + i
        · rw [e2, pd_eq, if_pos (by omega)]
        · rw [pd_ne _ _ e2, if_neg (by omega)]
    · rw [g3 p, pu_ne _ _ _ (by omega), pu_eq, pu_ne _ _ _ (by omega)]
      by_cases e : 8 * t + (i + 1) ≤ p ∧ p < 8 * t + 8
      · rw [if_pos e, if_pos (by omega)]
      · rw [if_neg e]
        by_cases e2 : p = 8 * t + i
        · rw [e2, pd_eq, if_pos (by omega)]
        · rw [pd_ne _ _ e2, if_neg (by omega)]
    · rw [g4 p (by omega), pu_eq, pd_ne _ _ (by omega), pu_ne _ _ _ (by omega), pu_ne _ _ _ (by omega)]
    · rw [wM_spawn_109, e8]
      refine ⟨fun z => absurd z (nI_ge (by omega) (by omega)), fun _ => ⟨vp_in_nI (by omega) (by decide), ?_⟩⟩
      rw [nI_clamp (by omega)]
      rintro k15 rfl
      refine ⟨vp_in_nI (by omega) (by decide), ?_⟩
      rintro k16 rfl
      refine ⟨vp_in_nI (by omega) (by decide), ?_⟩
      rintro k17 rfl a18 rfl
      rw [nI_1]
      exact g5 Q hQ
/-- a free thread, set up, comes to the ready ones -/
theorem pA.ready {k m : mj_St} {l : List Nat} {el : Nat → List Nat} {N t d : Nat} (h : pA k m l el N) (hN : N < 2 ^ 30) (ht : t < 6) (h0 : m 2 t = 0) (hc : m 7 t = -1) (hk : k (3 + t) 6 = -1) (hd : m 0 11 = nI d) (hdN : d ≤ N) (h6 : l.length < 6) : pA (gRdK k t l.length) (gRdM m t d) (l ++ [t]) el (N + 1) := by
  obtain ⟨a1, a2, a3, a4, a5, a6, a7, a8, a9, a10, a11, a12, a13⟩ := h
  have hi0 : ∀ j, j ≠ 11 → gRdM m t d 0 j = m 0 j := fun j hj => by rw [gRdM_0, pd_ne _ _ hj]
  have htl : t ∉ l := fun q => by
    have := pIn_m1.mp ((a10.1 t).mp q).2
    rw [h0] at this; exact absurd this (by decide)
  have hoth : ∀ v, v ≠ t → gRdM m t d 2 v = m 2 v ∧ gRdM m t d 9 v = m 9 v ∧ gRdM m t d 10 v = m 10 v := fun v hv => ⟨by rw [gRdM_2, pd_ne _ _ hv], by rw [gRdM_9, pd_ne _ _ hv], by rw [gRdM_ne (by omega) (by omega) (by omega)]⟩
  have ht1 : gRdM m t d 2 t = 1 := by rw [gRdM_2, pd_eq]
  refine ⟨?_, ?_, ?_, a4.one (u := t) (fun v hv e => gRdK_ne (by omega) (by omega) (by omega)) (fun i v h1 _ _ _ _ e => gRdM_at (by omega) e) (fun _ => ?_), a5.of (gRdK_ne (by omega) (by omega) (by omega)) (gRdK_ne (by omega) (by omega) (by omega)) (gRdK_ne (by omega) (by omega) (by omega)) (gRdK_ne (by omega) (by omega) (by omega)) (gRdM_ne (by omega) (by omega) (by omega)) (gRdM_ne (by omega) (by omega) (by omega)) (gRdM_ne (by omega) (by omega) (by omega)) (gRdM_ne (by omega) (by omega) (by omega)), ?_, (a7.of (gRdK_ne (by omega) (by omega) (by omega)) (gRdK_ne (by omega) (by omega) (by omega)) (hi0 22 (by omega)) (gRdM_ne (by omega) (by omega) (by omega))).le (by omega), a8.ready ht h6, ⟨d + 1, by omega, ?_, fun v hv hv2 => ?_⟩, a10.push ht (pIn_m1.mpr ht1) htl hoth (fun v hv => ?_), a11.other (u := t) (by rw [h0]; decide) (by rw [h0]; decide) (by rw [ht1]; decide) (by rw [ht1]; decide) hoth, ⟨fun u hu hz => ?_, fun u v hu hv hz1 hz2 q1 q2 => ?_⟩, ?_⟩
  · unfold pQn
    rw [gRdK_ne (by omega) (by omega) (by omega), hi0 0 (by omega)]
    exact a1
  · unfold pMe
    rw [gRdK_ne (by omega) (by omega) (by omega), gRdM_ne (by omega) (by omega) (by omega)]
    exact a2
  · intro w s hw hs
    rw [gRdK_ne (by omega) (by omega) (by omega), gRdM_ne (by omega) (by omega) (by omega)]
    exact a3 w s hw hs
  · obtain ⟨b1, b2, b3, b4, b5, b6, b7, b8, b9, b10⟩ := a4 t ht
    unfold pT1
    rw [gRdK_u ht, ht1, gRdM_ne (i := 3) (by omega) (by omega) (by omega), gRdM_ne (i := 4) (by omega) (by omega) (by omega), gRdM_ne (i := 5) (by omega) (by omega) (by omega), gRdM_ne (i := 6) (by omega) (by omega) (by omega), gRdM_ne (i := 7) (by omega) (by omega) (by omega), pd_eq, pd_ne _ _ (show (3 : Nat) ≠ 1 by omega), pd_ne _ _ (show (4 : Nat) ≠ 1 by omega), pd_ne _ _ (show (5 : Nat) ≠ 1 by omega), pd_ne _ _ (show (2 : Nat) ≠ 1 by omega), pd_ne _ _ (show (6 : Nat) ≠ 1 by omega)]
    exact ⟨rfl, b2, b3, b4, b5, fun q => absurd q (by decide), fun _ => b7 (by rw [h0]; decide), fun _ => by rw [hk, hc], fun q => absurd q (by decide), fun q => absurd q (by decide)⟩
  · intro v s hv hs2 hz
    rw [gRdM_ne (i := 16) (by omega) (by omega) (by omega)]
    by_cases e : v = t
    · rw [e, ht1] at hz; exact absurd hz (by decide)
    · rw [(hoth v e).1] at hz; exact a6 v s hv hs2 hz
  · rw [gRdM_0, pd_eq]
  · rw [gRdM_9]
    by_cases e : v = t
    · exact ⟨d, by omega, by rw [e, pd_eq]⟩
    · rw [(hoth v e).1] at hv2
      rw [pd_ne _ _ e]
      obtain ⟨d', c1, c2, c3⟩ := a9
      have : d' = d := (nI_eq (by omega) (by omega)).mp (c2.symm.trans hd)
      subst this
      obtain ⟨j, j1, j2⟩ := c3 v hv hv2
      exact ⟨j, by omega, j2⟩
  · rw [gRdM_9, pd_eq]
    obtain ⟨v1, v2⟩ := (a10.1 v).mp hv
    exact pn_tk a9 hd hN (by omega) v1 (Or.inl (pIn_m1.mp v2))
  · rw [gRdM_ne (i := 7) (by omega) (by omega) (by omega)]
    by_cases e : u = t
    · rw [e]; exact Or.inl hc
    · rw [(hoth u e).1] at hz
      rcases a12.1 u hu hz with q | ⟨c, c1, c2, c3⟩
      · exact Or.inl q
      · refine Or.inr ⟨c, c1, c2, ?_⟩
        rw [(hoth c (fun q => by rw [q, h0] at c3; exact absurd c3 (by decide))).1]
        exact c3
  · rw [gRdM_ne (i := 7) (by omega) (by omega) (by omega)] at q1 q2
    have e1 : u ≠ t := fun q => q2 (by rw [q]; exact hc)
    have e2 : v ≠ t := fun q => q2 (by rw [q1, q]; exact hc)
    exact a12.2 u v hu hv (by rw [← (hoth u e1).1]; exact hz1) (by rw [← (hoth v e2).1]; exact hz2) q1 q2
  · rw [gRdK_ne (by omega) (by omega) (by omega), hi0 12 (by omega), hi0 0 (by omega)]
    exact a13
theorem ySpawn {k m : mj_St} {l : List Nat} {el : Nat → List Nat} {N : Nat} (x y z : Int32) (h : pA k m l el N) (hN : N < 2 ^ 30) : pFace k m l el N (fun Q => wK_spawn x y z k Q) (fun Q => wM_spawn x y z m Q) := by
  have hst : ∀ u, u < 6 → k (3 + u) 1 = m 2 u := fun u hu => (h.2.2.2.1 u hu).1
  by_cases hf : ∃ b n, y = nI b ∧ z = nI n ∧ b + n ≤ 128
  · obtain ⟨b, n, rfl, rfl, hbn⟩ := hf
    have e128 : (128 : Int32) - nI b = nI (128 - b) := by rw [show (128 : Int32) = nI 128 from rfl, pk_sub (by omega)]
    have upK : ∀ Q : Int32 → mj_St → Prop, wK_leastFree k (fun a8 => (wK_spawn_44 x (nI b) (nI n) a8 k Q)) → wK_spawn x (nI b) (nI n) k Q := by
      intro Q hQ
      refine vK_in1 (n := 129) rfl (by omega) (by decide) ⟨fun q => absurd q (by decide), fun _ => ?_⟩
      rw [e128]
      exact vK_in1 (n := 128 - b + 1) (by simp) (by omega) (by omega) ⟨fun q => absurd q (by decide), fun _ => ⟨fun q => absurd q (by decide), fun _ => hQ⟩⟩
    rcases pn_least (m 2) with ⟨t, ht, h0, hu⟩ | hu
    · have hct : (nI t).toNatClampNeg = t := nI_clamp (by omega)
      have hvt : vp_in (nI t) 6 := vp_in_nI ht (by decide)
      obtain ⟨a1, a2, a3, a4, a5, a6, a7, a8, a9, a10, a11, a12, a13⟩ := id h
      obtain ⟨b1, b2, b3, b4, b5, b6, b7, b8, b9, b10⟩ := a4 t ht
      -- the class's state, set up
      obtain ⟨k', g1, g2, g3⟩ := xBegin ht 8 0 (mj_up (mj_up (mj_up (mj_up k (3 + t) 3 x) (3 + t) 4 (nI b)) (3 + t) 5 (nI n)) (3 + t) 6 (-1)) rfl
      have hk : ∀ i, i ≠ 3 + t → i ≠ 3 + t + 6 → k' i = k i := fun i i1 i2 => by rw [g1 i i2, pu_ne _ _ _ i1, pu_ne _ _ _ i1, pu_ne _ _ _ i1, pu_ne _ _ _ i1]
      have hkt : k' (3 + t) = upd (upd (upd (upd (k (3 + t)) 3 x) 4 (nI b)) 5 (nI n)) 6 (-1) := by rw [g1 (3 + t) (by omega), pu_eq, pu_eq, pu_eq, pu_eq]
      have hkr : ∀ r, r < 8 → k' (3 + t + 6) r = 0 := fun r hr => by rw [g2 r hr, if_pos (by omega)]
      -- the reference's
      obtain ⟨m', f1, f2, f3, f4, f5⟩ := xFresh ht 8 0 (mj_up (mj_up (mj_up (mj_up (mj_up m 3 t 0) 4 t x) 5 t (nI b)) 6 t (nI n)) 7 t (-1)) rfl
      have hm : ∀ i, i ≠ 8 → i ≠ 16 → i ≠ 19 → i ≠ 3 → i ≠ 4 → i ≠ 5 → i ≠ 6 → i ≠ 7 → m' i = m i := fun i i1 i2 i3 i4 i5 i6 i7 i8 => by rw [f1 i i1 i2 i3, pu_ne _ _ _ i8, pu_ne _ _ _ i7, pu_ne _ _ _ i6, pu_ne _ _ _ i5, pu_ne _ _ _ i4]
      have m3 : m' 3 = upd (m 3) t 0 := by rw [f1 3 (by omega) (by omega) (by omega), pu_ne _ _ _ (by omega), pu_ne _ _ _ (by omega), pu_ne _ _ _ (by omega), pu_ne _ _ _ (by omega), pu_eq]
      have m4 : m' 4 = upd (m 4) t x := by rw [f1 4 (by omega) (by omega) (by omega), pu_ne _ _ _ (by omega), pu_ne _ _ _ (by omega), pu_ne _ _ _ (by omega), pu_eq, pu_ne _ _ _ (by omega)]
      have m5 : m' 5 = upd (m 5) t (nI b) := by rw [f1 5 (by omega) (by omega) (by omega), pu_ne _ _ _ (by omega), pu_ne _ _ _ (by omega), pu_eq, pu_ne _ _ _ (by omega), pu_ne _ _ _ (by omega)]
      have m6 : m' 6 = upd (m 6) t (nI n) := by rw [f1 6 (by omega) (by omega) (by omega), pu_ne _ _ _ (by omega), pu_eq, pu_ne _ _ _ (by omega), pu_ne _ _ _ (by omega), pu_ne _ _ _ (by omega)]
      have m7 : m' 7 = upd (m 7) t (-1) := by rw [f1 7 (by omega) (by omega) (by omega), pu_eq, pu_ne _ _ _ (by omega), pu_ne _ _ _ (by omega), pu_ne _ _ _ (by omega), pu_ne _ _ _ (by omega)]
      have m8 : ∀ p, m' 8 p = if 8 * t ≤ p ∧ p < 8 * t + 8 then 0 else m 8 p := fun p => by rw [f2 p, pu_ne _ _ _ (by omega), pu_ne _ _ _ (by omega), pu_ne _ _ _ (by omega), pu_ne _ _ _ (by omega), pu_ne _ _ _ (by omega)]; rfl
      have m16 : ∀ p, p < 48 → m' 16 p = m 16 p := fun p hp => by
        rw [f3 p, pu_ne _ _ _ (by omega), pu_ne _ _ _ (by omega), pu_ne _ _ _ (by omega), pu_ne _ _ _ (by omega), pu_ne _ _ _ (by omega)]
        by_cases e : 8 * t + 0 ≤ p ∧ p < 8 * t + 8
        · rw [if_pos e]
          have := a6 t (p - 8 * t) ht (by omega) h0
          rw [show 8 * t + (p - 8 * t) = p from by omega] at this
          exact this.symm
        · rw [if_neg e]
      have m19 : ∀ p, p < 48 → ¬ m 16 p = 0 → m' 19 p = m 19 p := fun p hp hk => by
        by_cases e : 8 * t + 0 ≤ p ∧ p < 8 * t + 8
        · exfalso
          have := a6 t (p - 8 * t) ht (by omega) h0
          rw [show 8 * t + (p - 8 * t) = p from by omega] at this
          exact hk this
        · rw [f4 p e, pu_ne _ _ _ (by omega), pu_ne _ _ _ (by omega), pu_ne _ _ _ (by omega), pu_ne _ _ _ (by omega), pu_ne _ _ _ (by omega)]
      have h1 : pA k' m' l el N := by
        refine ⟨?_, ?_, ?_, a4.one (u := t) (fun v hv e => hk _ (by omega) (by omega)) (fun i v i1 i2 _ _ _ e => ?_) (fun _ => ?_), ⟨fun p hp => ?_, ?_⟩, ?_, a7.of (hk _ (by omega) (by omega)) (hk _ (by omega) (by omega)) (by rw [hm 0 (by omega) (by omega) (by omega) (by omega) (by omega) (by omega) (by omega) (by omega)]) (hm 20 (by omega) (by omega) (by omega) (by omega) (by omega) (by omega) (by omega) (by omega)), a8.of (fun i i1 i2 => hk i (by omega) (by omega)), a9.of (by rw [hm 0 (by omega) (by omega) (by omega) (by omega) (by omega) (by omega) (by omega) (by omega)]) (hm 2 (by omega) (by omega) (by omega) (by omega) (by omega) (by omega) (by omega) (by omega)) (hm 9 (by omega) (by omega) (by omega) (by omega) (by omega) (by omega) (by omega) (by omega)), a10.of (hm 2 (by omega) (by omega) (by omega) (by omega) (by omega) (by omega) (by omega) (by omega)) (hm 9 (by omega) (by omega) (by omega) (by omega) (by omega) (by omega) (by omega) (by omega)) (hm 10 (by omega) (by omega) (by omega) (by omega) (by omega) (by omega) (by omega) (by omega)), a11.of (hm 2 (by omega) (by omega) (by omega) (by omega) (by omega) (by omega) (by omega) (by omega)) (hm 9 (by omega) (by omega) (by omega) (by omega) (by omega) (by omega) (by omega) (by omega)) (hm 10 (by omega) (by omega) (by omega) (by omega) (by omega) (by omega) (by omega) (by omega)), ?_, ?_⟩
        · unfold pQn
          rw [hk 0 (by omega) (by omega), hm 0 (by omega) (by omega) (by omega) (by omega) (by omega) (by omega) (by omega) (by omega)]
          exact a1
        · unfold pMe
          rw [hk 1 (by omega) (by omega), hm 1 (by omega) (by omega) (by omega) (by omega) (by omega) (by omega) (by omega) (by omega)]
          exact a2
        · intro u r hu2 hr
          rw [m8]
          by_cases e : u = t
          · subst e
            rw [hkr r hr, if_pos (by omega)]
          · rw [hk _ (by omega) (by omega), if_neg (by omega)]
            exact a3 u r hu2 hr
        · by_cases e3 : i = 3
          · subst e3; rw [m3, pd_ne _ _ e]
          · by_cases e4 : i = 4
            · subst e4; rw [m4, pd_ne _ _ e]
            · by_cases e5 : i = 5
              · subst e5; rw [m5, pd_ne _ _ e]
              · by_cases e6 : i = 6
                · subst e6; rw [m6, pd_ne _ _ e]
                · by_cases e7 : i = 7
                  · subst e7; rw [m7, pd_ne _ _ e]
                  · rw [hm i (by omega) (by omega) (by omega) e3 e4 e5 e6 e7]
        · unfold pT1
          rw [hkt, hm 2 (by omega) (by omega) (by omega) (by omega) (by omega) (by omega) (by omega) (by omega), h0, m4, m5, m6, pd_eq, pd_eq, pd_eq]
          refine ⟨?_, ?_, ?_, ?_, ⟨b, n, rfl, rfl, hbn⟩, fun q => absurd q (by decide), fun _ => ?_, fun q => absurd rfl q, fun q => absurd q (by decide), fun q => absurd q (by decide)⟩
          · rw [pd_ne _ _ (by omega), pd_ne _ _ (by omega), pd_ne _ _ (by omega), pd_ne _ _ (by omega), b1, h0]
          · rw [pd_ne _ _ (by omega), pd_ne _ _ (by omega), pd_ne _ _ (by omega), pd_eq]
          · rw [pd_ne _ _ (by omega), pd_ne _ _ (by omega), pd_eq]
          · rw [pd_ne _ _ (by omega), pd_eq]
          · rw [pd_ne _ _ (by omega), pd_ne _ _ (by omega), pd_ne _ _ (by omega), pd_ne _ _ (by omega)]
            exact b7 (by rw [h0]; decide)
        · rw [m16 p hp, hk 27 (by omega) (by omega), hk 28 (by omega) (by omega), hk 29 (by omega) (by omega), hk 30 (by omega) (by omega), hm 17 (by omega) (by omega) (by omega) (by omega) (by omega) (by omega) (by omega) (by omega), hm 18 (by omega) (by omega) (by omega) (by omega) (by omega) (by omega) (by omega) (by omega)]
          obtain ⟨c1, c2, c3⟩ := a5.1 p hp
          refine ⟨c1, c2, fun q => ?_⟩
          rw [m19 p hp q]
          exact c3 q
        · obtain ⟨rk, r1, r2⟩ := a5.2
          exact ⟨rk, qE.F (kd := m 16) (pa := m 19) (fun p hp => ⟨m16 p hp, fun q => m19 p hp q⟩) r1, r2⟩
        · intro u s hu2 hs hz
          rw [hm 2 (by omega) (by omega) (by omega) (by omega) (by omega) (by omega) (by omega) (by omega)] at hz
          rw [m16 _ (by omega)]
          exact a6 u s hu2 hs hz
        · unfold pCl
          rw [hm 2 (by omega) (by omega) (by omega) (by omega) (by omega) (by omega) (by omega) (by omega), m7]
          refine ⟨fun u hu2 hz => ?_, fun u v hu2 hv hz1 hz2 q1 q2 => ?_⟩
          · rw [pd_ne _ _ (fun q => hz (by rw [q]; exact h0))]
            exact a12.1 u hu2 hz
          · rw [pd_ne _ _ (fun q => hz1 (by rw [q]; exact h0)), pd_ne _ _ (fun q => hz2 (by rw [q]; exact h0))] at q1
            rw [pd_ne _ _ (fun q => hz1 (by rw [q]; exact h0))] at q2
            exact a12.2 u v hu2 hv hz1 hz2 q1 q2
        · rw [hk 0 (by omega) (by omega), hm 0 (by omega) (by omega) (by omega) (by omega) (by omega) (by omega) (by omega) (by omega)]
          exact a13
      have m2t : m' 2 t = 0 := by rw [hm 2 (by omega) (by omega) (by omega) (by omega) (by omega) (by omega) (by omega) (by omega)]; exact h0
      obtain ⟨d, d1, d2, d3⟩ := h1.2.2.2.2.2.2.2.2.1
      have h6 : l.length < 6 := h1.2.2.2.2.2.2.2.2.2.1.room ht (by
        by_cases q : pIn m' (-1) t = true
        · rw [pIn_m1, m2t] at q; exact absurd q (by decide)
        · simpa using q)
      refine ⟨nI t, _, _, _, _, (h1.ready hN ht m2t (by rw [m7, pd_eq]) (by rw [hkt, pd_eq]) d2 d1 h6).le (by omega), fun Q hQ => upK Q ⟨t + 1, vK_least1 ht ((hst t ht).trans h0) (fun u hu2 => by rw [hst u (by omega)]; exact hu u hu2) ?_ t 0 (by omega)⟩, fun Q hQ => ⟨t + 1, vM_least (by omega) (fun _ => h0) hu ?_ t 0 (by omega)⟩⟩
      · refine ⟨fun _ => ⟨hvt, ?_⟩, fun q => absurd q (pn_m1 (by omega))⟩
        rw [hct]
        refine ⟨⟨by omega, by omega⟩, ?_⟩
        rintro k2 rfl k3 rfl k4 rfl k5 rfl
        refine ⟨9, g3 _ ?_⟩
        exact vK_makeReady ht h1.2.2.2.2.2.2.2.1.1 h6 hQ
      · unfold wM_spawn_29
        rw [hct, e128]
        refine ⟨fun q => absurd q (fun w => absurd ((nI_eq (b := 6) (by omega) (by omega)).mp w) (by omega)), fun _ => ⟨fun q => absurd q (nI_pos (by omega)), fun _ => ⟨fun q => absurd q (nI_pos (by omega)), fun _ => ⟨fun q => absurd q (nI_nlt (a := 128) (by omega) (by decide)), fun _ => ⟨fun _ => ⟨hvt, ?_⟩, fun q => absurd (nI_le (by omega) (by omega)) q⟩⟩⟩⟩⟩
        rintro k7 rfl
        refine ⟨hvt, ?_⟩
        rintro k8 rfl
        refine ⟨hvt, ?_⟩
        rintro k9 rfl
        refine ⟨hvt, ?_⟩
        rintro k10 rfl
        refine ⟨hvt, ?_⟩
        rintro k11 rfl a12 rfl
        refine ⟨9, ?_⟩
        have e8 : 8 * nI t = nI (8 * t + 0) := by rw [show (8 : Int32) = nI 8 from rfl, pk_mul]; rfl
        rw [e8]
        exact f5 Q (vM_makeReady ht d2 hQ)
    · refine ⟨-1, k, m, l, el, h.le (by omega), fun Q hQ => upK Q ⟨7, vK_least0 (fun u hu2 => by rw [hst u hu2]; exact hu u hu2) ?_ 6 0 rfl⟩, fun Q hQ => ⟨7, vM_least (t := 6) (by omega) (fun q => absurd q (by omega)) hu ⟨fun _ => hQ, fun q => absurd rfl q⟩ 6 0 rfl⟩⟩
      exact ⟨fun q => absurd rfl q, fun _ => hQ⟩
  · refine ⟨-1, k, m, l, el, h.le (by omega), fun Q hQ => ?_, fun Q hQ => ?_⟩
    · have h29 : wK_spawn_28 x y z k Q := ⟨fun _ => ⟨fun q => absurd rfl q, fun _ => hQ⟩, fun q => absurd rfl q⟩
      by_cases hy : ∃ b, b < 129 ∧ y = nI b
      · obtain ⟨b, hb, rfl⟩ := hy
        refine vK_in1 (n := 129) rfl hb (by decide) ⟨fun _ => h29, fun _ => ?_⟩
        have e128 : (128 : Int32) - nI b = nI (128 - b) := by rw [show (128 : Int32) = nI 128 from rfl, pk_sub (by omega)]
        rw [e128]
        exact vK_in0 (n := 128 - b + 1) (by simp) (by omega) (by omega) (fun j j1 j2 => hf ⟨b, j, rfl, j2, by omega⟩) ⟨fun _ => h29, fun q => absurd rfl q⟩
      · exact vK_in0 (n := 129) rfl (by decide) (by decide) (fun j j1 j2 => hy ⟨j, j1, j2⟩) ⟨fun _ => h29, fun q => absurd rfl q⟩
    · have go : ∀ t, wM_spawn_29 x y z (nI t) m Q := by
        intro t
        refine ⟨fun _ => hQ, fun _ => ⟨fun _ => hQ, fun q1 => ⟨fun _ => hQ, fun q2 => ⟨fun _ => hQ, fun q3 => ⟨fun q4 => ?_, fun _ => hQ⟩⟩⟩⟩⟩
        exfalso
        obtain ⟨b, hb, rfl⟩ := pn_btw (n := 129) (hi := 128) rfl (by decide) (by decide) q1 q3
        have e128 : (128 : Int32) - nI b = nI (128 - b) := by rw [show (128 : Int32) = nI 128 from rfl, pk_sub (by omega)]
        rw [e128] at q4
        obtain ⟨n, n1, rfl⟩ := nI_of q2
        have := (nI_leI n1 (by omega)).mp q4
        exact hf ⟨b, n, rfl, rfl, by omega⟩
      rcases pn_least (m 2) with ⟨t, ht, h0, hu⟩ | hu
      · exact ⟨t + 1, vM_least (by omega) (fun _ => h0) hu (go t) t 0 (by omega)⟩
      · exact ⟨7, vM_least (t := 6) (by omega) (fun q => absurd q (by omega)) hu (go 6) 6 0 rfl⟩

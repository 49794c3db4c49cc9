/-! one step, on both sides -/
/-- between calls: l are the ready ones, el those at the endpoints -/
def pA (k m : mj_St) (l : List Nat) (el : Nat → List Nat) (N : Nat) : Prop := pQn k m ∧ pMe k m ∧ pRg k m ∧ pTh k m ∧ pCp k m ∧ pFr m ∧ pTp k m N ∧ pLn k l el ∧ pTk m N ∧ pRow m (-1) l ∧ pEp m el ∧ pCl m ∧ ∃ r q, k 0 7 = nI r ∧ m 0 12 = nI r ∧ m 0 0 = nI q ∧ r < q ∧ q ≤ 8
theorem pIn_m1 {m : mj_St} {u : Nat} : pIn m (-1) u = true ↔ m 2 u = 1 := by
  unfold pIn
  rw [if_neg (by decide)]
  simp
theorem pA.mid {k m : mj_St} {t : Nat} {tl : List Nat} {el : Nat → List Nat} {N : Nat} (h : pA k m (t :: tl) el N) : pS k m t tl el el N ∧ t < 6 ∧ m 2 t = 1 := by
  obtain ⟨a1, a2, a3, a4, a5, a6, a7, a8, a9, a10, a11, a12, a13⟩ := h
  have ht := (a10.1 t).mp List.mem_cons_self
  have hnd := List.nodup_cons.mp a10.nodup
  have hpw := List.pairwise_cons.mp a10.2
  refine ⟨⟨a1, a2, a3, a4, a5, a6, a7, a8, a9, ⟨fun u => ?_, hpw.2, fun _ u hu => hpw.1 u hu⟩, a11⟩, ht.1, pIn_m1.mp ht.2⟩
  have := a10.1 u
  rw [List.mem_cons, pIn_m1] at this
  constructor
  · intro hu
    have h2 := this.mp (Or.inr hu)
    exact ⟨h2.1, fun q => hnd.1 (q ▸ hu), h2.2⟩
  · rintro ⟨h1, h2, h3⟩
    exact (this.mpr ⟨h1, h3⟩).resolve_left h2
theorem pS.ofK {k m k' : mj_St} {t : Nat} {tl : List Nat} {el er : Nat → List Nat} {N : Nat} (h : pS k m t tl el er N) (h0 : k' 0 0 = k 0 0) (hk : ∀ i, 1 ≤ i → k' i = k i) : pS k' m t tl el er N := by
  obtain ⟨a1, a2, a3, a4, a6, a7, a8, a9, a10, a11, a12⟩ := h
  refine ⟨?_, ?_, ?_, a4.of (fun u hu => hk _ (by omega)) (fun _ _ _ _ _ _ => rfl), a6.of (hk _ (by omega)) (hk _ (by omega)) (hk _ (by omega)) (hk _ (by omega)) rfl rfl rfl rfl, a7, a8.of (hk _ (by omega)) (hk _ (by omega)) rfl rfl, a9.of (fun i h1 h2 => hk i (by omega)), a10, a11, a12⟩
  · unfold pQn; rw [h0]; exact a1
  · unfold pMe; rw [hk 1 (by omega)]; exact a2
  · intro u r hu hr
    rw [hk _ (by omega)]
    exact a3 u r hu hr
theorem pS.stay {k m : mj_St} {t : Nat} {tl : List Nat} {el : Nat → List Nat} {N r q : Nat} (h : pS k m t tl el el N) (ht : t < 6) (h1 : m 2 t = 1) (hC : pCl m) (hr : k 0 7 = nI r) (hm : m 0 12 = nI r) (hq : m 0 0 = nI q) (hrq : r < q) (hq8 : q ≤ 8) : pA k m (t :: tl) el N := by
  obtain ⟨a1, a2, a3, a4, a6, a7, a8, a9, a10, a11, a12⟩ := h
  refine ⟨a1, a2, a3, a4, a6, a7, a8, a9, a10, ⟨fun u => ?_, List.pairwise_cons.mpr ⟨fun u hu => a11.2.2 h1 u hu, a11.2.1⟩⟩, a12, hC, r, q, hr, hm, hq, hrq, hq8⟩
  rw [List.mem_cons, pIn_m1, a11.1 u]
  constructor
  · rintro (e | ⟨e1, e2, e3⟩)
    · subst e; exact ⟨ht, h1⟩
    · exact ⟨e1, e3⟩
  · rintro ⟨e1, e2⟩
    by_cases e : u = t
    · exact Or.inl e
    · exact Or.inr ⟨e1, e, e2⟩
theorem pS.leave {k m k' m' : mj_St} {t : Nat} {tl : List Nat} {el : Nat → List Nat} {N : Nat} (h : pS k m t tl el el N) (h1 : ¬ m 2 t = 1) (hC : pCl m) (hL : pL k' 15 tl) (hk : ∀ a, a ≠ 0 → a ≠ 15 → a ≠ 20 → k' a = k a) (hk0 : k' 0 0 = k 0 0) (hr : k' 0 7 = 0) (hm : ∀ i, i ≠ 0 → m' i = m i) (hm0 : ∀ j, j ≠ 12 → m' 0 j = m 0 j) (hm12 : m' 0 12 = 0) : pA k' m' tl el N := by
  obtain ⟨a1, a2, a3, a4, a6, a7, a8, a9, a10, a11, a12⟩ := h
  obtain ⟨q, q1, q2, q3⟩ := a1.2
  have hkk : ∀ a, a ≠ 0 → a ≠ 15 → a ≠ 20 → k' a = k a := hk
  refine ⟨?_, ?_, ?_, a4.of (fun u hu => hk _ (by omega) (by omega) (by omega)) (fun i hi _ _ _ _ => hm i (by omega)), a6.of (hk _ (by omega) (by omega) (by omega)) (hk _ (by omega) (by omega) (by omega)) (hk _ (by omega) (by omega) (by omega)) (hk _ (by omega) (by omega) (by omega)) (hm _ (by omega)) (hm _ (by omega)) (hm _ (by omega)) (hm _ (by omega)), a7.of (hm _ (by omega)) (hm _ (by omega)), a8.of (hk _ (by omega) (by omega) (by omega)) (hk _ (by omega) (by omega) (by omega)) (hm0 22 (by omega)) (hm _ (by omega)), ⟨hL, fun e he => (a9.2 e he).of (by rw [hk _ (by omega) (by omega) (by omega)]) (hk _ (by omega) (by omega) (by omega))⟩, a10.of (hm0 11 (by omega)) (hm _ (by omega)) (hm _ (by omega)), ⟨fun u => ?_, ?_⟩, a12.of (hm _ (by omega)) (hm _ (by omega)) (hm _ (by omega)), hC.of (hm _ (by omega)) (hm _ (by omega)), 0, q, hr, hm12, by rw [hm0 0 (by omega)]; exact q3, by omega, q2⟩
  · unfold pQn; rw [hk0, hm0 0 (by omega)]; exact a1
  · unfold pMe; rw [hk 1 (by omega) (by omega) (by omega), hm 1 (by omega)]; exact a2
  · intro u r hu hr
    rw [hk _ (by omega) (by omega) (by omega), hm 8 (by omega)]
    exact a3 u r hu hr
  · rw [a11.1 u, pIn_m1, hm 2 (by omega)]
    exact ⟨fun w => ⟨w.1, w.2.2⟩, fun w => ⟨w.1, fun e => h1 (e ▸ w.2), w.2⟩⟩
  · rw [hm 9 (by omega)]; exact a11.2.1
theorem pS.back {k m k' m' : mj_St} {t : Nat} {tl : List Nat} {el : Nat → List Nat} {N d : Nat} (h : pS k m t tl el el N) (hN : N < 2 ^ 30) (ht : t < 6) (h1 : m 2 t = 1) (hC : pCl m) (hL : pL k' 15 (tl ++ [t])) (hk : ∀ a, a ≠ 0 → a ≠ 15 → a ≠ 20 → k' a = k a) (hk0 : k' 0 0 = k 0 0) (hr : k' 0 7 = 0) (hd : m 0 11 = nI d) (hdN : d ≤ N) (hm : ∀ i, i ≠ 0 → i ≠ 9 → m' i = m i) (hm9 : m' 9 = upd (m 9) t (nI d)) (hm0 : ∀ j, j ≠ 11 → j ≠ 12 → m' 0 j = m 0 j) (h11 : m' 0 11 = nI (d + 1)) (hm12 : m' 0 12 = 0) : pA k' m' (tl ++ [t]) el (N + 1) := by
  obtain ⟨a1, a2, a3, a4, a6, a7, a8, a9, a10, a11, a12⟩ := h
  obtain ⟨q, q1, q2, q3⟩ := a1.2
  have hnt : ∀ v, v ∈ tl → v ≠ t := fun v hv => ((a11.1 v).mp hv).2.1
  refine ⟨?_, ?_, ?_, a4.of (fun u hu => hk _ (by omega) (by omega) (by omega)) (fun i hi _ _ h9 _ => hm i (by omega) h9), a6.of (hk _ (by omega) (by omega) (by omega)) (hk _ (by omega) (by omega) (by omega)) (hk _ (by omega) (by omega) (by omega)) (hk _ (by omega) (by omega) (by omega)) (hm _ (by omega) (by omega)) (hm _ (by omega) (by omega)) (hm _ (by omega) (by omega)) (hm _ (by omega) (by omega)), a7.of (hm _ (by omega) (by omega)) (hm _ (by omega) (by omega)), (a8.of (hk _ (by omega) (by omega) (by omega)) (hk _ (by omega) (by omega) (by omega)) (hm0 22 (by omega) (by omega)) (hm _ (by omega) (by omega))).le (by omega), ⟨hL, fun e he => (a9.2 e he).of (by rw [hk _ (by omega) (by omega) (by omega)]) (hk _ (by omega) (by omega) (by omega))⟩, ⟨d + 1, by omega, h11, fun v hv hv2 => ?_⟩, ⟨fun u => ?_, ?_⟩, a12.other (u := t) (by rw [h1]; decide) (by rw [h1]; decide) (by rw [hm 2 (by omega) (by omega), h1]; decide) (by rw [hm 2 (by omega) (by omega), h1]; decide) (fun v hv => ⟨by rw [hm 2 (by omega) (by omega)], by rw [hm9, pd_ne _ _ hv], by rw [hm 10 (by omega) (by omega)]⟩), hC.of (hm _ (by omega) (by omega)) (hm _ (by omega) (by omega)), 0, q, hr, hm12, by rw [hm0 0 (by omega) (by omega)]; exact q3, by omega, q2⟩
  · unfold pQn; rw [hk0, hm0 0 (by omega) (by omega)]; exact a1
  · unfold pMe; rw [hk 1 (by omega) (by omega) (by omega), hm 1 (by omega) (by omega)]; exact a2
  · intro u r hu hr
    rw [hk _ (by omega) (by omega) (by omega), hm 8 (by omega) (by omega)]
    exact a3 u r hu hr
  · rw [hm9]
    by_cases e : v = t
    · exact ⟨d, by omega, by rw [e, pd_eq]⟩
    · rw [hm 2 (by omega) (by omega)] at hv2
      rw [pd_ne _ _ e]
      obtain ⟨d', c1, c2, c3⟩ := a10
      have : d' = d := (nI_eq (by omega) (by omega)).mp (c2.symm.trans hd)
      subst this
      obtain ⟨j, j1, j2⟩ := c3 v hv hv2
      exact ⟨j, by omega, j2⟩
  · rw [List.mem_append, List.mem_singleton, a11.1 u, pIn_m1, hm 2 (by omega) (by omega)]
    constructor
    · rintro (w | w)
      · exact ⟨w.1, w.2.2⟩
      · subst w; exact ⟨ht, h1⟩
    · rintro ⟨w1, w2⟩
      by_cases e : u = t
      · exact Or.inr e
      · exact Or.inl ⟨w1, e, w2⟩
  · rw [List.pairwise_append]
    refine ⟨List.Pairwise.imp_of_mem ?_ a11.2.1, List.pairwise_singleton _ _, fun a ha b hb => ?_⟩
    · intro a b ha hb hab
      rw [hm9, pd_ne _ _ (hnt a ha), pd_ne _ _ (hnt b hb)]
      exact hab
    · rw [List.mem_singleton] at hb
      subst hb
      rw [hm9, pd_eq, pd_ne _ _ (hnt a ha)]
      obtain ⟨b1, b2, b3⟩ := (a11.1 a).mp ha
      exact pn_tk a10 hd hN (by omega) b1 (Or.inl b3)
theorem pA.le {k m : mj_St} {l : List Nat} {el : Nat → List Nat} {N N' : Nat} (h : pA k m l el N) (hN : N ≤ N') : pA k m l el N' := by
  obtain ⟨a1, a2, a3, a4, a5, a6, a7, a8, a9, a10⟩ := h
  exact ⟨a1, a2, a3, a4, a5, a6, a7.le hN, a8, a9.le hN, a10⟩
theorem pA.le1 {k m : mj_St} {l : List Nat} {el : Nat → List Nat} {N : Nat} (h : pA k m l el N) : pA k m l el (N + 1) := h.le (by omega)
/-- the reference's end of a step -/
def wM_tail (p0 : Int32) (k1 : mj_St) (Q : mj_St → Prop) : Prop := (vp_in p0 6 ∧ ((((k1 2 p0.toNatClampNeg) = 1) → (((k1 0 12) < (k1 0 0)) → Q k1) ∧ ((¬ (k1 0 12) < (k1 0 0)) → wM_draw p0 k1 (fun k4 => (∀ k5 : mj_St, k5 = mj_up k4 0 12 0 → (Q k5))))) ∧ ((¬ (k1 2 p0.toNatClampNeg) = 1) → ∀ k6 : mj_St, k6 = mj_up k1 0 12 0 → (Q k6))))
theorem xSettle {k m : mj_St} {t : Nat} {tl : List Nat} {el : Nat → List Nat} {N r q : Nat} {y : Int32} (h : pS k m t tl el el N) (hN : N < 2 ^ 30) (ht : t < 6) (hC : pCl m) (hr : k 0 7 = nI r) (hq : m 0 0 = nI q) (hrq : r < q) (hq8 : q ≤ 8) (hx : m 2 t = 1 → m 0 12 = if y = 0 then nI (r + 1) else nI q) :
    ∃ k' m' l', pA k' m' l' el (N + 1) ∧ (∀ Q : mj_St → Prop, Q k' → wK_settleFirst (nI t) y k Q) ∧ (∀ Q : mj_St → Prop, Q m' → wM_tail (nI t) m Q) := by
  have hvt : vp_in (nI t) 6 := vp_in_nI ht (by decide)
  have hct : (nI t).toNatClampNeg = t := nI_clamp (by omega)
  have hst : k (3 + t) 1 = m 2 t := (h.2.2.2.1 t ht).1
  have hkq : k 0 0 = nI q := h.1.1.trans hq
  have hL0 : pL k 15 (t :: tl) := h.2.2.2.2.2.2.2.1.1
  have e1 : mj_up k 0 7 (k 0 7 + 1) = mj_up k 0 7 (nI (r + 1)) := by rw [hr, nI_1]
  have e2 : mj_up k 0 7 (nI (r + 1)) (3 + t) 1 = m 2 t := by rw [pu_ne _ _ _ (by omega), hst]
  have e3 : mj_up k 0 7 (nI (r + 1)) 0 0 = nI q := by rw [pu_eq, pd_ne _ _ (by omega), hkq]
  have e4 : mj_up k 0 7 (nI (r + 1)) 0 7 = nI (r + 1) := by rw [pu_eq, pd_eq]
  obtain ⟨k5, g1, g2, g3⟩ := xN_takeFirst (o := 15) (by decide) (hL0.of (k' := mj_up k 0 7 (nI (r + 1))) (by rw [pu_ne _ _ _ (by omega)]) (pu_ne _ _ _ (by omega)))
  have g2' : ∀ a, a ≠ 0 → a ≠ 15 → a ≠ 20 → k5 a = k a := fun a b1 b2 b3 => by rw [g2 a b2 b3, pu_ne _ _ _ b1]
  have g0 : k5 0 0 = k 0 0 := by rw [g2 0 (by omega) (by omega), e3, hkq]
  by_cases h1 : m 2 t = 1
  · by_cases hs : y = 0 ∧ r + 1 < q
    · have hm := hx h1
      rw [if_pos hs.1] at hm
      refine ⟨mj_up k 0 7 (nI (r + 1)), m, t :: tl, ((h.ofK (k' := mj_up k 0 7 (nI (r + 1))) (by rw [e3, hkq]) (fun i hi => pu_ne _ _ _ (by omega))).stay ht h1 hC e4 hm hq hs.2 hq8).le1, fun Q hQ => ?_, fun Q hQ => ?_⟩
      · intro k1 hk1
        rw [hk1, e1, hct, e2]
        refine ⟨hvt, fun z => absurd h1 z, fun _ => ⟨fun z => absurd z (by decide), fun _ => ⟨fun z => absurd hs.1 z, fun _ => ⟨fun z => ?_, fun _ => hQ⟩⟩⟩⟩
        rw [e3, e4] at z
        exact absurd z (nI_ge (by omega) (by omega))
      · unfold wM_tail
        rw [hct]
        refine ⟨hvt, fun _ => ⟨fun _ => hQ, fun z => ?_⟩, fun z => absurd h1 z⟩
        rw [hm, hq] at z
        exact absurd (nI_lt hs.2 (by omega)) z
    · obtain ⟨d, d1, d2, d3⟩ := h.2.2.2.2.2.2.2.2.1
      have hl6 : tl.length < 6 := by
        have := hL0.2.1
        rw [List.length_cons] at this
        omega
      have e20 : (15 : Nat) + 5 = 20 := rfl
      have hkk : ∀ a, a ≠ 0 → a ≠ 15 → a ≠ 20 → mj_up (mj_up (mj_up k5 (15 + 5) tl.length (nI t)) 15 1 (nI (tl.length + 1))) 0 7 0 a = k a := fun a b1 b2 b3 => by rw [pu_ne _ _ _ b1, pu_ne _ _ _ b2, pu_ne _ _ _ b3, g2' a b1 b2 b3]
      refine ⟨mj_up (mj_up (mj_up k5 (15 + 5) tl.length (nI t)) 15 1 (nI (tl.length + 1))) 0 7 0, mj_up (mj_up (mj_up m 9 t (nI d)) 0 11 (nI (d + 1))) 0 12 0, tl ++ [t], h.back (d := d) hN ht h1 hC ((g1.append hl6).of (by rw [pu_ne _ _ _ (by omega)]) (pu_ne _ _ _ (by omega))) hkk (by rw [pu_eq, pd_ne _ _ (by omega), pu_ne _ _ _ (by omega), pu_ne _ _ _ (by omega), g0]) (by rw [pu_eq, pd_eq]) d2 d1 (fun i i0 i9 => by rw [pu_ne _ _ _ i0, pu_ne _ _ _ i0, pu_ne _ _ _ i9]) (by rw [pu_ne _ _ _ (by omega), pu_ne _ _ _ (by omega), pu_eq]) (fun j j1 j2 => by rw [pu_eq, pd_ne _ _ j2, pu_eq, pd_ne _ _ j1, pu_ne _ _ _ (by omega)]) (by rw [pu_eq, pd_ne _ _ (by omega), pu_eq, pd_eq]) (by rw [pu_eq, pd_eq]), fun Q hQ => ?_, fun Q hQ => ?_⟩
      · have h49 : wK_settleFirst_49 (nI t) 1 (mj_up k 0 7 (nI (r + 1))) Q := by
          refine g3 _ ⟨fun z => absurd z (by decide), fun _ => vN_append (by decide) g1 hl6 ?_⟩
          rintro k9 rfl
          exact hQ
        intro k1 hk1
        rw [hk1, e1, hct, e2]
        refine ⟨hvt, fun z => absurd h1 z, fun _ => ⟨fun z => absurd z (by decide), fun _ => ⟨fun _ => h49, fun z => ⟨fun _ => h49, fun z2 => ?_⟩⟩⟩⟩
        rw [e3, e4] at z2
        have hn : ¬ r + 1 < q := fun w => hs ⟨z, w⟩
        exact absurd (nI_le (by omega) (by omega)) z2
      · unfold wM_tail
        rw [hct]
        refine ⟨hvt, fun _ => ⟨fun z => ?_, fun _ => vM_draw ht d2 ?_⟩, fun z => absurd h1 z⟩
        · exfalso
          rw [hx h1, hq] at z
          by_cases hy : y = 0
          · rw [if_pos hy] at z
            have hn : ¬ r + 1 < q := fun w => hs ⟨hy, w⟩
            exact nI_nlt (by omega) (by omega) z
          · rw [if_neg hy] at z
            exact pn_irr z
        · rintro k5 rfl
          exact hQ
  · refine ⟨mj_up k5 0 7 0, mj_up m 0 12 0, tl, (h.leave (k' := mj_up k5 0 7 0) (m' := mj_up m 0 12 0) h1 hC (g1.of (by rw [pu_ne _ _ _ (by omega)]) (pu_ne _ _ _ (by omega))) (fun a b1 b2 b3 => by rw [pu_ne _ _ _ b1, g2' a b1 b2 b3]) (by rw [pu_eq, pd_ne _ _ (by omega), g0]) (by rw [pu_eq, pd_eq]) (fun i hi => pu_ne _ _ _ hi) (fun j hj => by rw [pu_eq, pd_ne _ _ hj]) (by rw [pu_eq, pd_eq])).le1, fun Q hQ => ?_, fun Q hQ => ?_⟩
    · intro k1 hk1
      rw [hk1, e1, hct, e2]
      refine ⟨hvt, fun _ => ⟨fun _ => g3 _ ⟨fun _ => ?_, fun z => absurd rfl z⟩, fun z => absurd rfl z⟩, fun z => absurd z h1⟩
      rintro k7 rfl
      exact hQ
    · unfold wM_tail
      rw [hct]
      refine ⟨hvt, fun z => absurd z h1, fun _ => ?_⟩
      rintro k6 rfl
      exact hQ
/-- t faults -/
theorem pS.fault {k m : mj_St} {t : Nat} {tl : List Nat} {el : Nat → List Nat} {N : Nat} (f : Int32) (hS : pS k m t tl el el N) (ht : t < 6) (h2 : m 2 t = 1) (hC : pCl m) : pS (mj_up (mj_up k (3 + t) 1 5) (3 + t) 2 f) (mj_up (mj_up m 2 t 5) 3 t f) t tl el el N ∧ pCl (mj_up (mj_up m 2 t 5) 3 t f) := by
  have e2 : mj_up (mj_up m 2 t 5) 3 t f 2 = upd (m 2) t 5 := by rw [pu_ne _ _ _ (by omega), pu_eq]
  have e3 : mj_up (mj_up m 2 t 5) 3 t f 3 = upd (m 3) t f := by rw [pu_eq, pu_ne _ _ _ (by omega)]
  have ei : ∀ i, i ≠ 2 → i ≠ 3 → mj_up (mj_up m 2 t 5) 3 t f i = m i := fun i h2 h3 => by rw [pu_ne _ _ _ h3, pu_ne _ _ _ h2]
  have hup : ∀ v, v ≠ t → mj_up (mj_up m 2 t 5) 3 t f 2 v = m 2 v := fun v hv => by rw [e2, pd_ne _ _ hv]
  have hut : mj_up (mj_up m 2 t 5) 3 t f 2 t = 5 := by rw [e2, pd_eq]
  refine ⟨hS.turn (u := t) (er' := el) ht (fun i hi => by rw [pu_ne _ _ _ hi, pu_ne _ _ _ hi]) ei (fun v hv => ⟨hup v hv, by rw [e3, pd_ne _ _ hv]⟩) ?_ (by rw [hut]; decide) (by rw [hut]; decide) ?_ ?_, ?_, ?_⟩
  · obtain ⟨b1, b2, b3, b4, b5, b6, b7, b8, b9, b10⟩ := hS.2.2.2.1 t ht
    unfold pT1
    rw [hut, e3, ei 4 (by omega) (by omega), ei 5 (by omega) (by omega), ei 6 (by omega) (by omega), ei 7 (by omega) (by omega), pu_eq, pu_eq, pd_eq, pd_eq, pd_ne _ _ (show (1 : Nat) ≠ 2 by omega), pd_eq, pd_ne _ _ (show (3 : Nat) ≠ 2 by omega), pd_ne _ _ (show (3 : Nat) ≠ 1 by omega), pd_ne _ _ (show (4 : Nat) ≠ 2 by omega), pd_ne _ _ (show (4 : Nat) ≠ 1 by omega), pd_ne _ _ (show (5 : Nat) ≠ 2 by omega), pd_ne _ _ (show (5 : Nat) ≠ 1 by omega), pd_ne _ _ (show (6 : Nat) ≠ 2 by omega), pd_ne _ _ (show (6 : Nat) ≠ 1 by omega)]
    exact ⟨rfl, b2, b3, b4, b5, fun _ => rfl, fun q => absurd rfl q, fun _ => b8 (by rw [h2]; decide), fun q => absurd q (by decide), fun q => absurd q (by decide)⟩
  · exact hS.2.2.2.2.2.2.2.2.2.1.own (by rw [hut]; decide) (fun v hv => ⟨hup v hv, by rw [ei 9 (by omega) (by omega)]⟩)
  · exact hS.2.2.2.2.2.2.2.2.2.2.other (u := t) (by rw [h2]; decide) (by rw [h2]; decide) (by rw [hut]; decide) (by rw [hut]; decide) (fun v hv => ⟨hup v hv, by rw [ei 9 (by omega) (by omega)], by rw [ei 10 (by omega) (by omega)]⟩)
  · intro u hu hz
    rw [ei 7 (by omega) (by omega)]
    have hz' : ¬ m 2 u = 0 := by
      by_cases q : u = t
      · rw [q, h2]; decide
      · rw [hup u q] at hz; exact hz
    rcases hC.1 u hu hz' with g | ⟨x, g1, g2, g3⟩
    · exact Or.inl g
    · refine Or.inr ⟨x, g1, g2, ?_⟩
      rw [hup x (fun q => by rw [q, h2] at g3; exact absurd g3 (by decide))]
      exact g3
  · intro u v hu hv hz1 hz2 h1 h2'
    have nz : ∀ x, ¬ mj_up (mj_up m 2 t 5) 3 t f 2 x = 0 → ¬ m 2 x = 0 := by
      intro x hx
      by_cases q : x = t
      · rw [q, h2]; decide
      · rw [hup x q] at hx; exact hx
    rw [ei 7 (by omega) (by omega)] at h1 h2'
    exact hC.2 u v hu hv (nz u hz1) (nz v hz2) h1 h2'
/-- t's counter -/
theorem pS.cnt {k m : mj_St} {t : Nat} {tl : List Nat} {el er : Nat → List Nat} {N r : Nat} {v : Int32} (h : pS k m t tl el er N) (hr : r < 6) : pS (mj_up k (3 + r) 3 v) (mj_up m 4 r v) t tl el er N := by
  obtain ⟨a1, a2, a3, a4, a6, a7, a8, a9, a10, a11, a12⟩ := h
  have hk : ∀ i, i ≠ 3 + r → mj_up k (3 + r) 3 v i = k i := fun i hi => pu_ne _ _ _ hi
  have hm : ∀ i, i ≠ 4 → mj_up m 4 r v i = m i := fun i hi => pu_ne _ _ _ hi
  refine ⟨?_, ?_, ?_, a4.one (u := r) (fun w hw e => hk _ (by omega)) (fun i w _ _ _ _ _ e => ?_) (fun _ => ?_), a6.of (hk _ (by omega)) (hk _ (by omega)) (hk _ (by omega)) (hk _ (by omega)) (hm _ (by omega)) (hm _ (by omega)) (hm _ (by omega)) (hm _ (by omega)), a7.of (hm _ (by omega)) (hm _ (by omega)), a8.of (hk _ (by omega)) (hk _ (by omega)) (by rw [hm _ (by omega)]) (hm _ (by omega)), a9.of (fun i h1 h2 => hk i (by omega)), a10.of (by rw [hm _ (by omega)]) (hm _ (by omega)) (hm _ (by omega)), a11.of (hm _ (by omega)) (hm _ (by omega)), a12.of (hm _ (by omega)) (hm _ (by omega)) (hm _ (by omega))⟩
  · unfold pQn
    rw [hk _ (by omega), hm _ (by omega)]
    exact a1
  · unfold pMe
    rw [hk _ (by omega), hm _ (by omega)]
    exact a2
  · intro w s hw hs
    rw [hk _ (by omega), hm _ (by omega)]
    exact a3 w s hw hs
  · by_cases e7 : i = 4
    · subst e7; rw [pu_eq, pd_ne _ _ e]
    · rw [hm i e7]
  · obtain ⟨b1, b2, b3, b4, b5, b6, b7, b8, b9, b10⟩ := a4 r hr
    unfold pT1
    rw [pu_eq, hm 2 (by omega), hm 3 (by omega), pu_eq, hm 5 (by omega), hm 6 (by omega), hm 7 (by omega), hm 11 (by omega), hm 12 (by omega), hm 13 (by omega), hm 14 (by omega), hm 15 (by omega), pd_ne _ _ (show (1 : Nat) ≠ 3 by omega), pd_eq, pd_eq, pd_ne _ _ (show (4 : Nat) ≠ 3 by omega), pd_ne _ _ (show (5 : Nat) ≠ 3 by omega), pd_ne _ _ (show (2 : Nat) ≠ 3 by omega), pd_ne _ _ (show (6 : Nat) ≠ 3 by omega), pd_ne _ _ (show (7 : Nat) ≠ 3 by omega), pd_ne _ _ (show (8 : Nat) ≠ 3 by omega)]
    exact ⟨b1, rfl, b3, b4, b5, b6, b7, b8, b9, b10⟩
theorem vM_fault28 {t x v : Int32} {m : mj_St} {Q : Int32 → Prop} (h : wM_faultOf t x (mj_up m 0 28 v) Q) : wM_faultOf t x m Q := h
/-- is the counter good? asked by the class -/
theorem vT_good {k : mj_St} {t n : Nat} {x : Int32} {Q : Int32 → Prop} (ht : t < 6) (hn : n < 2 ^ 31) (hl : k (3 + t) 5 = nI n) (h1 : ∀ j, j < n → x = nI j → Q 1) (h0 : (x < 0 ∨ ¬ x < nI n) → Q 0) : wT_isGood (3 + t) x.toInt64 k Q := by
  unfold wT_isGood
  rw [hl]
  refine ⟨⟨by omega, by omega⟩, fun z => h0 (Or.inl ?_), fun z => ⟨fun z2 => h0 (Or.inr ?_), fun z2 => ?_⟩⟩
  · have := (lg_cmp_lt _ _).mp z
    rw [Int64.lt_iff_toInt_lt, Int32.toInt_toInt64, show (0 : Int64).toInt = 0 from by decide] at this
    rw [Int32.lt_iff_toInt_lt, show (0 : Int32).toInt = 0 from by decide]
    exact this
  · have := (lg_cmp_ge _ _).mp z2
    rw [Int64.le_iff_toInt_le, Int32.toInt_toInt64, Int32.toInt_toInt64] at this
    rw [Int32.lt_iff_toInt_lt]
    omega
  · have z0 : ¬ x.toInt64 < 0 := fun y => z ((lg_cmp_lt _ _).mpr y)
    have z1 : ¬ (nI n).toInt64 ≤ x.toInt64 := fun y => z2 ((lg_cmp_ge _ _).mpr y)
    rw [Int64.lt_iff_toInt_lt, Int32.toInt_toInt64, show (0 : Int64).toInt = 0 from by decide] at z0
    rw [Int64.le_iff_toInt_le, Int32.toInt_toInt64, Int32.toInt_toInt64] at z1
    rcases pn_rng x n hn with q | q | ⟨j, j1, j2⟩
    · rw [Int32.lt_iff_toInt_lt, show (0 : Int32).toInt = 0 from by decide] at q
      exact absurd q z0
    · rw [Int32.le_iff_toInt_le] at q
      exact absurd q z1
    · exact h1 j j1 j2

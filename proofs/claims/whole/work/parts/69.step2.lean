/-! a step of the first, on both sides -/
theorem xStep {k m : mj_St} {t : Nat} {tl : List Nat} {el : Nat → List Nat} {N : Nat} (h : pA k m (t :: tl) el N) (hN : N < 2 ^ 29) :
    ∃ k' m' l' el', pA k' m' l' el' (N + 3) ∧ (∀ Q : mj_St → Prop, Q k' → wK_runFirst (nI t) k Q) ∧ (∀ Q : mj_St → Prop, Q m' → wM_oneStep (nI t) m Q) := by
  obtain ⟨hS, ht, h1⟩ := h.mid
  have hC : pCl m := h.2.2.2.2.2.2.2.2.2.2.2.1
  obtain ⟨r, q, r1, r2, r3, r4, r5⟩ := h.2.2.2.2.2.2.2.2.2.2.2.2
  have hvt : vp_in (nI t) 6 := vp_in_nI ht (by decide)
  have hct : (nI t).toNatClampNeg = t := nI_clamp (by omega)
  obtain ⟨b1, b2, b3, b4, ⟨bs, ln, c1, c2, c3⟩, -⟩ := hS.2.2.2.1 t ht
  have k5 : k (3 + t) 5 = nI ln := b4.trans c2
  have one : ∀ (m : mj_St) (Q : mj_St → Prop), wM_execute (nI t) m (fun k1 => wM_tail (nI t) k1 Q) → wM_oneStep (nI t) m Q := fun _ _ h => h
  -- a fault, at any state of the reference with the same threads
  have flt : ∀ (f : Int32) (mx : mj_St), pS k mx t tl el el N → mx 2 t = 1 → pCl mx → mx 0 0 = nI q → ∃ k' m' l', pA k' m' l' el (N + 3) ∧ (∀ Q : mj_St → Prop, Q k' → wT_fail (3 + t) f k (fun k8 => wK_runFirst_94 (nI t) 0 k8 Q)) ∧ (∀ Q : mj_St → Prop, Q m' → wM_fail (nI t) f mx (fun k19 => wM_tail (nI t) k19 Q)) := by
    intro f mx hx hx1 hxC hx0
    obtain ⟨f1, f2⟩ := hx.fault f ht hx1 hxC
    obtain ⟨k', m', l', s1, s2, s3⟩ := xSettle (y := 0) (r := r) (q := q) f1 (by omega) ht f2 (by rw [pu_ne _ _ _ (by omega), pu_ne _ _ _ (by omega)]; exact r1) (by rw [pu_ne _ _ _ (by omega), pu_ne _ _ _ (by omega)]; exact hx0) r4 r5 (fun z => by rw [pu_ne _ _ _ (by omega), pu_eq, pd_eq] at z; exact absurd z (by decide))
    refine ⟨k', m', l', s1.le (by omega), fun Q hQ => ?_, fun Q hQ => ?_⟩
    · refine ⟨⟨by omega, by omega⟩, ?_⟩
      rintro k2 rfl k3 rfl
      exact s2 Q hQ
    · unfold wM_fail
      rw [hct]
      refine ⟨hvt, ?_⟩
      rintro k1 rfl
      refine ⟨hvt, ?_⟩
      rintro k2 rfl
      exact s3 Q hQ
  by_cases hg : ∃ j, j < ln ∧ m 4 t = nI j
  · obtain ⟨j, j1, j2⟩ := hg
    have hk3 : k (3 + t) 3 = nI j := b2.trans j2
    have hadd : nI bs + nI j = nI (bs + j) := nI_add _ _
    have hw : k 1 (bs + j) = m 1 (bs + j) := hS.2.1 _ (by omega)
    generalize ew : m 1 (bs + j) = w at hw
    -- the reference's state when the instruction is known
    have e0 : ∀ v : Int32, ∀ i, 1 ≤ i → mj_up (mj_up (mj_up (mj_up (mj_up m 0 24 (fdA w)) 0 25 (fdB w)) 0 26 (fdC w)) 0 27 (fdN w)) 0 28 v i = m i := fun v i hi => by rw [pu_ne _ _ _ (by omega), pu_ne _ _ _ (by omega), pu_ne _ _ _ (by omega), pu_ne _ _ _ (by omega), pu_ne _ _ _ (by omega)]
    have e1 : ∀ i, 1 ≤ i → mj_up (mj_up (mj_up (mj_up m 0 24 (fdA w)) 0 25 (fdB w)) 0 26 (fdC w)) 0 27 (fdN w) i = m i := fun i hi => by rw [pu_ne _ _ _ (by omega), pu_ne _ _ _ (by omega), pu_ne _ _ _ (by omega), pu_ne _ _ _ (by omega)]
    have e2 : ∀ i, i < 24 → mj_up (mj_up (mj_up (mj_up m 0 24 (fdA w)) 0 25 (fdB w)) 0 26 (fdC w)) 0 27 (fdN w) 0 i = m 0 i := fun i hi => by rw [pu_eq, pd_ne _ _ (by omega), pu_eq, pd_ne _ _ (by omega), pu_eq, pd_ne _ _ (by omega), pu_eq, pd_ne _ _ (by omega)]
    have e3 : ∀ v : Int32, ∀ i, i < 24 → mj_up (mj_up (mj_up (mj_up (mj_up m 0 24 (fdA w)) 0 25 (fdB w)) 0 26 (fdC w)) 0 27 (fdN w)) 0 28 v 0 i = m 0 i := fun v i hi => by rw [pu_eq, pd_ne _ _ (by omega), e2 i hi]
    generalize em : mj_up (mj_up (mj_up (mj_up m 0 24 (fdA w)) 0 25 (fdB w)) 0 26 (fdC w)) 0 27 (fdN w) = mx at e0 e1 e2 e3
    have hx0 : pS k mx t tl el el N := hS.ofM (e2 0 (by omega)) (e2 11 (by omega)) (e2 22 (by omega)) e1
    have hH : pH k (mj_up mx 0 28 (nI j + 1)) t tl el N w := by
      refine ⟨hS.ofM (e3 _ 0 (by omega)) (e3 _ 11 (by omega)) (e3 _ 22 (by omega)) (e0 _), hC.of (e0 _ 2 (by omega)) (e0 _ 7 (by omega)), ht, by rw [e0 _ 2 (by omega)]; exact h1, ?_, ?_, ?_, ?_, ?_, hN⟩
      · rw [← em, pu_eq, pd_ne _ _ (by omega), pu_eq, pd_ne _ _ (by omega), pu_eq, pd_ne _ _ (by omega), pu_eq, pd_ne _ _ (by omega), pu_eq, pd_eq]
      · rw [← em, pu_eq, pd_ne _ _ (by omega), pu_eq, pd_ne _ _ (by omega), pu_eq, pd_ne _ _ (by omega), pu_eq, pd_eq]
      · rw [← em, pu_eq, pd_ne _ _ (by omega), pu_eq, pd_ne _ _ (by omega), pu_eq, pd_eq]
      · rw [← em, pu_eq, pd_ne _ _ (by omega), pu_eq, pd_eq]
      · rw [pu_eq, pd_eq, pu_ne _ _ _ (by omega), e1 4 (by omega), j2]
    obtain ⟨f, k', i1, i2, i3⟩ := xInstr hH
    have i2' : ∀ Q : Int32 → Prop, Q f → wM_faultOf (nI t) (w &&& 31) mx Q := fun Q hQ => vM_fault28 (i2 Q hQ)
    -- up to the instruction, on both sides
    have upK : ∀ Q : mj_St → Prop, wK_perform (nI t) w k (fun a5 k6 => (((¬ a5 = 0) → wT_fail (3 + t) a5 k6 (fun k8 => (wK_runFirst_94 (nI t) 0 k8 Q))) ∧ ((a5 = 0) → wK_counterAfter (3 + t) w k6 (fun a10 => (∀ k11 : mj_St, k11 = mj_up k6 (3 + t) 3 a10 → (wK_opOf w (fun a12 => (((¬ a12 = 13) → wK_runFirst_84 (nI t) 0 k11 Q) ∧ ((a12 = 13) → wK_runFirst_84 (nI t) 1 k11 Q)))))))) ) → wK_runFirst (nI t) k Q := by
      intro Q hQ
      unfold wK_runFirst
      rw [hct]
      refine ⟨hvt, vT_good (n := ln) ht (by omega) k5 (fun j' q1 q2 => ⟨fun _ => ?_, fun z => absurd z (by decide)⟩) (fun z => ?_)⟩
      · rw [b3, c1, hk3, hadd, nI_clamp (by omega)]
        refine ⟨vp_in_nI (by omega) (by decide), ?_⟩
        rintro a4 rfl
        rw [hw]
        exact hQ
      · exfalso
        rw [hk3] at z
        rcases z with z | z
        · exact nI_pos (by omega) z
        · exact z (nI_lt j1 (by omega))
    have upM : ∀ Q : mj_St → Prop, wM_faultOf (nI t) (w &&& 31) mx (fun a11 => (((a11 ≤ 0) → ∀ k13 : mj_St, k13 = mj_up mx 0 28 (nI j + 1) → (wM_act (nI t) (w &&& 31) k13 (fun k14 => (vp_in (nI t) 6 ∧ (∀ k15 : mj_St, k15 = mj_up k14 4 t (k14 0 28) → (((¬ w &&& 31 = 13) → ∀ k17 : mj_St, k17 = mj_up k15 0 12 ((k15 0 12) + 1) → (Q k17)) ∧ ((w &&& 31 = 13) → ∀ k18 : mj_St, k18 = mj_up k15 0 12 (k15 0 0) → (Q k18)))))))) ∧ ((¬ a11 ≤ 0) → wM_fail (nI t) a11 mx (fun k19 => (Q k19))))) → wM_execute (nI t) m Q := by
      intro Q hQ
      unfold wM_execute
      rw [hct]
      refine ⟨hvt, ?_⟩
      intro a1 ha1
      rw [j2] at ha1
      subst ha1
      rw [c1, c2, hadd, nI_clamp (by omega), ew]
      refine ⟨fun z => absurd z (nI_pos (by omega)), fun _ => ⟨hvt, fun _ => ⟨hvt, vp_in_nI (by omega) (by decide), ?_⟩, fun z => absurd (nI_lt j1 (by omega)) z⟩⟩
      rintro a5 rfl a6 rfl k7 rfl k8 rfl k9 rfl k10 hk10
      have : k10 = mx := hk10.trans em
      subst this
      exact hQ
    rcases i3 with ⟨hf, rfl⟩ | ⟨rfl, m', tl', el', a1, a2, a3, a4, a5, a6, a7⟩
    · obtain ⟨kk, mm, l', s1, s2, s3⟩ := flt f mx hx0 (by rw [e1 2 (by omega)]; exact h1) (hC.of (e1 2 (by omega)) (e1 7 (by omega))) (by rw [e2 0 (by omega)]; exact r3)
      have f0 : ¬ f = 0 := by rcases hf with z | z | z | z <;> rw [z] <;> decide
      have f0' : ¬ f ≤ 0 := by rcases hf with z | z | z | z <;> rw [z] <;> decide
      exact ⟨kk, mm, l', el, s1, fun Q hQ => upK Q (i1 _ ⟨fun _ => s2 Q hQ, fun z => absurd z f0⟩), fun Q hQ => one m Q (upM _ (i2' _ ⟨fun z => absurd z f0', fun _ => s3 Q hQ⟩))⟩
    · have t0 : m' 0 0 = nI q := by rw [a6 0 (by omega) (by omega) (by omega), e3 _ 0 (by omega)]; exact r3
      have t12 : m' 0 12 = nI r := by rw [a6 12 (by omega) (by omega) (by omega), e3 _ 12 (by omega)]; exact r2
      have u0 : mj_up m' 4 t (m' 0 28) 0 = m' 0 := pu_ne _ _ _ (by omega)
      have fin : ∀ (y x : Int32), x = (if y = 0 then nI (r + 1) else nI q) → ∃ k2 m2 l2, pA k2 m2 l2 el' (N + 3) ∧ (∀ Q : mj_St → Prop, Q k2 → wK_settleFirst (nI t) y (mj_up k' (3 + t) 3 (m' 0 28)) Q) ∧ (∀ Q : mj_St → Prop, Q m2 → wM_tail (nI t) (mj_up (mj_up m' 4 t (m' 0 28)) 0 12 x) Q) := by
        intro y x hx
        have g1 := (a2.cnt (r := t) (v := m' 0 28) ht).ofM (m' := mj_up (mj_up m' 4 t (m' 0 28)) 0 12 x) (by rw [pu_eq, pd_ne _ _ (by omega)]) (by rw [pu_eq, pd_ne _ _ (by omega)]) (by rw [pu_eq, pd_ne _ _ (by omega)]) (fun i hi => pu_ne _ _ _ (by omega))
        obtain ⟨k2, m2, l2, s1, s2, s3⟩ := xSettle (y := y) (r := r) (q := q) g1 (by omega) ht (a3.of (by rw [pu_ne _ _ _ (by omega), pu_ne _ _ _ (by omega)]) (by rw [pu_ne _ _ _ (by omega), pu_ne _ _ _ (by omega)])) (by rw [pu_ne _ _ _ (by omega), a5]; exact r1) (by rw [pu_eq, pd_ne _ _ (by omega), u0]; exact t0) r4 r5 (fun _ => by rw [pu_eq, pd_eq]; exact hx)
        exact ⟨k2, m2, l2, s1, s2, s3⟩
      by_cases hy : w &&& 31 = 13
      · obtain ⟨k2, m2, l2, s1, s2, s3⟩ := fin 1 (nI q) (by rw [if_neg (by decide)])
        refine ⟨k2, m2, l2, el', s1, fun Q hQ => upK Q (i1 _ ⟨fun z => absurd rfl z, fun _ => a7 _ ?_⟩), fun Q hQ => one m Q (upM _ (i2' _ ⟨fun _ => ?_, fun z => absurd (by decide) z⟩))⟩
        · rintro k11 rfl
          exact ⟨fun z => absurd hy z, fun _ => s2 Q hQ⟩
        · rintro k13 rfl
          refine a1 _ ⟨hvt, ?_⟩
          rintro k15 rfl
          refine ⟨fun z => absurd hy z, fun _ => ?_⟩
          rintro k18 rfl
          rw [u0, t0]
          exact s3 Q hQ
      · obtain ⟨k2, m2, l2, s1, s2, s3⟩ := fin 0 (nI (r + 1)) (by rw [if_pos rfl])
        refine ⟨k2, m2, l2, el', s1, fun Q hQ => upK Q (i1 _ ⟨fun z => absurd rfl z, fun _ => a7 _ ?_⟩), fun Q hQ => one m Q (upM _ (i2' _ ⟨fun _ => ?_, fun z => absurd (by decide) z⟩))⟩
        · rintro k11 rfl
          exact ⟨fun _ => s2 Q hQ, fun z => absurd z hy⟩
        · rintro k13 rfl
          refine a1 _ ⟨hvt, ?_⟩
          rintro k15 rfl
          refine ⟨fun _ => ?_, fun z => absurd z hy⟩
          rintro k18 rfl
          rw [u0, t12, nI_1]
          exact s3 Q hQ
  · obtain ⟨kk, mm, l', s1, s2, s3⟩ := flt 1 m hS h1 hC r3
    have hb : m 4 t < 0 ∨ ¬ m 4 t < nI ln := by
      rcases pn_rng (m 4 t) ln (by omega) with z | z | z
      · exact Or.inl z
      · right
        rw [Int32.le_iff_toInt_le] at z
        rw [Int32.lt_iff_toInt_lt]
        omega
      · exact absurd z hg
    refine ⟨kk, mm, l', el, s1, fun Q hQ => ?_, fun Q hQ => one m Q ?_⟩
    · unfold wK_runFirst
      rw [hct]
      refine ⟨hvt, vT_good (n := ln) ht (by omega) k5 (fun j' q1 q2 => absurd ⟨j', q1, by rw [← b2]; exact q2⟩ hg) (fun _ => ⟨fun z => absurd rfl z, fun _ => s2 Q hQ⟩)⟩
    · unfold wM_execute
      rw [hct]
      refine ⟨hvt, ?_⟩
      rintro a1 rfl
      rw [c2]
      refine ⟨fun _ => s3 Q hQ, fun z => ⟨hvt, fun z2 => ?_, fun _ => s3 Q hQ⟩⟩
      rcases hb with y | y
      · exact absurd y z
      · exact absurd z2 y
/-! step -/
def pHd : List Nat → Int32
  | [] => -1
  | t :: _ => nI t
theorem vM_at0 {m : mj_St} {l : List Nat} {R : Int32 → Prop} (hrow : pRow m (-1) l) (h : R (pHd l)) : wM_at (-1) 0 m R := by
  refine vM_at hrow hrow.le6 (fun j hj e => ?_) (fun z => ?_)
  · have h0 : 0 = j := (nI_eq (a := 0) (by omega) (by have := hrow.le6; omega)).mp e
    subst h0
    cases l with
    | nil => exact absurd hj (by simp)
    | cons t tl => exact h
  · cases l with
    | nil => exact h
    | cons t tl => exact absurd rfl (z 0 (by simp))
theorem vN_at0 {k : mj_St} {l : List Nat} {R : Int32 → Prop} (hL : pL k 15 l) (h : R (pHd l)) : wN_at 15 0 k R := by
  refine vN_at (by decide) hL (fun j hj e => ?_) (fun z => ?_)
  · have h0 : 0 = j := (nI_eq (a := 0) (by omega) (by have := hL.2.1; omega)).mp e
    subst h0
    cases l with
    | nil => exact absurd hj (by simp)
    | cons t tl => exact h
  · cases l with
    | nil => exact h
    | cons t tl => exact absurd rfl (z 0 (by simp))
theorem xSteps {p : Nat} (hp : p ≤ 50) : ∀ (d i : Nat) (k m : mj_St) (l : List Nat) (el : Nat → List Nat) (N : Nat), i + d = p → pA k m l el N → N + 3 * d < 2 ^ 29 →
    ∃ (a : Int32) (k' m' : mj_St) (l' : List Nat) (el' : Nat → List Nat), pA k' m' l' el' (N + 3 * d) ∧ (∀ Q : Int32 → mj_St → Prop, Q a k' → wK_step_14 (d + 1) (nI p) (nI i) k Q) ∧ (∀ Q : Int32 → mj_St → Prop, Q a m' → wM_step_22 (d + 1) (nI p) (nI i) (pHd l) m Q) := by
  intro d
  induction d with
  | zero =>
    intro i k m l el N hi h hN
    obtain rfl : i = p := by omega
    refine ⟨nI i, k, m, l, el, h, fun Q hQ => ?_, fun Q hQ => ?_⟩
    · rw [wK_step_14]
      exact ⟨fun _ => hQ, fun z => absurd (nI_le (Nat.le_refl _) (by omega)) z⟩
    · rw [wM_step_22]
      exact ⟨fun _ => hQ, fun z => absurd (nI_le (Nat.le_refl _) (by omega)) z⟩
  | succ d ih =>
    intro i k m l el N hi h hN
    have hrow := h.2.2.2.2.2.2.2.2.2.1
    have hL : pL k 15 l := h.2.2.2.2.2.2.2.1.1
    have hni : ¬ nI p ≤ nI i := nI_ge (by omega) (by omega)
    cases l with
    | nil =>
      refine ⟨nI i, k, m, [], el, h.le (by omega), fun Q hQ => ?_, fun Q hQ => ?_⟩
      · rw [wK_step_14]
        exact ⟨fun z => absurd z hni, fun _ => vN_at0 hL ⟨fun _ => hQ, fun z => absurd rfl z⟩⟩
      · rw [wM_step_22]
        exact ⟨fun z => absurd z hni, fun _ => ⟨fun _ => hQ, fun z => absurd (show (-1 : Int32) < 0 by decide) z⟩⟩
    | cons t tl =>
      obtain ⟨-, ht, -⟩ := h.mid
      obtain ⟨k1, m1, l1, el1, s1, s2, s3⟩ := xStep h (by omega)
      obtain ⟨a, k2, m2, l2, el2, g1, g2, g3⟩ := ih (i + 1) k1 m1 l1 el1 (N + 3) (by omega) s1 (by omega)
      refine ⟨a, k2, m2, l2, el2, g1.le (by omega), fun Q hQ => ?_, fun Q hQ => ?_⟩
      · rw [wK_step_14]
        refine ⟨fun z => absurd z hni, fun _ => vN_at0 hL ⟨fun z => absurd z (pn_m1 (by omega)), fun _ => vN_at0 hL (s2 _ ?_)⟩⟩
        rintro a8 rfl
        rw [nI_1]
        exact g2 Q hQ
      · rw [wM_step_22]
        refine ⟨fun z => absurd z hni, fun _ => ⟨fun z => absurd z (nI_pos (by omega)), fun _ => s3 _ ?_⟩⟩
        rintro a7 rfl
        rw [nI_1]
        exact vM_at0 s1.2.2.2.2.2.2.2.2.2.1 (g3 Q hQ)
/-- an answer and a state behind, on both sides -/
def pFace (k m : mj_St) (l : List Nat) (el : Nat → List Nat) (N : Nat) (A : (Int32 → mj_St → Prop) → Prop) (B : (Int32 → mj_St → Prop) → Prop) : Prop := ∃ (a : Int32) (k' m' : mj_St) (l' : List Nat) (el' : Nat → List Nat), pA k' m' l' el' (N + 150) ∧ (∀ Q : Int32 → mj_St → Prop, Q a k' → A Q) ∧ (∀ Q : Int32 → mj_St → Prop, Q a m' → B Q)
theorem yStep {k m : mj_St} {l : List Nat} {el : Nat → List Nat} {N : Nat} (x : Int32) (h : pA k m l el N) (hN : N + 150 < 2 ^ 29) : pFace k m l el N (fun Q => wK_step x k Q) (fun Q => wM_step x m Q) := by
  by_cases hx : ∃ p, 1 ≤ p ∧ p ≤ 50 ∧ x = nI p
  · obtain ⟨p, p1, p2, rfl⟩ := hx
    obtain ⟨a, k', m', l', el', g1, g2, g3⟩ := xSteps p2 p 0 k m l el N (by omega) h (by omega)
    refine ⟨a, k', m', l', el', g1.le (by omega), fun Q hQ => ?_, fun Q hQ => ?_⟩
    · exact vK_between' (fun _ _ => ⟨p + 1, g2 Q hQ⟩) (fun z => by
        exfalso
        rcases z with z | z
        · exact nI_nlt (a := p) (b := 1) (by omega) (by omega) z
        · exact nI_nlt (a := 50) (b := p) (by omega) (by omega) z)
    · refine ⟨fun z => absurd z (nI_nlt (a := p) (b := 1) (by omega) (by omega)), fun _ => ⟨fun _ => ?_, fun z => absurd (nI_le (b := 50) p2 (by omega)) z⟩⟩
      have hrow := h.2.2.2.2.2.2.2.2.2.1
      exact vM_at0 hrow ⟨p + 1, g3 Q hQ⟩
  · have hb : x < 1 ∨ (50 : Int32) < x := by
      rcases pn_rng x 51 (by omega) with z | z | ⟨j, j1, j2⟩
      · left
        rw [Int32.lt_iff_toInt_lt, show (0 : Int32).toInt = 0 from by decide] at z
        rw [Int32.lt_iff_toInt_lt, show (1 : Int32).toInt = 1 from by decide]
        omega
      · right
        rw [Int32.le_iff_toInt_le, nI_toInt (by omega)] at z
        rw [Int32.lt_iff_toInt_lt, show (50 : Int32).toInt = 50 from by decide]
        omega
      · by_cases j0 : j = 0
        · left; rw [j2, j0]; decide
        · exact absurd ⟨j, by omega, by omega, j2⟩ hx
    refine ⟨-1, k, m, l, el, h.le (by omega), fun Q hQ => ?_, fun Q hQ => ?_⟩
    · exact vK_between' (fun z1 z2 => by
        rcases hb with y | y
        · exact absurd y z1
        · exact absurd y z2) (fun _ => hQ)
    · refine ⟨fun _ => hQ, fun z => ⟨fun z2 => ?_, fun _ => hQ⟩⟩
      rcases hb with y | y
      · exact absurd y z
      · exfalso
        rw [Int32.le_iff_toInt_le] at z2
        rw [Int32.lt_iff_toInt_lt] at y
        omega

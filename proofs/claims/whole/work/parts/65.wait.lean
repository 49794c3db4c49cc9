/-! waiting at an endpoint -/
theorem pS.say {k m k' m' : mj_St} {t : Nat} {tl : List Nat} {el er : Nat → List Nat} {N : Nat} (h : pS k m t tl el er N) (ht : t < 6) (h1 : m 2 t = 1) (hk : ∀ i, i ≠ 3 + t → k' i = k i) (hk2 : ∀ b, b ≠ 7 → b ≠ 8 → k' (3 + t) b = k (3 + t) b) (hm : ∀ i, i < 11 ∨ 15 < i → m' i = m i) (hm2 : ∀ i v, v ≠ t → m' i v = m i v) : pS k' m' t tl el er N := by
  obtain ⟨a1, a2, a3, a4, a6, a7, a8, a9, a10, a11, a12⟩ := h
  refine ⟨?_, ?_, ?_, a4.one (u := t) (fun w hw e => hk _ (by omega)) (fun i w _ _ _ _ _ e => hm2 i w e) (fun _ => ?_), a6.of (hk _ (by omega)) (hk _ (by omega)) (hk _ (by omega)) (hk _ (by omega)) (hm _ (by omega)) (hm _ (by omega)) (hm _ (by omega)) (hm _ (by omega)), a7.of (hm _ (by omega)) (hm _ (by omega)), a8.of (hk _ (by omega)) (hk _ (by omega)) (by rw [hm _ (by omega)]) (hm _ (by omega)), a9.of (fun i h1 h2 => hk i (by omega)), a10.of (by rw [hm _ (by omega)]) (hm _ (by omega)) (hm _ (by omega)), a11.of (hm _ (by omega)) (hm _ (by omega)), a12.of (hm _ (by omega)) (hm _ (by omega)) (hm _ (by omega))⟩
  · unfold pQn
    rw [hk _ (by omega), hm _ (by omega)]
    exact a1
  · unfold pMe
    rw [hk _ (by omega), hm _ (by omega)]
    exact a2
  · intro w s hw hs
    rw [hk _ (by omega), hm _ (by omega)]
    exact a3 w s hw hs
  · obtain ⟨b1, b2, b3, b4, b5, b6, b7, b8, b9, b10⟩ := a4 t ht
    unfold pT1
    rw [hm 2 (by omega), hm 3 (by omega), hm 4 (by omega), hm 5 (by omega), hm 6 (by omega), hm 7 (by omega), hk2 1 (by omega) (by omega), hk2 2 (by omega) (by omega), hk2 3 (by omega) (by omega), hk2 4 (by omega) (by omega), hk2 5 (by omega) (by omega), hk2 6 (by omega) (by omega)]
    exact ⟨b1, b2, b3, b4, b5, b6, b7, b8, fun q => by rw [h1] at q; exact absurd q (by decide), fun q => by rw [h1] at q; exact absurd q (by decide)⟩
/-- the first of a line leaves it, in the class alone -/
theorem pS.take {k m : mj_St} {t : Nat} {tl : List Nat} {el er : Nat → List Nat} {N e0 u : Nat} {l : List Nat} (h : pS k m t tl el er N) (he : e0 < 4) (hl : el e0 = u :: l) : ∃ k', pS k' m t tl (fun e => if e = e0 then l else el e) er N ∧ (∀ i, i ≠ 16 + e0 → i ≠ 16 + e0 + 5 → k' i = k i) ∧ ∀ Q : mj_St → Prop, Q k' → wN_takeFirst (16 + e0) k Q := by
  obtain ⟨a1, a2, a3, a4, a6, a7, a8, a9, a10, a11, a12⟩ := h
  have hL := a9.2 e0 he
  rw [hl] at hL
  obtain ⟨k', g1, g2, g3⟩ := xN_takeFirst ⟨by omega, by omega⟩ hL
  refine ⟨k', ⟨?_, ?_, ?_, a4.of (fun u hu => g2 _ (by omega) (by omega)) (fun _ _ _ _ _ _ => rfl), a6.of (g2 _ (by omega) (by omega)) (g2 _ (by omega) (by omega)) (g2 _ (by omega) (by omega)) (g2 _ (by omega) (by omega)) rfl rfl rfl rfl, a7, a8.of (g2 _ (by omega) (by omega)) (g2 _ (by omega) (by omega)) rfl rfl, ⟨a9.1.of (by rw [g2 _ (by omega) (by omega)]) (g2 _ (by omega) (by omega)), fun e hee => ?_⟩, a10, a11, a12⟩, g2, g3⟩
  · unfold pQn
    rw [g2 _ (by omega) (by omega)]
    exact a1
  · unfold pMe
    rw [g2 _ (by omega) (by omega)]
    exact a2
  · intro w s hw hs
    rw [g2 _ (by omega) (by omega)]
    exact a3 w s hw hs
  · by_cases q : e = e0
    · subst q
      simp only [if_true]
      exact g1
    · simp only [if_neg q]
      exact (a9.2 e hee).of (by rw [g2 _ (by omega) (by omega)]) (g2 _ (by omega) (by omega))
theorem vK_wait {k : mj_St} {e0 u : Nat} {l : List Nat} {s : Int32} {Q : Int32 → mj_St → Prop} (he : e0 < 4) (hl : pL k (16 + e0) (u :: l)) (hu : u < 6) (hs : k (3 + u) 1 = s) (h : wN_takeFirst (16 + e0) k (fun k' => Q (nI u) k')) : wK_takeWaiting (16 + e0) s k Q := by
  refine ⟨⟨by omega, by omega⟩, vN_at (l := u :: l) ⟨by omega, by omega⟩ hl (fun j hj q => ?_) (fun q => absurd rfl (q 0 (by simp)))⟩
  have : j = 0 := (nI_eq (by simp only [List.length_cons] at hj; have := hl.2.1; rw [List.length_cons] at this; omega) (by omega)).mp (q.symm.trans rfl)
  subst this
  simp only [List.getElem_cons_zero]
  refine ⟨fun z => absurd z (pn_m1 (by omega)), fun _ => ⟨vp_in_nI hu (by decide), ?_⟩⟩
  rw [nI_clamp (by omega)]
  exact ⟨fun _ => h, fun z => absurd hs z⟩
theorem vK_wait0 {k : mj_St} {e0 : Nat} {l : List Nat} {s : Int32} {Q : Int32 → mj_St → Prop} (he : e0 < 4) (hl : pL k (16 + e0) l) (hu : ∀ u r, l = u :: r → u < 6 ∧ ¬ k (3 + u) 1 = s) (h : Q (-1) k) : wK_takeWaiting (16 + e0) s k Q := by
  refine ⟨⟨by omega, by omega⟩, vN_at (l := l) ⟨by omega, by omega⟩ hl (fun j hj q => ?_) (fun q => ⟨fun _ => h, fun z => absurd rfl z⟩)⟩
  have hle := hl.2.1
  have : j = 0 := (nI_eq (by omega) (by omega)).mp (q.symm.trans rfl)
  subst this
  cases l with
  | nil => simp at hj
  | cons u r =>
    obtain ⟨h1, h2⟩ := hu u r rfl
    simp only [List.getElem_cons_zero]
    refine ⟨fun z => absurd z (pn_m1 (by omega)), fun _ => ⟨vp_in_nI h1 (by decide), ?_⟩⟩
    rw [nI_clamp (by omega)]
    exact ⟨fun z => absurd z h2, fun _ => h⟩
theorem vM_first {m : mj_St} {e0 u : Nat} {l : List Nat} {s : Int32} {Q : Int32 → Prop} (hl : pRow m (nI e0) (u :: l)) (hs : m 2 u = s) (h : Q (nI u)) : wM_firstAt (nI e0) s m Q := by
  have hu := ((hl.1 u).mp List.mem_cons_self).1
  refine vM_at hl hl.le6 (fun j hj q => ?_) (fun q => absurd rfl (q 0 (by simp)))
  have hle := hl.le6
  have : j = 0 := (nI_eq (by omega) (by omega)).mp (q.symm.trans rfl)
  subst this
  simp only [List.getElem_cons_zero]
  refine ⟨fun z => absurd z (nI_pos (by omega)), fun _ => ⟨vp_in_nI hu (by decide), ?_⟩⟩
  rw [nI_clamp (by omega)]
  exact ⟨fun z => absurd hs z, fun _ => h⟩
theorem vM_first0 {m : mj_St} {e0 : Nat} {l : List Nat} {s : Int32} {Q : Int32 → Prop} (hl : pRow m (nI e0) l) (hu : ∀ u r, l = u :: r → ¬ m 2 u = s) (h : Q (-1)) : wM_firstAt (nI e0) s m Q := by
  refine vM_at hl hl.le6 (fun j hj q => ?_) (fun q => ⟨fun _ => h, fun z => absurd pn_m1lt z⟩)
  have hle := hl.le6
  have : j = 0 := (nI_eq (by omega) (by omega)).mp (q.symm.trans rfl)
  subst this
  cases l with
  | nil => simp at hj
  | cons u r =>
    have h1 := ((hl.1 u).mp List.mem_cons_self).1
    simp only [List.getElem_cons_zero]
    refine ⟨fun z => absurd z (nI_pos (by omega)), fun _ => ⟨vp_in_nI h1 (by decide), ?_⟩⟩
    rw [nI_clamp (by omega)]
    exact ⟨fun _ => h, fun z => absurd z (hu u r rfl)⟩
/-- t waits at e0 -/
def gBlK (k : mj_St) (t : Nat) (s : Int32) (e0 n : Nat) : mj_St := mj_up (mj_up (mj_up k (3 + t) 1 s) (16 + e0 + 5) n (nI t)) (16 + e0) 1 (nI (n + 1))
def gBlM (m : mj_St) (t : Nat) (s : Int32) (e0 d : Nat) : mj_St := mj_up (mj_up (mj_up (mj_up m 2 t s) 10 t (nI e0)) 9 t (nI d)) 0 11 (nI (d + 1))
theorem vM_queue {m : mj_St} {t e0 d : Nat} {s : Int32} {Q : mj_St → Prop} (ht : t < 6) (hd : m 0 11 = nI d) (h : Q (gBlM m t s e0 d)) : wM_queue (nI t) (nI e0) s m Q := by
  have hv : vp_in (nI t) 6 := vp_in_nI ht (by decide)
  unfold wM_queue
  rw [nI_clamp (by omega)]
  refine ⟨hv, ?_⟩
  rintro k1 rfl
  refine ⟨hv, ?_⟩
  rintro k2 rfl
  exact vM_draw ht (by rw [pu_ne _ _ _ (by omega), pu_ne _ _ _ (by omega)]; exact hd) h
theorem pS.block {k m : mj_St} {t : Nat} {tl : List Nat} {el : Nat → List Nat} {N e0 d : Nat} {s : Int32} (h : pS k m t tl el el N) (hN : N < 2 ^ 30) (ht : t < 6) (h1 : m 2 t = 1) (he : e0 < 4) (hs : s = 2 ∨ s = 4) (hd : m 0 11 = nI d) (hdN : d ≤ N) (hsaid : pSaid k m t) (hsent : s = 2 → pSent k m t) :
    pS (gBlK k t s e0 (el e0).length) (gBlM m t s e0 d) t tl (fun e => if e = e0 then el e ++ [t] else el e) (fun e => if e = e0 then el e ++ [t] else el e) (N + 1) ∧ (el e0).length < 6 := by
  obtain ⟨a1, a2, a3, a4, a6, a7, a8, a9, a10, a11, a12⟩ := h
  have hin : ∀ e, e < 4 → pIn m (nI e) t = false := by
    intro e hee
    unfold pIn
    rw [if_pos (nI_pos' (by omega)), h1]
    rfl
  have h6 := (a12 e0 he).room ht (hin e0 he)
  have hk : ∀ i, i ≠ 3 + t → i ≠ 16 + e0 → i ≠ 16 + e0 + 5 → gBlK k t s e0 (el e0).length i = k i := fun i i1 i2 i3 => by
    unfold gBlK
    rw [pu_ne _ _ _ i2, pu_ne _ _ _ i3, pu_ne _ _ _ i1]
  have hkt : gBlK k t s e0 (el e0).length (3 + t) = upd (k (3 + t)) 1 s := by
    unfold gBlK
    rw [pu_ne _ _ _ (by omega), pu_ne _ _ _ (by omega), pu_eq]
  have hm : ∀ i, i ≠ 0 → i ≠ 2 → i ≠ 9 → i ≠ 10 → gBlM m t s e0 d i = m i := fun i i0 i2 i9 i10 => by
    unfold gBlM
    rw [pu_ne _ _ _ i0, pu_ne _ _ _ i9, pu_ne _ _ _ i10, pu_ne _ _ _ i2]
  have hm2 : gBlM m t s e0 d 2 = upd (m 2) t s := by
    unfold gBlM
    rw [pu_ne _ _ _ (by omega), pu_ne _ _ _ (by omega), pu_ne _ _ _ (by omega), pu_eq]
  have hm9 : gBlM m t s e0 d 9 = upd (m 9) t (nI d) := by
    unfold gBlM
    rw [pu_ne _ _ _ (by omega), pu_eq, pu_ne _ _ _ (by omega), pu_ne _ _ _ (by omega)]
  have hm10 : gBlM m t s e0 d 10 = upd (m 10) t (nI e0) := by
    unfold gBlM
    rw [pu_ne _ _ _ (by omega), pu_ne _ _ _ (by omega), pu_eq, pu_ne _ _ _ (by omega)]
  have hm0 : gBlM m t s e0 d 0 = upd (m 0) 11 (nI (d + 1)) := by
    unfold gBlM
    rw [pu_eq, pu_ne _ _ _ (by omega), pu_ne _ _ _ (by omega), pu_ne _ _ _ (by omega)]
  have ho : ∀ v, v ≠ t → gBlM m t s e0 d 2 v = m 2 v ∧ gBlM m t s e0 d 9 v = m 9 v ∧ gBlM m t s e0 d 10 v = m 10 v := fun v hv => ⟨by rw [hm2, pd_ne _ _ hv], by rw [hm9, pd_ne _ _ hv], by rw [hm10, pd_ne _ _ hv]⟩
  have hst : gBlM m t s e0 d 2 t = s := by rw [hm2, pd_eq]
  have hs0 : ¬ s = 0 := by rcases hs with q | q <;> rw [q] <;> decide
  have hs1 : ¬ s = 1 := by rcases hs with q | q <;> rw [q] <;> decide
  have hs5 : ¬ s = 5 := by rcases hs with q | q <;> rw [q] <;> decide
  refine ⟨⟨?_, ?_, ?_, a4.one (u := t) (fun v hv e => hk _ (by omega) (by omega) (by omega)) (fun i v _ _ i8 i9 i10 e => ?_) (fun _ => ?_), a6.of (hk _ (by omega) (by omega) (by omega)) (hk _ (by omega) (by omega) (by omega)) (hk _ (by omega) (by omega) (by omega)) (hk _ (by omega) (by omega) (by omega)) (hm _ (by omega) (by omega) (by omega) (by omega)) (hm _ (by omega) (by omega) (by omega) (by omega)) (hm _ (by omega) (by omega) (by omega) (by omega)) (hm _ (by omega) (by omega) (by omega) (by omega)), ?_, (a8.of (hk _ (by omega) (by omega) (by omega)) (hk _ (by omega) (by omega) (by omega)) (by rw [hm0, pd_ne _ _ (by omega)]) (hm _ (by omega) (by omega) (by omega) (by omega))).le (by omega), ⟨a9.1.of (by rw [hk _ (by omega) (by omega) (by omega)]) (hk _ (by omega) (by omega) (by omega)), fun e hee => ?_⟩, ⟨d + 1, by omega, by rw [hm0, pd_eq], fun v hv hv2 => ?_⟩, a11.own (by rw [hst]; exact hs1) (fun v hv => ⟨(ho v hv).1, (ho v hv).2.1⟩), fun e hee => ?_⟩, h6⟩
  · unfold pQn
    rw [hk _ (by omega) (by omega) (by omega), hm0, pd_ne _ _ (by omega)]
    exact a1
  · unfold pMe
    rw [hk _ (by omega) (by omega) (by omega), hm _ (by omega) (by omega) (by omega) (by omega)]
    exact a2
  · intro w z hw hz
    rw [hk _ (by omega) (by omega) (by omega), hm _ (by omega) (by omega) (by omega) (by omega)]
    exact a3 w z hw hz
  · by_cases e2 : i = 2
    · subst e2; exact (ho v e).1
    · rw [hm i (by omega) e2 i9 i10]
  · obtain ⟨b1, b2, b3, b4, b5, b6, b7, b8, b9, b10⟩ := a4 t ht
    unfold pT1
    rw [hst, hkt, hm 3 (by omega) (by omega) (by omega) (by omega), hm 4 (by omega) (by omega) (by omega) (by omega), hm 5 (by omega) (by omega) (by omega) (by omega), hm 6 (by omega) (by omega) (by omega) (by omega), hm 7 (by omega) (by omega) (by omega) (by omega), hm 11 (by omega) (by omega) (by omega) (by omega), hm 12 (by omega) (by omega) (by omega) (by omega), hm 13 (by omega) (by omega) (by omega) (by omega), hm 14 (by omega) (by omega) (by omega) (by omega), hm 15 (by omega) (by omega) (by omega) (by omega), pd_eq, pd_ne _ _ (show (3 : Nat) ≠ 1 by omega), pd_ne _ _ (show (4 : Nat) ≠ 1 by omega), pd_ne _ _ (show (5 : Nat) ≠ 1 by omega), pd_ne _ _ (show (2 : Nat) ≠ 1 by omega), pd_ne _ _ (show (6 : Nat) ≠ 1 by omega), pd_ne _ _ (show (7 : Nat) ≠ 1 by omega), pd_ne _ _ (show (8 : Nat) ≠ 1 by omega)]
    exact ⟨rfl, b2, b3, b4, b5, fun q => absurd q hs5, fun _ => b7 (by rw [h1]; decide), fun _ => b8 (by rw [h1]; decide), fun _ => hsaid, fun q => hsent q⟩
  · intro v z hv hz hq
    rw [hm 16 (by omega) (by omega) (by omega) (by omega)]
    by_cases e : v = t
    · rw [e, hst] at hq; exact absurd hq hs0
    · rw [(ho v e).1] at hq; exact a7 v z hv hz hq
  · by_cases q : e = e0
    · subst q
      simp only [if_true]
      exact pL.append (k := mj_up k (3 + t) 1 s) (o := 16 + e) ((a9.2 e he).of (by rw [pu_ne _ _ _ (by omega)]) (by rw [pu_ne _ _ _ (by omega)])) h6
    · simp only [if_neg q]
      exact (a9.2 e hee).of (by rw [hk _ (by omega) (by omega) (by omega)]) (hk _ (by omega) (by omega) (by omega))
  · rw [hm9]
    by_cases e : v = t
    · exact ⟨d, by omega, by rw [e, pd_eq]⟩
    · rw [(ho v e).1] at hv2
      rw [pd_ne _ _ e]
      obtain ⟨d', c1, c2, c3⟩ := a10
      have : d' = d := (nI_eq (by omega) (by omega)).mp (c2.symm.trans hd)
      subst this
      obtain ⟨j, j1, j2⟩ := c3 v hv hv2
      exact ⟨j, by omega, j2⟩
  · have hnt : ∀ e, e < 4 → t ∉ el e := fun e hee w => by
      have := ((a12 e hee).1 t).mp w
      rw [hin e hee] at this
      exact absurd this.2 (by decide)
    by_cases q : e = e0
    · subst q
      simp only [if_true]
      refine (a12 e he).push ht ?_ (hnt e he) ho (fun v hv => ?_)
      · unfold pIn
        rw [if_pos (nI_pos' (by omega)), hst, hm10, pd_eq]
        rcases hs with w | w <;> rw [w] <;> simp
      · have hv2 := ((a12 e he).1 v).mp hv
        rw [hm9, pd_eq]
        refine pn_tk a10 hd hN (by omega) hv2.1 ?_
        have hv3 := hv2.2
        unfold pIn at hv3
        rw [if_pos (nI_pos' (by omega))] at hv3
        simp only [Bool.and_eq_true, Bool.or_eq_true, beq_iff_eq] at hv3
        exact Or.inr hv3.1
    · simp only [if_neg q]
      refine (a12 e hee).keep (u := t) ?_ (hnt e hee) ho
      unfold pIn
      rw [if_pos (nI_pos' (by omega)), hm10, pd_eq]
      have : ¬ nI e0 = nI e := fun w => q ((nI_eq (by omega) (by omega)).mp w).symm
      simp [this]

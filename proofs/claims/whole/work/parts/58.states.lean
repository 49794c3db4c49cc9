/-! a thread's state changes -/
theorem pn_tk {m : mj_St} {N d : Nat} (h : pTk m N) (hd : m 0 11 = nI d) (hN : N < 2 ^ 30) (hd2 : d < 2 ^ 30) {v : Nat} (hv : v < 6) (hs : m 2 v = 1 ∨ m 2 v = 2 ∨ m 2 v = 4) : m 9 v < nI d := by
  obtain ⟨d', h1, h2, h3⟩ := h
  have : d' = d := (nI_eq (by omega) (by omega)).mp (h2.symm.trans hd)
  subst this
  obtain ⟨j, j1, j2⟩ := h3 v hv hs
  rw [j2]
  exact nI_lt j1 (by omega)
theorem pTh.one {k m k' m' : mj_St} {u : Nat} (h : pTh k m) (ho : ∀ v, v < 6 → v ≠ u → k' (3 + v) = k (3 + v)) (hm : ∀ i v, 2 ≤ i → i ≤ 15 → i ≠ 8 → i ≠ 9 → i ≠ 10 → v ≠ u → m' i v = m i v) (hu : u < 6 → pT1 k' m' u) : pTh k' m' := by
  intro v hv
  by_cases e : v = u
  · subst e; exact hu hv
  · exact (h v hv).of (ho v hv e) (hm 2 v (by omega) (by omega) (by omega) (by omega) (by omega) e) (hm 3 v (by omega) (by omega) (by omega) (by omega) (by omega) e) (hm 4 v (by omega) (by omega) (by omega) (by omega) (by omega) e) (hm 5 v (by omega) (by omega) (by omega) (by omega) (by omega) e) (hm 6 v (by omega) (by omega) (by omega) (by omega) (by omega) e) (hm 7 v (by omega) (by omega) (by omega) (by omega) (by omega) e) (hm 11 v (by omega) (by omega) (by omega) (by omega) (by omega) e) (hm 12 v (by omega) (by omega) (by omega) (by omega) (by omega) e) (hm 13 v (by omega) (by omega) (by omega) (by omega) (by omega) e) (hm 14 v (by omega) (by omega) (by omega) (by omega) (by omega) e) (hm 15 v (by omega) (by omega) (by omega) (by omega) (by omega) e)
theorem gRdM_at {m : mj_St} {u d i v : Nat} (h0 : i ≠ 0) (hv : v ≠ u) : gRdM m u d i v = m i v := by
  by_cases h2 : i = 2
  · subst h2; rw [gRdM_2, pd_ne _ _ hv]
  · by_cases h9 : i = 9
    · subst h9; rw [gRdM_9, pd_ne _ _ hv]
    · rw [gRdM_ne h0 h2 h9]
/-- u, which waited, is ready: all but the endpoints' rows -/
theorem pS.wake {k m : mj_St} {t : Nat} {tl : List Nat} {el er er' : Nat → List Nat} {N d u : Nat} (h : pS k m t tl el er N) (hN : N < 2 ^ 30) (ht : t < 6) (hu : u < 6) (hut : u ≠ t) (hs : m 2 u = 2 ∨ m 2 u = 3 ∨ m 2 u = 4) (hd : m 0 11 = nI d) (hdN : d ≤ N) (hEp : pEp (gRdM m u d) er') : pS (gRdK k u (t :: tl).length) (gRdM m u d) t (tl ++ [u]) el er' (N + 1) := by
  obtain ⟨a1, a2, a3, a4, a6, a7, a8, a9, a10, a11, a12⟩ := h
  have hn1 : ¬ m 2 u = 1 := by rcases hs with q | q | q <;> rw [q] <;> decide
  have hn0 : ¬ m 2 u = 0 := by rcases hs with q | q | q <;> rw [q] <;> decide
  have hn5 : ¬ m 2 u = 5 := by rcases hs with q | q | q <;> rw [q] <;> decide
  have h6 := a11.room ht hu hut hn1
  have h0 : ∀ j, j ≠ 11 → gRdM m u d 0 j = m 0 j := fun j hj => by rw [gRdM_0, pd_ne _ _ hj]
  refine ⟨?_, ?_, ?_, a4.one (u := u) (fun v hv e => gRdK_ne (by omega) (by omega) (by omega)) (fun i v h1 _ _ _ _ e => gRdM_at (by omega) e) (fun _ => ?_), a6.of (gRdK_ne (by omega) (by omega) (by omega)) (gRdK_ne (by omega) (by omega) (by omega)) (gRdK_ne (by omega) (by omega) (by omega)) (gRdK_ne (by omega) (by omega) (by omega)) (gRdM_ne (by omega) (by omega) (by omega)) (gRdM_ne (by omega) (by omega) (by omega)) (gRdM_ne (by omega) (by omega) (by omega)) (gRdM_ne (by omega) (by omega) (by omega)), ?_, (a8.of (gRdK_ne (by omega) (by omega) (by omega)) (gRdK_ne (by omega) (by omega) (by omega)) (h0 22 (by omega)) (gRdM_ne (by omega) (by omega) (by omega))).le (by omega), a9.ready hu h6, ⟨d + 1, by omega, ?_, fun v hv hv2 => ?_⟩, ?_, hEp⟩
  · unfold pQn
    rw [gRdK_ne (by omega) (by omega) (by omega), h0 0 (by omega)]
    exact a1
  · unfold pMe
    rw [gRdK_ne (by omega) (by omega) (by omega), gRdM_ne (by omega) (by omega) (by omega)]
    exact a2
  · intro w s hw hs
    rw [gRdK_ne (by omega) (by omega) (by omega), gRdM_ne (by omega) (by omega) (by omega)]
    exact a3 w s hw hs
  · obtain ⟨b1, b2, b3, b4, b5, b6, b7, b8, b9, b10⟩ := a4 u hu
    unfold pT1
    rw [gRdK_u hu, gRdM_2, gRdM_ne (i := 3) (by omega) (by omega) (by omega), gRdM_ne (i := 4) (by omega) (by omega) (by omega), gRdM_ne (i := 5) (by omega) (by omega) (by omega), gRdM_ne (i := 6) (by omega) (by omega) (by omega), gRdM_ne (i := 7) (by omega) (by omega) (by omega), pd_eq, pd_eq, pd_ne _ _ (show (3 : Nat) ≠ 1 by omega), pd_ne _ _ (show (4 : Nat) ≠ 1 by omega), pd_ne _ _ (show (5 : Nat) ≠ 1 by omega), pd_ne _ _ (show (2 : Nat) ≠ 1 by omega), pd_ne _ _ (show (6 : Nat) ≠ 1 by omega)]
    exact ⟨rfl, b2, b3, b4, b5, fun q => absurd q (by decide), fun _ => b7 hn5, fun _ => b8 hn0, fun q => absurd q (by decide), fun q => absurd q (by decide)⟩
  · intro v s hv hs2 hz
    rw [gRdM_ne (i := 16) (by omega) (by omega) (by omega)]
    rw [gRdM_2] at hz
    by_cases e : v = u
    · rw [e, pd_eq] at hz; exact absurd hz (by decide)
    · rw [pd_ne _ _ e] at hz; exact a7 v s hv hs2 hz
  · rw [gRdM_0, pd_eq]
  · rw [gRdM_9]
    by_cases e : v = u
    · exact ⟨d, by omega, by rw [e, pd_eq]⟩
    · rw [gRdM_2, pd_ne _ _ e] at hv2
      rw [pd_ne _ _ e]
      obtain ⟨d', c1, c2, c3⟩ := a10
      have : d' = d := (nI_eq (by omega) (by omega)).mp (c2.symm.trans hd)
      subst this
      obtain ⟨j, j1, j2⟩ := c3 v hv hv2
      exact ⟨j, by omega, j2⟩
  · refine a11.push hu hut hn1 (by rw [gRdM_2, pd_eq]) (fun v e => ⟨by rw [gRdM_2, pd_ne _ _ e], by rw [gRdM_9, pd_ne _ _ e]⟩) (fun v hv hv1 => ?_) ht
    rw [gRdM_9, pd_eq]
    exact pn_tk a10 hd hN (by omega) hv (Or.inl hv1)
/-- rows of the endpoints when the first of one of them, u, leaves it and comes to a state in no row -/
theorem pEp.leave {m m' : mj_St} {er : Nat → List Nat} {e0 u : Nat} {l : List Nat} (h : pEp m er) (he : e0 < 4) (hl : er e0 = u :: l) (h2 : ¬ m' 2 u = 2) (h4 : ¬ m' 2 u = 4) (ho : ∀ v, v ≠ u → m' 2 v = m 2 v ∧ m' 9 v = m 9 v ∧ m' 10 v = m 10 v) : pEp m' (fun e => if e = e0 then l else er e) := by
  have hin : ∀ e, e < 4 → pIn m' (nI e) u = false := by
    intro e he
    unfold pIn
    rw [if_pos (nI_pos' (by omega))]
    simp [h2, h4]
  intro e hee
  by_cases q : e = e0
  · subst q
    simp only [if_true]
    have := h e he
    rw [hl] at this
    exact this.drop (hin e he) ho
  · simp only [if_neg q]
    refine (h e hee).keep (hin e hee) (fun w => ?_) ho
    have h1 := ((h e hee).1 u).mp w
    have h3 := ((h e0 he).1 u).mp (by rw [hl]; exact List.mem_cons_self)
    unfold pIn at h1 h3
    rw [if_pos (nI_pos' (by omega))] at h1 h3
    simp only [Bool.and_eq_true, beq_iff_eq] at h1 h3
    have : nI e = nI e0 := h1.2.2.symm.trans h3.2.2
    exact q ((nI_eq (by omega) (by omega)).mp this)
/-- rows of the endpoints when one that is in none of them changes to a state in none of them -/
theorem pEp.other {m m' : mj_St} {er : Nat → List Nat} {u : Nat} (h : pEp m er) (g2 : ¬ m 2 u = 2) (g4 : ¬ m 2 u = 4) (h2 : ¬ m' 2 u = 2) (h4 : ¬ m' 2 u = 4) (ho : ∀ v, v ≠ u → m' 2 v = m 2 v ∧ m' 9 v = m 9 v ∧ m' 10 v = m 10 v) : pEp m' er := by
  intro e hee
  refine (h e hee).keep (u := u) ?_ (fun w => ?_) ho
  · unfold pIn
    rw [if_pos (nI_pos' (by omega))]
    simp [h2, h4]
  · have h1 := ((h e hee).1 u).mp w
    unfold pIn at h1
    rw [if_pos (nI_pos' (by omega))] at h1
    simp [g2, g4] at h1
/-- t, or the first of a row, comes to state s, 3, 5 or 6: all but the endpoints' rows and the ready ones -/
theorem pS.turn {k m k' m' : mj_St} {t : Nat} {tl : List Nat} {el er er' : Nat → List Nat} {N u : Nat} (h : pS k m t tl el er N) (hu : u < 6) (hk : ∀ i, i ≠ 3 + u → k' i = k i) (hm : ∀ i, i ≠ 2 → i ≠ 3 → m' i = m i) (hm2 : ∀ v, v ≠ u → m' 2 v = m 2 v ∧ m' 3 v = m 3 v) (hT : pT1 k' m' u) (h0 : ¬ m' 2 u = 0) (hs : ¬ (m' 2 u = 1 ∨ m' 2 u = 2 ∨ m' 2 u = 4)) (hM : pMid m' t tl) (hE : pEp m' er') : pS k' m' t tl el er' N := by
  obtain ⟨a1, a2, a3, a4, a6, a7, a8, a9, a10, a11, a12⟩ := h
  refine ⟨?_, ?_, ?_, a4.one (u := u) (fun v hv e => hk _ (by omega)) (fun i v h1 _ _ _ _ e => ?_) (fun _ => hT), a6.of (hk _ (by omega)) (hk _ (by omega)) (hk _ (by omega)) (hk _ (by omega)) (hm _ (by omega) (by omega)) (hm _ (by omega) (by omega)) (hm _ (by omega) (by omega)) (hm _ (by omega) (by omega)), ?_, a8.of (hk _ (by omega)) (hk _ (by omega)) (by rw [hm _ (by omega) (by omega)]) (hm _ (by omega) (by omega)), a9.of (fun i h1 h2 => hk i (by omega)), ?_, hM, hE⟩
  · unfold pQn
    rw [hk _ (by omega), hm _ (by omega) (by omega)]
    exact a1
  · unfold pMe
    rw [hk _ (by omega), hm _ (by omega) (by omega)]
    exact a2
  · intro w s hw hs
    rw [hk _ (by omega), hm _ (by omega) (by omega)]
    exact a3 w s hw hs
  · by_cases e2 : i = 2
    · subst e2; exact (hm2 v e).1
    · by_cases e3 : i = 3
      · subst e3; exact (hm2 v e).2
      · rw [hm i e2 e3]
  · intro v s hv hs2 hz
    rw [hm 16 (by omega) (by omega)]
    by_cases e : v = u
    · rw [e] at hz; exact absurd hz h0
    · rw [(hm2 v e).1] at hz; exact a7 v s hv hs2 hz
  · obtain ⟨d, c1, c2, c3⟩ := a10
    refine ⟨d, c1, by rw [hm 0 (by omega) (by omega)]; exact c2, fun v hv hv2 => ?_⟩
    rw [hm 9 (by omega) (by omega)]
    by_cases e : v = u
    · rw [e] at hv2; exact absurd hv2 hs
    · rw [(hm2 v e).1] at hv2; exact c3 v hv hv2

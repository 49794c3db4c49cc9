/-! more instructions: go, yield, memory, print, capabilities -/
theorem pn_sum (x y : Int32) : (x.toInt64 + y.toInt64).toInt32 = x + y := by
  rw [Int64.toInt32_add, Int32.toInt32_toInt64, Int32.toInt32_toInt64]
theorem pn_sumI (x y : Int32) : (x.toInt64 + y.toInt64).toInt = x.toInt + y.toInt := by
  rw [Int64.toInt_add, Int32.toInt_toInt64, Int32.toInt_toInt64]
  have h1 := Int32.toInt_lt x
  have h2 := Int32.toInt_lt y
  have h3 := Int32.le_toInt x
  have h4 := Int32.le_toInt y
  rw [Int.bmod_eq_of_le] <;> omega
/-- a sum that is a place, exactly, is that place -/
theorem pn_addr {x y : Int32} {b n : Nat} (hbn : b + n ≤ 128) (h0 : ¬ x.toInt64 + y.toInt64 < 0) (h1 : x.toInt64 + y.toInt64 < (nI n).toInt64) : ∃ j, j < 128 ∧ nI b + (x.toInt64 + y.toInt64).toInt32 = nI j ∧ nI b + x + y = nI j := by
  rw [Int64.lt_iff_toInt_lt, pn_sumI] at h0 h1
  rw [Int32.toInt_toInt64, nI_toInt (by omega)] at h1
  have hz : (0 : Int64).toInt = 0 := by decide
  rw [hz] at h0
  have hs : x + y = nI (x.toInt + y.toInt).toNat := by
    apply Int32.toInt_inj.mp
    rw [Int32.toInt_add, nI_toInt (by omega), Int.bmod_eq_of_le] <;> omega
  refine ⟨b + (x.toInt + y.toInt).toNat, by omega, ?_, ?_⟩
  · rw [pn_sum, hs, nI_add]
  · rw [Int32.add_assoc, hs, nI_add]
theorem pu_same (m : mj_St) (i j : Nat) : mj_up m i j (m i j) = m := by
  funext a b
  rw [pu_at]
  by_cases h : a = i ∧ b = j
  · rw [if_pos h, h.1, h.2]
  · rw [if_neg h]
theorem vG_allows {k : mj_St} {p : Nat} {kd nd : Int32} {Q : Int32 → Prop} (hp : p < 48) (h1 : k 27 p = kd → (k 29 p &&& nd) = nd → Q 1) (h0 : ¬ k 27 p = kd ∨ ¬ (k 29 p &&& nd) = nd → Q 0) : wG_allows (nI p) kd nd k Q := by
  have hv : vp_in (nI p) 48 := vp_in_nI hp (by decide)
  unfold wG_allows
  rw [nI_clamp (by omega)]
  exact ⟨hv, fun z => h0 (Or.inl z), fun z => ⟨hv, fun z2 => h0 (Or.inr z2), fun z2 => h1 z z2⟩⟩
/-- GO and its like -/
theorem xI_go {k m : mj_St} {t : Nat} {tl : List Nat} {el : Nat → List Nat} {N : Nat} {w : Int32} (h : pH k m t tl el N w) (e : w &&& 31 = 10 ∨ w &&& 31 = 11 ∨ w &&& 31 = 12) : pI k m t N w := by
  obtain ⟨hS, hC, ht, h2, hA, hB, hCc, hN, h28, hNb⟩ := h
  obtain ⟨a, ha, ea⟩ := fdA_of w
  obtain ⟨b, hb, eb⟩ := fdB_of w
  obtain ⟨c, hc, ec⟩ := fdC_of w
  have ea' : (w >>> (5 &&& 31)) &&& 7 = nI a := ea
  have hT : mk_T (3 + t) := ⟨by omega, by omega⟩
  have hva : vp_in (nI a) 8 := vp_in_nI ha (by decide)
  have hv48 : vp_in (nI (8 * t + a)) 48 := vp_in_nI (by omega) (by decide)
  have ra : k (3 + t + 6) a = m 8 (8 * t + a) := hS.2.2.1 t a ht ha
  have r3 : k (3 + t) 3 = m 4 t := (hS.2.2.2.1 t ht).2.1
  have goes : ∀ Q : Int32 → Prop, Q (fdN w) → wK_counterAfter_41 (3 + t) w k Q := fun Q hQ => ⟨hT, hT, fun z => absurd z (by decide), fun _ => hQ⟩
  have stays : ∀ Q : Int32 → Prop, Q (m 0 28) → wK_counterAfter_45 (3 + t) w k Q := fun Q hQ => ⟨hT, hT, fun _ => by rw [r3, ← h28]; exact hQ, fun z => absurd rfl z⟩
  have mgoes : ∀ Q : mj_St → Prop, Q (mj_up m 0 28 (fdN w)) → wM_move_41 m Q := fun Q hQ => ⟨fun z => absurd z (by decide), fun _ => by rintro k5 rfl; rw [hN]; exact hQ⟩
  have mstays : ∀ Q : mj_St → Prop, Q m → wM_move_45 m Q := fun Q hQ => ⟨fun _ => by rintro k4 rfl; rw [pu_same]; exact hQ, fun z => absurd rfl z⟩
  have fin : ∀ (v : Int32), (∀ Q : Int32 → Prop, Q v → wK_counterAfter (3 + t) w k Q) → (∀ Q : mj_St → Prop, Q (mj_up m 0 28 v) → wM_move (nI t) (w &&& 31) m Q) → pI k m t N w := by
    intro v h1 h3
    have ho : w &&& 31 = nI 10 ∨ w &&& 31 = nI 11 ∨ w &&& 31 = nI 12 := e
    refine ⟨0, k, fun Q hQ => ?_, fun Q hQ => ?_, Or.inr ⟨rfl, mj_up m 0 28 v, tl, el, fun Q hQ => ?_, (hS.ofM (by rw [pu_eq, pd_ne _ _ (by omega)]) (by rw [pu_eq, pd_ne _ _ (by omega)]) (by rw [pu_eq, pd_ne _ _ (by omega)]) (fun i hi => pu_ne _ _ _ (by omega))).le (by omega), hC.of (pu_ne _ _ _ (by omega)) (pu_ne _ _ _ (by omega)), pu_ne _ _ _ (by omega), rfl, fun j _ _ h3 => by rw [pu_eq, pd_ne _ _ h3], fun Q hQ => h1 Q (by rw [pu_eq, pd_eq] at hQ; exact hQ)⟩⟩
    · rcases ho with q | q | q
      · exact vK_perf_c ht (by omega) q (by omega) (vK_compute (o := 10) ht ha hb hc ea eb ec q (by simp; exact hQ))
      · exact vK_perf_c ht (by omega) q (by omega) (vK_compute (o := 11) ht ha hb hc ea eb ec q (by simp; exact hQ))
      · exact vK_perf_c ht (by omega) q (by omega) (vK_compute (o := 12) ht ha hb hc ea eb ec q (by simp; exact hQ))
    · rcases e with q | q | q <;> rw [q] <;> exact vM_fault_0 (by simp) hQ
    · have h4 := h3 Q hQ
      rcases e with q | q | q <;> rw [q] at h4 ⊢
      · exact vM_act_10 ht ha hb hc (hA.trans ea) (hB.trans eb) (hCc.trans ec) h4
      · exact vM_act_11 ht ha hb hc (hA.trans ea) (hB.trans eb) (hCc.trans ec) h4
      · exact vM_act_12 ht ha hb hc (hA.trans ea) (hB.trans eb) (hCc.trans ec) h4
  have mv : ∀ (Q : mj_St → Prop), ((w &&& 31 = 10 → wM_move_41 m Q) ∧ ((¬ w &&& 31 = 10) → ((¬ w &&& 31 = 11) → wM_move_31 (w &&& 31) (m 8 (8 * t + a)) m Q) ∧ ((w &&& 31 = 11) → ((m 8 (8 * t + a) = 0) → wM_move_41 m Q) ∧ ((¬ m 8 (8 * t + a) = 0) → wM_move_31 (w &&& 31) (m 8 (8 * t + a)) m Q)))) → wM_move (nI t) (w &&& 31) m Q := by
    intro Q hQ
    unfold wM_move
    rw [hA, ea, pn_slot, nI_clamp (by omega)]
    refine ⟨hv48, ?_⟩
    rintro a1 rfl
    exact hQ
  have kv : ∀ (Q : Int32 → Prop), (((w &&& 31 = 10) → wK_counterAfter_41 (3 + t) w k Q) ∧ ((¬ w &&& 31 = 10) → ((¬ w &&& 31 = 11) → wK_counterAfter_31 (3 + t) w (m 8 (8 * t + a)) (w &&& 31) k Q) ∧ ((w &&& 31 = 11) → ((m 8 (8 * t + a) = 0) → wK_counterAfter_41 (3 + t) w k Q) ∧ ((¬ m 8 (8 * t + a) = 0) → wK_counterAfter_31 (3 + t) w (m 8 (8 * t + a)) (w &&& 31) k Q)))) → wK_counterAfter (3 + t) w k Q := by
    intro Q hQ
    unfold wK_counterAfter wK_fieldA wK_opOf
    rw [ea']
    refine ⟨hT, hva, ?_⟩
    rw [nI_clamp (by omega), ra]
    rintro a3 rfl
    exact hQ
  rcases e with q | q | q
  · exact fin (fdN w) (fun Q hQ => kv Q ⟨fun _ => goes Q hQ, fun z => absurd q z⟩) (fun Q hQ => mv Q ⟨fun _ => mgoes Q hQ, fun z => absurd q z⟩)
  · have n10 : ¬ w &&& 31 = 10 := by rw [q]; decide
    have n12 : ¬ w &&& 31 = 12 := by rw [q]; decide
    by_cases z : m 8 (8 * t + a) = 0
    · exact fin (fdN w) (fun Q hQ => kv Q ⟨fun y => absurd y n10, fun _ => ⟨fun y => absurd q y, fun _ => ⟨fun _ => goes Q hQ, fun y => absurd z y⟩⟩⟩) (fun Q hQ => mv Q ⟨fun y => absurd y n10, fun _ => ⟨fun y => absurd q y, fun _ => ⟨fun _ => mgoes Q hQ, fun y => absurd z y⟩⟩⟩)
    · exact fin (m 0 28) (fun Q hQ => kv Q ⟨fun y => absurd y n10, fun _ => ⟨fun y => absurd q y, fun _ => ⟨fun y => absurd y z, fun _ => ⟨hT, fun _ => stays Q hQ, fun y => absurd y n12⟩⟩⟩⟩) (fun Q hQ => mv Q ⟨fun y => absurd y n10, fun _ => ⟨fun y => absurd q y, fun _ => ⟨fun y => absurd y z, fun _ => ⟨fun _ => mstays Q (by rw [pu_same] at hQ; exact hQ), fun y => absurd y n12⟩⟩⟩⟩)
  · have n10 : ¬ w &&& 31 = 10 := by rw [q]; decide
    have n11 : ¬ w &&& 31 = 11 := by rw [q]; decide
    by_cases z : 0 ≤ m 8 (8 * t + a)
    · exact fin (m 0 28) (fun Q hQ => kv Q ⟨fun y => absurd y n10, fun _ => ⟨fun _ => ⟨hT, fun y => absurd q y, fun _ => ⟨fun _ => stays Q hQ, fun y => absurd z y⟩⟩, fun y => absurd y n11⟩⟩) (fun Q hQ => mv Q ⟨fun y => absurd y n10, fun _ => ⟨fun _ => ⟨fun y => absurd q y, fun _ => ⟨fun _ => mstays Q (by rw [pu_same] at hQ; exact hQ), fun y => absurd z y⟩⟩, fun y => absurd y n11⟩⟩)
    · exact fin (fdN w) (fun Q hQ => kv Q ⟨fun y => absurd y n10, fun _ => ⟨fun _ => ⟨hT, fun y => absurd q y, fun _ => ⟨fun y => absurd y z, fun _ => goes Q hQ⟩⟩, fun y => absurd y n11⟩⟩) (fun Q hQ => mv Q ⟨fun y => absurd y n10, fun _ => ⟨fun _ => ⟨fun y => absurd q y, fun _ => ⟨fun y => absurd y z, fun _ => mgoes Q hQ⟩⟩, fun y => absurd y n11⟩⟩)
/-- YIELD -/
theorem xI_13 {k m : mj_St} {t : Nat} {tl : List Nat} {el : Nat → List Nat} {N : Nat} {w : Int32} (h : pH k m t tl el N w) (e : w &&& 31 = 13) : pI k m t N w := by
  obtain ⟨hS, hC, ht, h2, hA, hB, hCc, hN, h28, hNb⟩ := h
  obtain ⟨a, ha, ea⟩ := fdA_of w
  obtain ⟨b, hb, eb⟩ := fdB_of w
  obtain ⟨c, hc, ec⟩ := fdC_of w
  exact pI.done ht h28 (by rw [e]; decide) (by rw [e]; decide) (by rw [e]; decide) (fun Q hQ => vK_perf_c ht (o := 13) (by omega) e (by omega) (vK_compute ht ha hb hc ea eb ec e (by simp; exact hQ))) (fun Q hQ => by rw [e]; exact vM_fault_0 (by simp) hQ) (fun Q hQ => by rw [e]; exact vM_act_13 ht ha hb hc (hA.trans ea) (hB.trans eb) (hCc.trans ec) hQ) (hS.le (by omega)) hC rfl rfl (fun _ _ _ => rfl)
/-- LOAD, STORE -/
theorem xI_8 {k m : mj_St} {t : Nat} {tl : List Nat} {el : Nat → List Nat} {N : Nat} {w : Int32} (h : pH k m t tl el N w) (e : w &&& 31 = 8 ∨ w &&& 31 = 9) : pI k m t N w := by
  obtain ⟨hS, hC, ht, h2, hA, hB, hCc, hN, h28, hNb⟩ := h
  obtain ⟨a, ha, ea⟩ := fdA_of w
  obtain ⟨b, hb, eb⟩ := fdB_of w
  obtain ⟨c, hc, ec⟩ := fdC_of w
  have ea' : (w >>> (5 &&& 31)) &&& 7 = nI a := ea
  have eb' : (w >>> (8 &&& 31)) &&& 7 = nI b := eb
  have hT : mk_T (3 + t) := ⟨by omega, by omega⟩
  have hvt : vp_in (nI t) 6 := vp_in_nI ht (by decide)
  have ra : k (3 + t + 6) a = m 8 (8 * t + a) := hS.2.2.1 t a ht ha
  have rb : k (3 + t + 6) b = m 8 (8 * t + b) := hS.2.2.1 t b ht hb
  obtain ⟨b1, b2, b3, b4, ⟨bs, ln, c1, c2, c3⟩, -⟩ := hS.2.2.2.1 t ht
  have n10 : ¬ w &&& 31 = 10 := by rcases e with q | q <;> rw [q] <;> decide
  have n11 : ¬ w &&& 31 = 11 := by rcases e with q | q <;> rw [q] <;> decide
  have n12 : ¬ w &&& 31 = 12 := by rcases e with q | q <;> rw [q] <;> decide
  have hf : ∀ Q : Int32 → Prop, (((m 8 (8 * t + b)).toInt64 + (fdN w).toInt64 < 0 ∨ ¬ (m 8 (8 * t + b)).toInt64 + (fdN w).toInt64 < (nI ln).toInt64) → Q 2) → (¬ (m 8 (8 * t + b)).toInt64 + (fdN w).toInt64 < 0 → (m 8 (8 * t + b)).toInt64 + (fdN w).toInt64 < (nI ln).toInt64 → Q 0) → wM_faultOf (nI t) (w &&& 31) m Q := by
    intro Q g1 g2
    refine vM_fault_8 e ?_
    unfold wM_faultOf_20
    rw [hB, eb, hN, pn_slot, nI_clamp (by omega), nI_clamp (by omega), c2]
    refine ⟨vp_in_nI (by omega) (by decide), ?_⟩
    rintro a3 rfl
    refine ⟨fun z => g1 (Or.inl ((lg_cmp_lt _ _).mp z)), fun z => ⟨hvt, fun z2 => g2 (fun y => z ((lg_cmp_lt _ _).mpr y)) ((lg_cmp_lt _ _).mp z2), fun z2 => g1 (Or.inr (fun y => z2 ((lg_cmp_lt _ _).mpr y)))⟩⟩
  have hk : ∀ Q : Int32 → mj_St → Prop, (((m 8 (8 * t + b)).toInt64 + (fdN w).toInt64 < 0 ∨ ¬ (m 8 (8 * t + b)).toInt64 + (fdN w).toInt64 < (nI ln).toInt64) → Q 2 k) → (¬ (m 8 (8 * t + b)).toInt64 + (fdN w).toInt64 < 0 → (m 8 (8 * t + b)).toInt64 + (fdN w).toInt64 < (nI ln).toInt64 → ∀ j, j < 128 → nI bs + ((m 8 (8 * t + b)).toInt64 + (fdN w).toInt64).toInt32 = nI j → (w &&& 31 = 8 → Q 0 (mj_up k (3 + t + 6) a (k 1 j))) ∧ (¬ w &&& 31 = 8 → Q 0 (mj_up k 1 j (k (3 + t + 6) a)))) → wK_perform (nI t) w k Q := by
    intro Q g1 g2
    refine vK_perf_8 e ?_
    refine ⟨hvt, ?_⟩
    rw [nI_clamp (by omega)]
    unfold wK_access wK_fieldB wK_numberOf wK_opOf wK_fieldA
    rw [eb', ea']
    refine ⟨hT, vp_in_nI hb (by decide), ?_⟩
    dsimp only
    rw [nI_clamp (by omega), nI_clamp (by omega), rb]
    rintro a4 rfl
    unfold wT_isGood
    rw [b4, c2, b3, c1]
    have bad : ((m 8 (8 * t + b)).toInt64 + (fdN w).toInt64 < 0 ∨ ¬ (m 8 (8 * t + b)).toInt64 + (fdN w).toInt64 < (nI ln).toInt64) → Q 2 k := g1
    refine ⟨hT, fun z => ⟨fun y => absurd rfl y, fun _ => bad (Or.inl ((lg_cmp_lt _ _).mp z))⟩, fun z => ⟨fun z2 => ⟨fun y => absurd rfl y, fun _ => bad (Or.inr (fun y => ?_))⟩, fun z2 => ⟨fun _ => ?_, fun y => absurd y (by decide)⟩⟩⟩
    · have := (lg_cmp_ge _ _).mp z2
      rw [Int64.le_iff_toInt_le] at this
      rw [Int64.lt_iff_toInt_lt] at y
      have e9 : (w >>> (14 &&& 31)) = fdN w := rfl
      rw [e9] at this
      omega
    · rintro a7 rfl
      have z0 : ¬ (m 8 (8 * t + b)).toInt64 + (fdN w).toInt64 < 0 := fun y => z ((lg_cmp_lt _ _).mpr y)
      have z1 : (m 8 (8 * t + b)).toInt64 + (fdN w).toInt64 < (nI ln).toInt64 := by
        have q : ¬ (nI ln).toInt64 ≤ (m 8 (8 * t + b)).toInt64 + (fdN w).toInt64 := fun y => z2 ((lg_cmp_ge _ _).mpr y)
        rw [Int64.le_iff_toInt_le] at q
        rw [Int64.lt_iff_toInt_lt]
        omega
      obtain ⟨j, j1, j2, -⟩ := pn_addr c3 z0 z1
      obtain ⟨r1, r2⟩ := g2 z0 z1 j j1 j2
      have j2' : nI bs + ((m 8 (8 * t + b)).toInt64 + (w >>> (14 &&& 31)).toInt64).toInt32 = nI j := j2
      rw [j2', nI_clamp (by omega)]
      refine ⟨fun y => ⟨vp_in_nI ha (by decide), vp_in_nI j1 (by decide), ?_⟩, fun y => ⟨vp_in_nI j1 (by decide), vp_in_nI ha (by decide), ?_⟩⟩
      · rintro k11 rfl; exact r2 y
      · rintro k13 rfl; exact r1 y
  by_cases z0 : (m 8 (8 * t + b)).toInt64 + (fdN w).toInt64 < 0
  · exact pI.fault (f := 2) (Or.inl rfl) (fun Q hQ => hk Q (fun _ => hQ) (fun y => absurd z0 y)) (fun Q hQ => hf Q (fun _ => hQ) (fun y => absurd z0 y))
  · by_cases z1 : (m 8 (8 * t + b)).toInt64 + (fdN w).toInt64 < (nI ln).toInt64
    · obtain ⟨j, j1, j2, j3⟩ := pn_addr c3 z0 z1
      have j3' : m 5 t + m 8 (8 * t + b) + m 0 27 = nI j := by rw [c1, hN]; exact j3
      have mj : k 1 j = m 1 j := hS.2.1 j j1
      have uniq : ∀ j' : Nat, j' < 128 → nI bs + ((m 8 (8 * t + b)).toInt64 + (fdN w).toInt64).toInt32 = nI j' → j' = j := fun j' q1 q2 => (nI_eq (by omega) (by omega)).mp (q2.symm.trans j2)
      rcases e with q | q
      · refine pI.done (tl' := tl) (el' := el) (k' := mj_up k (3 + t + 6) a (k 1 j)) (m' := mj_up m 8 (8 * t + a) (k 1 j)) ht h28 n10 n11 n12 (fun Q hQ => hk Q (fun y => ?_) (fun _ _ j' q1 q2 => ⟨fun _ => by rw [uniq j' q1 q2]; exact hQ, fun y => absurd q y⟩)) (fun Q hQ => hf Q (fun y => ?_) (fun _ _ => hQ)) (fun Q hQ => by rw [q]; exact vM_act_8 ht ha hb hc (hA.trans ea) (hB.trans eb) (hCc.trans ec) (by rw [j3', nI_clamp (by omega), ← mj]; exact ⟨vp_in_nI j1 (by decide), hQ⟩)) ((hS.reg ht ha).le (by omega)) (hC.of (pu_ne _ _ _ (by omega)) (pu_ne _ _ _ (by omega))) (pu_ne _ _ _ (by omega)) (pu_ne _ _ _ (by omega)) (fun j _ _ => by rw [pu_ne _ _ _ (by omega)])
        · rcases y with y | y
          · exact absurd y z0
          · exact absurd z1 y
        · rcases y with y | y
          · exact absurd y z0
          · exact absurd z1 y
      · have n8 : ¬ w &&& 31 = 8 := by rw [q]; decide
        refine pI.done (tl' := tl) (el' := el) (k' := mj_up k 1 j (k (3 + t + 6) a)) (m' := mj_up m 1 j (k (3 + t + 6) a)) ht h28 n10 n11 n12 (fun Q hQ => hk Q (fun y => ?_) (fun _ _ j' q1 q2 => ⟨fun y => absurd y n8, fun _ => by rw [uniq j' q1 q2]; exact hQ⟩)) (fun Q hQ => hf Q (fun y => ?_) (fun _ _ => hQ)) (fun Q hQ => by rw [q]; exact vM_act_9 ht ha hb hc (hA.trans ea) (hB.trans eb) (hCc.trans ec) (by rw [j3', nI_clamp (by omega), ← ra]; exact ⟨vp_in_nI j1 (by decide), hQ⟩)) (hS.mem.le (by omega)) (hC.of (pu_ne _ _ _ (by omega)) (pu_ne _ _ _ (by omega))) (pu_ne _ _ _ (by omega)) (pu_ne _ _ _ (by omega)) (fun j _ _ => by rw [pu_ne _ _ _ (by omega)])
        · rcases y with y | y
          · exact absurd y z0
          · exact absurd z1 y
        · rcases y with y | y
          · exact absurd y z0
          · exact absurd z1 y
    · exact pI.fault (f := 2) (Or.inl rfl) (fun Q hQ => hk Q (fun _ => hQ) (fun _ y => absurd y z1)) (fun Q hQ => hf Q (fun _ => hQ) (fun _ y => absurd y z1))

/-- RECEIVE -/
theorem xI_17 {k m : mj_St} {t : Nat} {tl : List Nat} {el : Nat → List Nat} {N : Nat} {w : Int32} (h : pH k m t tl el N w) (e : w &&& 31 = 17) : pI k m t N w := by
  obtain ⟨hS, hC, ht, h2, hA, hB, hCc, hN, h28, hNb⟩ := h
  obtain ⟨a, ha, ea⟩ := fdA_of w
  obtain ⟨b, hb, eb⟩ := fdB_of w
  obtain ⟨c, hc, ec⟩ := fdC_of w
  have ea' : (w >>> (5 &&& 31)) &&& 7 = nI a := ea
  have hvt : vp_in (nI t) 6 := vp_in_nI ht (by decide)
  have hct : (nI t).toNatClampNeg = t := nI_clamp (by omega)
  have hp : 8 * t + a < 48 := by omega
  obtain ⟨c1, c2, c3⟩ := hS.2.2.2.2.1.1 _ hp
  have n10 : ¬ w &&& 31 = 10 := by rw [e]; decide
  have n11 : ¬ w &&& 31 = 11 := by rw [e]; decide
  have n12 : ¬ w &&& 31 = 12 := by rw [e]; decide
  have hF : ∀ Q : Int32 → Prop, ((m 16 (8 * t + a) = 1 ∧ (m 18 (8 * t + a) &&& 2) = 2) → Q 0) → (¬ (m 16 (8 * t + a) = 1 ∧ (m 18 (8 * t + a) &&& 2) = 2) → Q 4) → wM_faultOf (nI t) (w &&& 31) m Q := by
    intro Q g1 g2
    rw [e]
    refine vM_fault_17 (vM_lacks ht ha (hA.trans ea) (fun z => ⟨fun _ => g2 (fun y => ?_), fun y => absurd y (by decide)⟩) (fun z1 z2 z3 => ⟨fun y => absurd rfl y, fun _ => g1 ⟨z2 (by decide), z3⟩⟩))
    rcases z with z | z | z
    · rw [z] at y; exact absurd y.1 (by decide)
    · exact z.2 y.1
    · exact z y.2
  by_cases hok : m 16 (8 * t + a) = 1 ∧ (m 18 (8 * t + a) &&& 2) = 2
  · have h16 : ¬ m 16 (8 * t + a) = 0 := by rw [hok.1]; decide
    obtain ⟨d1, d2, d3, d4, d5⟩ := c3 h16
    obtain ⟨e0, he0, ee0⟩ := d4 hok.1
    obtain ⟨g, hg⟩ : ∃ g : Int32, g = if (fdN w &&& 1) = 1 then 1 else 0 := ⟨_, rfl⟩
    obtain ⟨k1, hk1⟩ : ∃ k1, k1 = mj_up k (3 + t) 7 w := ⟨_, rfl⟩
    obtain ⟨m1, hm1⟩ : ∃ m1, m1 = mj_up (mj_up (mj_up (mj_up m 11 t (fdB w)) 12 t (fdC w)) 13 t g) 14 t (m 8 (8 * t + b)) := ⟨_, rfl⟩
    have k1n : ∀ i, i ≠ 3 + t → k1 i = k i := fun i hi => by rw [hk1, pu_ne _ _ _ hi]
    have k1t : ∀ z, z ≠ 7 → z ≠ 8 → k1 (3 + t) z = k (3 + t) z := fun z h7 h8 => by rw [hk1, pu_eq, pd_ne _ _ h7]
    have k17 : k1 (3 + t) 7 = w := by rw [hk1, pu_eq, pd_eq]
    have m1n : ∀ i, i < 11 ∨ 15 < i → m1 i = m i := fun i hi => by rw [hm1, pu_ne _ _ _ (by omega), pu_ne _ _ _ (by omega), pu_ne _ _ _ (by omega), pu_ne _ _ _ (by omega)]
    have m1v : ∀ i v, v ≠ t → m1 i v = m i v := by
      intro i v hv
      rw [hm1, pu_at, pu_at, pu_at, pu_at, if_neg (fun q => hv q.2), if_neg (fun q => hv q.2), if_neg (fun q => hv q.2), if_neg (fun q => hv q.2)]
    have m111 : m1 11 t = fdB w := by rw [hm1, pu_ne _ _ _ (by omega), pu_ne _ _ _ (by omega), pu_ne _ _ _ (by omega), pu_eq, pd_eq]
    have m112 : m1 12 t = fdC w := by rw [hm1, pu_ne _ _ _ (by omega), pu_ne _ _ _ (by omega), pu_eq, pd_eq]
    have hS1 : pS k1 m1 t tl el el N := hS.say ht h2 k1n k1t m1n m1v
    have hsd : pSaid k1 m1 t := ⟨by rw [m111, k17], by rw [m112, k17]⟩
    have hm12 : m1 2 = m 2 := m1n 2 (by omega)
    have hK1 : ∀ Q : Int32 → mj_St → Prop, wK_takeWaiting (16 + e0) 2 k1 (fun a9 k10 => (((¬ a9 = (-1)) → wK_pass a9 (nI t) k10 (fun k12 => (vp_in a9 6 ∧ (wK_opOf (k12 (3 + a9.toNatClampNeg) 7) (fun a14 => (((¬ a14 = 16) → wK_makeReady a9 k12 (fun k16 => (Q 0 k16))) ∧ ((a14 = 16) → vp_in a9 6 ∧ (∀ k18 : mj_St, k18 = mj_up k12 (3 + a9.toNatClampNeg) 1 3 → (Q 0 k18))))))))) ∧ ((a9 = (-1)) → ∀ k19 : mj_St, k19 = mj_up k10 (3 + t) 1 4 → (wN_append (16 + e0) (nI t) k19 (fun k20 => (Q 0 k20)))))) → wK_perform (nI t) w k Q := by
      intro Q gq
      refine vK_perf_17 e ?_
      unfold wK_receiveBy wK_fieldA wK_slotPlace
      rw [ea']
      dsimp only
      rw [pn_slot]
      refine vG_allows hp (fun _ _ => ⟨fun _ => ⟨hvt, ?_⟩, fun y => absurd y (by decide)⟩) (fun z => ⟨fun y => absurd rfl y, fun _ => ?_⟩)
      · rw [hct]
        rintro k6 rfl
        rw [← hk1]
        unfold wG_objectAt
        rw [nI_clamp (by omega), k1n 28 (by omega), d1, ee0]
        dsimp only
        rw [nI_clamp (n := e0) (by omega)]
        exact ⟨vp_in_nI hp (by decide), vp_in_nI he0 (by decide), gq⟩
      · rw [c1, d2] at z
        rcases z with z | z
        · exact absurd hok.1 z
        · exact absurd hok.2 z
    have hM1 : ∀ Q : mj_St → Prop, wM_firstAt (nI e0) 2 m1 (fun a2 => (((0 ≤ a2) → wM_pass a2 (nI t) m1 (fun k4 => (vp_in a2 6 ∧ ((((k4 15 a2.toNatClampNeg) = 0) → wM_makeReady a2 k4 (fun k6 => (Q k6))) ∧ ((¬ (k4 15 a2.toNatClampNeg) = 0) → vp_in a2 6 ∧ (∀ k7 : mj_St, k7 = mj_up k4 2 a2.toNatClampNeg 3 → (Q k7))))))) ∧ ((¬ 0 ≤ a2) → wM_queue (nI t) (nI e0) 4 m1 (fun k8 => (Q k8))))) → wM_act (nI t) (w &&& 31) m Q := by
      intro Q gq
      rw [e]
      refine vM_act_17 ht ha hb hc (hA.trans ea) (hB.trans eb) (hCc.trans ec) ?_
      unfold wM_receive
      rw [ee0]
      refine vM_say ht hb eb hB hCc hN hg ?_
      rw [← hm1]
      exact gq
    obtain ⟨d, hdN, hd⟩ := hS1.2.2.2.2.2.2.2.2.1.d
    have hrow := hS1.2.2.2.2.2.2.2.2.2.2 e0 he0
    have hline := hS1.2.2.2.2.2.2.2.1.2 e0 he0
    by_cases hw : ∃ u l, el e0 = u :: l ∧ m 2 u = 2
    · obtain ⟨u, l, hl, hu2⟩ := hw
      rw [hl] at hrow hline
      have hu6 : u < 6 := ((hrow.1 u).mp List.mem_cons_self).1
      have hut : u ≠ t := fun q => by rw [q, h2] at hu2; exact absurd hu2 (by decide)
      have hvu : vp_in (nI u) 6 := vp_in_nI hu6 (by decide)
      have hcu : (nI u).toNatClampNeg = u := nI_clamp (by omega)
      have hku : k1 (3 + u) 1 = 2 := by rw [(hS1.2.2.2.1 u hu6).1, hm12]; exact hu2
      obtain ⟨k2, hS2, hk2, hrun⟩ := hS1.take he0 hl
      have k2T : ∀ v, v < 6 → k2 (3 + v) = k1 (3 + v) := fun v hv => hk2 _ (by omega) (by omega)
      have hT1 := hS2.2.2.2.1 u hu6
      have hsu : pSaid k2 m1 u := hT1.2.2.2.2.2.2.2.2.1 (by rw [hm12]; exact Or.inl hu2)
      have hstu : pSent k2 m1 u := hT1.2.2.2.2.2.2.2.2.2 (by rw [hm12]; exact hu2)
      obtain ⟨k3, m3, p1, p2, p3, p4, p0, p5, p6⟩ := xPass hS2 hu6 ht (by rw [hm12, h2]; decide) hsu hstu (by unfold pSaid; rw [k2T t ht]; exact hsd)
      have m32 : m3 2 = m 2 := by rw [p3 2 (by omega) (by omega) (by omega), hm12]
      have m30 : m3 0 = m 0 := by rw [p3 0 (by omega) (by omega) (by omega), m1n 0 (by omega)]
      have hd3 : m3 0 11 = nI d := by rw [p3 0 (by omega) (by omega) (by omega)]; exact hd
      have k37 : k3 (3 + u) 7 = k2 (3 + u) 7 := p2 u 7 hu6 (by omega)
      have hcallK : m3 15 u = 0 ↔ ¬ (k3 (3 + u) 7 &&& 31) = 16 := by
        rw [p3 15 (by omega) (by omega) (by omega), k37]
        exact hstu.2.2
      have e17 : m3 7 = if (k3 (3 + u) 7 &&& 31) = 16 then upd (m 7) t (nI u) else m 7 := by
        rw [p4, m1n 7 (by omega), k37]; rfl
      have hL15 : pL k3 15 (t :: tl) := p1.2.2.2.2.2.2.2.1.1
      have runK : ∀ Q : Int32 → mj_St → Prop, (((¬ (k3 (3 + u) 7 &&& 31) = 16) → wK_makeReady (nI u) k3 (fun k16 => Q 0 k16)) ∧ (((k3 (3 + u) 7 &&& 31) = 16) → Q 0 (mj_up k3 (3 + u) 1 3))) → wK_perform (nI t) w k Q := by
        intro Q hQ
        refine hK1 Q (vK_wait he0 hline hu6 hku (hrun _ ⟨fun _ => p5 _ ⟨hvu, ?_⟩, fun z => absurd z (pn_m1 (by omega))⟩))
        rw [hcu]
        refine ⟨hQ.1, fun z => ⟨hvu, ?_⟩⟩
        rintro k18 rfl
        exact hQ.2 z
      have runM : ∀ Q : mj_St → Prop, ((m3 15 u = 0 → wM_makeReady (nI u) m3 (fun k6 => Q k6)) ∧ (¬ m3 15 u = 0 → Q (mj_up m3 2 u 3))) → wM_act (nI t) (w &&& 31) m Q := by
        intro Q hQ
        refine hM1 Q (vM_first hrow (by rw [hm12]; exact hu2) ⟨fun _ => p6 _ ⟨hvu, ?_⟩, fun z => absurd (nI_pos' (by omega)) z⟩)
        rw [hcu]
        refine ⟨hQ.1, fun z => ⟨hvu, ?_⟩⟩
        rintro k7 rfl
        exact hQ.2 z
      by_cases hcall : (k3 (3 + u) 7 &&& 31) = 16
      · -- the sender goes on waiting, for the answer
        have hn0 : ¬ m3 15 u = 0 := fun y => (hcallK.mp y) hcall
        obtain ⟨k5, hk5⟩ : ∃ k5, k5 = mj_up k3 (3 + u) 1 3 := ⟨_, rfl⟩
        obtain ⟨m5, hm5⟩ : ∃ m5, m5 = mj_up m3 2 u 3 := ⟨_, rfl⟩
        have m52 : ∀ v, v ≠ u → m5 2 v = m3 2 v := fun v hv => by rw [hm5, pu_eq, pd_ne _ _ hv]
        have m52u : m5 2 u = 3 := by rw [hm5, pu_eq, pd_eq]
        have m5n : ∀ i, i ≠ 2 → m5 i = m3 i := fun i hi => by rw [hm5, pu_ne _ _ _ hi]
        have hS5 : pS k5 m5 t tl (fun e => if e = e0 then l else el e) (fun e => if e = e0 then l else el e) N := by
          refine p1.turn (u := u) hu6 (fun i hi => by rw [hk5, pu_ne _ _ _ hi]) (fun i i2 _ => m5n i i2) (fun v hv => ⟨m52 v hv, by rw [m5n 3 (by omega)]⟩) ?_ (by rw [m52u]; decide) (by rw [m52u]; decide) (p1.2.2.2.2.2.2.2.2.2.1.other hut (by rw [m32, hu2]; decide) (by rw [m52u]; decide) (fun v hv => ⟨m52 v hv, by rw [m5n 9 (by omega)]⟩)) (p1.2.2.2.2.2.2.2.2.2.2.leave he0 hl (by rw [m52u]; decide) (by rw [m52u]; decide) (fun v hv => ⟨m52 v hv, by rw [m5n 9 (by omega)], by rw [m5n 10 (by omega)]⟩))
          obtain ⟨b1, b2, b3, b4, b5, b6, b7, b8, b9, b10⟩ := p1.2.2.2.1 u hu6
          have k5u : k5 (3 + u) = upd (k3 (3 + u)) 1 3 := by rw [hk5, pu_eq]
          unfold pT1
          rw [m52u, k5u, m5n 3 (by omega), m5n 4 (by omega), m5n 5 (by omega), m5n 6 (by omega), m5n 7 (by omega), m5n 11 (by omega), m5n 12 (by omega), pd_eq, pd_ne _ _ (show (3 : Nat) ≠ 1 by omega), pd_ne _ _ (show (4 : Nat) ≠ 1 by omega), pd_ne _ _ (show (5 : Nat) ≠ 1 by omega), pd_ne _ _ (show (2 : Nat) ≠ 1 by omega), pd_ne _ _ (show (6 : Nat) ≠ 1 by omega), pd_ne _ _ (show (7 : Nat) ≠ 1 by omega)]
          exact ⟨rfl, b2, b3, b4, b5, fun q => absurd q (by decide), fun _ => b7 (by rw [m32, hu2]; decide), fun _ => b8 (by rw [m32, hu2]; decide), fun _ => b9 (by rw [m32]; exact Or.inl hu2), fun q => absurd q (by decide)⟩
        refine pI.done ht h28 n10 n11 n12 (fun Q hQ => runK Q ⟨fun z => absurd hcall z, fun _ => by rw [← hk5]; exact hQ⟩) (fun Q hQ => hF Q (fun _ => hQ) (fun z => absurd hok z)) (fun Q hQ => runM Q ⟨fun z => absurd z hn0, fun _ => by rw [← hm5]; exact hQ⟩) (hS5.le (by omega)) ?_ ?_ ?_ ?_
        · refine hC.call (r := t) (s := u) hu6 (by rw [hu2]; decide) ?_ (fun v hv => ?_) (fun x hx => ?_) m52u
          · rw [m5n 7 (by omega), e17, if_pos hcall]
          · by_cases q : v = u
            · rw [q, hu2]; decide
            · rw [m52 v q, m32] at hv; exact hv
          · have q : x ≠ u := fun q => by rw [q, hu2] at hx; exact absurd hx (by decide)
            rw [m52 x q, m32]; exact hx
        · rw [m5n 4 (by omega), p3 4 (by omega) (by omega) (by omega), m1n 4 (by omega)]
        · rw [hk5, pu_ne _ _ _ (by omega), p0, hk2 _ (by omega) (by omega), k1n _ (by omega)]
        · intro j j1 j2
          rw [m5n 0 (by omega), m30]
      · -- the sender is ready
        have h0 : m3 15 u = 0 := hcallK.mpr hcall
        have hlen := p1.2.2.2.2.2.2.2.2.2.1.room ht hu6 hut (by rw [m32, hu2]; decide)
        have hE4 : pEp (gRdM m3 u d) (fun e => if e = e0 then l else el e) := p1.2.2.2.2.2.2.2.2.2.2.leave he0 hl (by rw [gRdM_2, pd_eq]; decide) (by rw [gRdM_2, pd_eq]; decide) (fun v hv => ⟨gRdM_at (by omega) hv, gRdM_at (by omega) hv, gRdM_at (by omega) hv⟩)
        have hS4 := p1.wake (by omega) ht hu6 hut (by rw [m32]; exact Or.inl hu2) hd3 hdN hE4
        refine pI.done ht h28 n10 n11 n12 (fun Q hQ => runK Q ⟨fun _ => vK_makeReady hu6 hL15 hlen hQ, fun z => absurd z hcall⟩) (fun Q hQ => hF Q (fun _ => hQ) (fun z => absurd hok z)) (fun Q hQ => runM Q ⟨fun _ => vM_makeReady hu6 hd3 hQ, fun z => absurd h0 z⟩) (hS4.le (by omega)) ?_ ?_ ?_ ?_
        · refine hC.mv ?_ (fun v hv => ?_) (fun x hx => ?_)
          · rw [gRdM_ne (by omega) (by omega) (by omega), e17, if_neg hcall]
          · by_cases q : v = u
            · rw [q, hu2]; decide
            · rw [gRdM_at (by omega) q, m32] at hv; exact hv
          · have q : x ≠ u := fun q => by rw [q, hu2] at hx; exact absurd hx (by decide)
            rw [gRdM_at (by omega) q, m32]; exact hx
        · rw [gRdM_ne (by omega) (by omega) (by omega), p3 4 (by omega) (by omega) (by omega), m1n 4 (by omega)]
        · rw [gRdK_ne (by omega) (by omega) (by omega), p0, hk2 _ (by omega) (by omega), k1n _ (by omega)]
        · intro j j1 j2
          rw [gRdM_0, pd_ne _ _ j1, m30]
    · -- nobody: t waits
      obtain ⟨hS2, h6⟩ := hS1.block (s := 4) (by omega) ht (by rw [hm12]; exact h2) he0 (Or.inr rfl) hd hdN hsd (fun q => absurd q (by decide))
      have hfst : ∀ u r, el e0 = u :: r → u < 6 ∧ ¬ m 2 u = 2 := fun u r q => by
        rw [q] at hrow
        exact ⟨((hrow.1 u).mp List.mem_cons_self).1, fun z => hw ⟨u, r, q, z⟩⟩
      have hb2 : gBlM m1 t 4 e0 d 2 = upd (m 2) t 4 := by
        unfold gBlM
        rw [pu_ne _ _ _ (by omega), pu_ne _ _ _ (by omega), pu_ne _ _ _ (by omega), pu_eq, hm12]
      have hbn : ∀ i, i ≠ 0 → i ≠ 2 → i ≠ 9 → i ≠ 10 → gBlM m1 t 4 e0 d i = m1 i := fun i i0 i2 i9 i10 => by
        unfold gBlM
        rw [pu_ne _ _ _ i0, pu_ne _ _ _ i9, pu_ne _ _ _ i10, pu_ne _ _ _ i2]
      refine pI.done ht h28 n10 n11 n12 (fun Q hQ => hK1 Q (vK_wait0 he0 hline (fun u r q => ?_) ⟨fun z => absurd rfl z, fun _ => ?_⟩)) (fun Q hQ => hF Q (fun _ => hQ) (fun z => absurd hok z)) (fun Q hQ => hM1 Q (vM_first0 hrow (fun u r q => by rw [hm12]; exact (hfst u r q).2) ⟨fun z => absurd z (by decide), fun _ => vM_queue ht hd hQ⟩)) (hS2.le (by omega)) ?_ ?_ ?_ ?_
      · obtain ⟨q1, q2⟩ := hfst u r q
        exact ⟨q1, by rw [(hS1.2.2.2.1 u q1).1, hm12]; exact q2⟩
      · rintro k21 rfl
        exact vN_append (l := el e0) ⟨by omega, by omega⟩ (hline.of (by rw [pu_ne _ _ _ (by omega)]) (by rw [pu_ne _ _ _ (by omega)])) h6 hQ
      · refine hC.mv ?_ (fun u hu => ?_) (fun x hx => ?_)
        · rw [hbn 7 (by omega) (by omega) (by omega) (by omega), m1n 7 (by omega)]
        · by_cases q : u = t
          · rw [q, h2]; decide
          · rw [hb2, pd_ne _ _ q] at hu; exact hu
        · have q : x ≠ t := fun q => by rw [q, h2] at hx; exact absurd hx (by decide)
          rw [hb2, pd_ne _ _ q]; exact hx
      · rw [hbn 4 (by omega) (by omega) (by omega) (by omega), m1n 4 (by omega)]
      · unfold gBlK
        rw [pu_ne _ _ _ (by omega), pu_ne _ _ _ (by omega), pu_ne _ _ _ (by omega), k1n _ (by omega)]
      · intro j j1 j2
        unfold gBlM
        rw [pu_eq, pd_ne _ _ j1, pu_ne _ _ _ (by omega), pu_ne _ _ _ (by omega), pu_ne _ _ _ (by omega), m1n 0 (by omega)]
  · refine pI.fault (f := 4) (Or.inr (Or.inr (Or.inl rfl))) (fun Q hQ => vK_perf_17 e ?_) (fun Q hQ => hF Q (fun z => absurd z hok) (fun _ => hQ))
    unfold wK_receiveBy wK_fieldA wK_slotPlace
    rw [ea']
    dsimp only
    rw [pn_slot]
    refine vG_allows hp (fun z1 z2 => absurd ?_ hok) (fun _ => ⟨fun y => absurd rfl y, fun _ => hQ⟩)
    have h16 : ¬ m 16 (8 * t + a) = 0 := by rw [← c1, z1]; decide
    obtain ⟨d1, d2, d3, d4, d5⟩ := c3 h16
    rw [c1] at z1
    rw [d2] at z2
    exact ⟨z1, z2⟩
/-- ANSWER -/
theorem xI_18 {k m : mj_St} {t : Nat} {tl : List Nat} {el : Nat → List Nat} {N : Nat} {w : Int32} (h : pH k m t tl el N w) (e : w &&& 31 = 18) : pI k m t N w := by
  obtain ⟨hS, hC, ht, h2, hA, hB, hCc, hN, h28, hNb⟩ := h
  obtain ⟨a, ha, ea⟩ := fdA_of w
  obtain ⟨b, hb, eb⟩ := fdB_of w
  obtain ⟨c, hc, ec⟩ := fdC_of w
  have eb' : (w >>> (8 &&& 31)) &&& 7 = nI b := eb
  have hvt : vp_in (nI t) 6 := vp_in_nI ht (by decide)
  have hT : mk_T (3 + t) := ⟨by omega, by omega⟩
  have n10 : ¬ w &&& 31 = 10 := by rw [e]; decide
  have n11 : ¬ w &&& 31 = 11 := by rw [e]; decide
  have n12 : ¬ w &&& 31 = 12 := by rw [e]; decide
  have k6 : k (3 + t) 6 = m 7 t := (hS.2.2.2.1 t ht).2.2.2.2.2.2.2.1 (by rw [h2]; decide)
  have hF : ∀ Q : Int32 → Prop, Q 0 → wM_faultOf (nI t) (w &&& 31) m Q := fun Q hQ => by rw [e]; exact vM_fault_0 (by simp) hQ
  rcases hC.1 t ht (by rw [h2]; decide) with q | ⟨x, x6, xe, x3⟩
  · refine pI.done (k' := k) (m' := m) (tl' := tl) (el' := el) ht h28 n10 n11 n12 (fun Q hQ => vK_perf_18 ht e ⟨hT, ?_⟩) hF (fun Q hQ => by
      rw [e]
      refine vM_act_18 ht ha hb hc (hA.trans ea) (hB.trans eb) (hCc.trans ec) ⟨hvt, ?_⟩
      rw [nI_clamp (by omega), q]
      rintro a1 rfl
      exact ⟨fun _ => hQ, fun z => absurd pn_m1lt z⟩) (hS.le (by omega)) hC rfl rfl (fun _ _ _ => rfl)
    rw [k6, q]
    rintro a2 rfl
    exact ⟨fun _ => hQ, fun z => absurd rfl z⟩
  · have hxt : x ≠ t := fun q => by rw [q, h2] at x3; exact absurd x3 (by decide)
    have hvx : vp_in (nI x) 6 := vp_in_nI x6 (by decide)
    obtain ⟨bx, hbx, ebx⟩ := fdB_of (k (3 + x) 7)
    have ebx' : (k (3 + x) 7 >>> (8 &&& 31)) &&& 7 = nI bx := ebx
    have m11 : m 11 x = nI bx := by rw [((hS.2.2.2.1 x x6).2.2.2.2.2.2.2.2.1 (Or.inr (Or.inl x3))).1]; exact ebx
    have rb : k (3 + t + 6) b = m 8 (8 * t + b) := hS.2.2.1 t b ht hb
    obtain ⟨d, hdN, hd⟩ := hS.2.2.2.2.2.2.2.2.1.d
    have hS1 := hS.reg (u := x) (r := bx) (v := k (3 + t + 6) b) x6 hbx
    obtain ⟨k1, hk1⟩ : ∃ k1, k1 = mj_up k (3 + x + 6) bx (k (3 + t + 6) b) := ⟨_, rfl⟩
    obtain ⟨m1, hm1⟩ : ∃ m1, m1 = mj_up m 8 (8 * x + bx) (k (3 + t + 6) b) := ⟨_, rfl⟩
    rw [← hk1, ← hm1] at hS1
    have m1n : ∀ i, i ≠ 8 → m1 i = m i := fun i hi => by rw [hm1, pu_ne _ _ _ hi]
    have hd1 : m1 0 11 = nI d := by rw [m1n 0 (by omega)]; exact hd
    have hlen := hS1.2.2.2.2.2.2.2.2.2.1.room ht x6 hxt (by rw [m1n 2 (by omega), x3]; decide)
    have hE : pEp (gRdM m1 x d) el := hS1.2.2.2.2.2.2.2.2.2.2.other (u := x) (by rw [m1n 2 (by omega), x3]; decide) (by rw [m1n 2 (by omega), x3]; decide) (by rw [gRdM_2, pd_eq]; decide) (by rw [gRdM_2, pd_eq]; decide) (fun v hv => ⟨gRdM_at (by omega) hv, gRdM_at (by omega) hv, gRdM_at (by omega) hv⟩)
    have hS2 := hS1.wake (by omega) ht x6 hxt (by rw [m1n 2 (by omega)]; exact Or.inr (Or.inl x3)) hd1 hdN hE
    have hS3 := hS2.call (r := t) (v := -1) ht
    have hL15 : pL k1 15 (t :: tl) := hS1.2.2.2.2.2.2.2.1.1
    have m2v : ∀ v, v ≠ x → mj_up (gRdM m1 x d) 7 t (-1) 2 v = m 2 v := fun v hv => by rw [pu_ne _ _ _ (by omega), gRdM_at (by omega) hv, m1n 2 (by omega)]
    have m7 : mj_up (gRdM m1 x d) 7 t (-1) 7 = upd (m 7) t (-1) := by rw [pu_eq, gRdM_ne (by omega) (by omega) (by omega), m1n 7 (by omega)]
    refine pI.done ht h28 n10 n11 n12 (fun Q hQ => vK_perf_18 ht e ⟨hT, ?_⟩) hF (fun Q hQ => by
      rw [e]
      refine vM_act_18 ht ha hb hc (hA.trans ea) (hB.trans eb) (hCc.trans ec) ⟨hvt, ?_⟩
      rw [nI_clamp (by omega), xe, hB, eb, pn_slot, nI_clamp (n := 8 * t + b) (by omega), ← rb]
      rintro a1 rfl
      rw [nI_clamp (by omega), m11, pn_slot, nI_clamp (by omega)]
      refine ⟨fun z => absurd z (nI_pos (by omega)), fun _ => ⟨hvx, vp_in_nI (by omega) (by decide), vp_in_nI (by omega) (by decide), ?_⟩⟩
      rintro k3 rfl
      rw [← hm1]
      refine vM_makeReady x6 hd1 ⟨hvt, ?_⟩
      rintro k5 rfl
      exact hQ) (hS3.le (by omega)) ?_ ?_ ?_ ?_
    · rw [k6, xe]
      rintro a2 rfl
      rw [nI_clamp (by omega)]
      refine ⟨fun z => absurd z (pn_m1 (by omega)), fun _ => ⟨hvx, ?_⟩⟩
      unfold wK_fieldB
      rw [ebx', eb']
      dsimp only
      rw [nI_clamp (by omega), nI_clamp (by omega)]
      refine ⟨vp_in_nI hb (by decide), vp_in_nI hbx (by decide), ?_⟩
      rintro k7 rfl
      rw [← hk1]
      refine vK_makeReady x6 hL15 hlen ?_
      rintro k9 rfl
      exact hQ
    · refine ⟨fun v hv hv0 => ?_, fun v v' hv hv' hv0 hv0' g1 g2 => ?_⟩
      · rw [m7]
        by_cases q : v = t
        · rw [q, pd_eq]; exact Or.inl rfl
        · rw [pd_ne _ _ q]
          have hvz : ¬ m 2 v = 0 := by
            by_cases q2 : v = x
            · rw [q2, x3]; decide
            · rw [m2v v q2] at hv0; exact hv0
          rcases hC.1 v hv hvz with g | ⟨y, y1, y2, y3⟩
          · exact Or.inl g
          · refine Or.inr ⟨y, y1, y2, ?_⟩
            have hyx : y ≠ x := fun q2 => by
              subst q2
              exact q (hC.2 v t hv ht hvz (by rw [h2]; decide) (y2.trans xe.symm) (by rw [y2]; exact pn_m1 (by omega)))
            rw [m2v y hyx]; exact y3
      · have nz : ∀ z, ¬ mj_up (gRdM m1 x d) 7 t (-1) 2 z = 0 → ¬ m 2 z = 0 := fun z hz => by
          by_cases q2 : z = x
          · rw [q2, x3]; decide
          · rw [m2v z q2] at hz; exact hz
        rw [m7] at g1 g2
        by_cases q : v = t
        · rw [q, pd_eq] at g2; exact absurd rfl g2
        · rw [pd_ne _ _ q] at g1 g2
          by_cases q' : v' = t
          · rw [q', pd_eq] at g1; exact absurd g1 g2
          · rw [pd_ne _ _ q'] at g1
            exact hC.2 v v' hv hv' (nz v hv0) (nz v' hv0') g1 g2
    · rw [pu_ne _ _ _ (by omega), gRdM_ne (by omega) (by omega) (by omega), m1n 4 (by omega)]
    · rw [pu_ne _ _ _ (by omega), gRdK_ne (by omega) (by omega) (by omega), hk1, pu_ne _ _ _ (by omega)]
    · intro j j1 j2
      rw [pu_ne _ _ _ (by omega), gRdM_0, pd_ne _ _ j1, m1n 0 (by omega)]
/-- every instruction -/
theorem xInstr {k m : mj_St} {t : Nat} {tl : List Nat} {el : Nat → List Nat} {N : Nat} {w : Int32} (h : pH k m t tl el N w) : pI k m t N w := by
  obtain ⟨o, ho, eo⟩ := fdO_of w
  have e : w &&& 31 = nI o := eo
  have hc : o = 0 ∨ (1 ≤ o ∧ o ≤ 7) ∨ o = 8 ∨ o = 9 ∨ o = 10 ∨ o = 11 ∨ o = 12 ∨ o = 13 ∨ o = 14 ∨ o = 15 ∨ o = 16 ∨ o = 17 ∨ o = 18 ∨ o = 19 ∨ o = 20 ∨ o = 21 ∨ o = 22 ∨ 23 ≤ o := by omega
  rcases hc with rfl | hc | rfl | rfl | rfl | rfl | rfl | rfl | rfl | rfl | rfl | rfl | rfl | rfl | rfl | rfl | rfl | hc
  · exact xI_0 h e
  · exact xI_reg h e hc
  · exact xI_8 h (Or.inl e)
  · exact xI_8 h (Or.inr e)
  · exact xI_go h (Or.inl e)
  · exact xI_go h (Or.inr (Or.inl e))
  · exact xI_go h (Or.inr (Or.inr e))
  · exact xI_13 h e
  · exact xI_14 h e
  · exact xI_15 h (Or.inl e)
  · exact xI_15 h (Or.inr e)
  · exact xI_17 h e
  · exact xI_18 h e
  · exact xI_19 h e
  · exact xI_20 h (Or.inl e)
  · exact xI_20 h (Or.inr e)
  · exact xI_22 h e
  · exact xI_bad h e ⟨hc, ho⟩

theorem pTk.d {m : mj_St} {N : Nat} (h : pTk m N) : ∃ d, d ≤ N ∧ m 0 11 = nI d := by
  obtain ⟨d, h1, h2, -⟩ := h
  exact ⟨d, h1, h2⟩
/-- callers when states change, and nobody who is waited for leaves state 3 -/
theorem pCl.mv {m m' : mj_St} (h : pCl m) (h7 : m' 7 = m 7) (hz : ∀ u, ¬ m' 2 u = 0 → ¬ m 2 u = 0) (h3 : ∀ c, m 2 c = 3 → m' 2 c = 3) : pCl m' := by
  refine ⟨fun u hu hu0 => ?_, fun u v hu hv hu0 hv0 h1 h2 => ?_⟩
  · rw [h7]
    rcases h.1 u hu (hz u hu0) with g | ⟨c, g1, g2, g3⟩
    · exact Or.inl g
    · exact Or.inr ⟨c, g1, g2, h3 c g3⟩
  · rw [h7] at h1 h2
    exact h.2 u v hu hv (hz u hu0) (hz v hv0) h1 h2
/-- r gets a new caller s, who waits for him from now on and for nobody before -/
theorem pCl.call {m m' : mj_St} (h : pCl m) {r s : Nat} (hs : s < 6) (hs3 : ¬ m 2 s = 3) (h7 : m' 7 = upd (m 7) r (nI s)) (hz : ∀ u, ¬ m' 2 u = 0 → ¬ m 2 u = 0) (h3 : ∀ c, m 2 c = 3 → m' 2 c = 3) (hs' : m' 2 s = 3) : pCl m' := by
  have key : ∀ v, v < 6 → v ≠ r → ¬ m' 2 v = 0 → ¬ m 7 v = nI s := by
    intro v hv hvr hv0 q
    rcases h.1 v hv (hz v hv0) with g | ⟨c, g1, g2, g3⟩
    · rw [g] at q; exact pn_m1 (by omega) q.symm
    · rw [g2, nI_eq (by omega) (by omega)] at q
      rw [q] at g3
      exact hs3 g3
  refine ⟨fun u hu hu0 => ?_, fun u v hu hv hu0 hv0 h1 h2 => ?_⟩
  · rw [h7]
    by_cases e : u = r
    · rw [e, pd_eq]
      exact Or.inr ⟨s, hs, rfl, hs'⟩
    · rw [pd_ne _ _ e]
      rcases h.1 u hu (hz u hu0) with g | ⟨c, g1, g2, g3⟩
      · exact Or.inl g
      · exact Or.inr ⟨c, g1, g2, h3 c g3⟩
  · rw [h7] at h1 h2
    by_cases e : u = r
    · by_cases e2 : v = r
      · rw [e, e2]
      · rw [e, pd_eq, pd_ne _ _ e2] at h1
        exact absurd h1.symm (key v hv e2 hv0)
    · rw [pd_ne _ _ e] at h1 h2
      by_cases e2 : v = r
      · rw [e2, pd_eq] at h1
        exact absurd h1 (key u hu e hu0)
      · rw [pd_ne _ _ e2] at h1
        exact h.2 u v hu hv (hz u hu0) (hz v hv0) h1 h2
theorem vM_say {m : mj_St} {t b : Nat} {w g : Int32} {Q : mj_St → Prop} (ht : t < 6) (hb : b < 8) (eb : fdB w = nI b) (hB : m 0 25 = fdB w) (hC : m 0 26 = fdC w) (hN : m 0 27 = fdN w) (hg : g = if (fdN w &&& 1) = 1 then 1 else 0) (h : Q (mj_up (mj_up (mj_up (mj_up m 11 t (fdB w)) 12 t (fdC w)) 13 t g) 14 t (m 8 (8 * t + b)))) : wM_say (nI t) m Q := by
  have hvt : vp_in (nI t) 6 := vp_in_nI ht (by decide)
  have h40 : ∀ x : Int32, (x = 0 ∨ x = 1) → x = g → wM_say_40 (nI t) x (nI t) (mj_up (mj_up m 11 t (fdB w)) 12 t (fdC w)) Q := by
    rintro x hx rfl
    unfold wM_say_40
    rw [nI_clamp (by omega)]
    refine ⟨hvt, hx, ?_⟩
    rintro k4 rfl
    rw [pu_ne (i := 13) _ _ _ (show (0 : Nat) ≠ 13 by omega), pu_ne (i := 12) _ _ _ (show (0 : Nat) ≠ 12 by omega), pu_ne (i := 11) _ _ _ (show (0 : Nat) ≠ 11 by omega), hB, eb, pn_slot, nI_clamp (by omega), pu_ne (i := 13) _ _ _ (show (8 : Nat) ≠ 13 by omega), pu_ne (i := 12) _ _ _ (show (8 : Nat) ≠ 12 by omega), pu_ne (i := 11) _ _ _ (show (8 : Nat) ≠ 11 by omega)]
    refine ⟨vp_in_nI (by omega) (by decide), hvt, ?_⟩
    rintro k5 rfl
    rw [eb] at h
    exact h
  unfold wM_say
  rw [nI_clamp (by omega), hB]
  refine ⟨hvt, ?_⟩
  rintro k1 rfl
  refine ⟨hvt, ?_⟩
  rw [pu_ne (i := 11) _ _ _ (show (0 : Nat) ≠ 11 by omega), hC]
  rintro k2 rfl
  rw [pu_ne (i := 12) _ _ _ (show (0 : Nat) ≠ 12 by omega), pu_ne (i := 11) _ _ _ (show (0 : Nat) ≠ 11 by omega), hN]
  exact ⟨fun z => h40 0 (Or.inl rfl) (by rw [hg, if_neg z]), fun z => h40 1 (Or.inr rfl) (by rw [hg, if_pos z])⟩
/-- SEND, CALL -/
theorem xI_15 {k m : mj_St} {t : Nat} {tl : List Nat} {el : Nat → List Nat} {N : Nat} {w : Int32} (h : pH k m t tl el N w) (e : w &&& 31 = 15 ∨ w &&& 31 = 16) : pI k m t N w := by
  obtain ⟨hS, hC, ht, h2, hA, hB, hCc, hN, h28, hNb⟩ := h
  obtain ⟨a, ha, ea⟩ := fdA_of w
  obtain ⟨b, hb, eb⟩ := fdB_of w
  obtain ⟨c, hc, ec⟩ := fdC_of w
  have ea' : (w >>> (5 &&& 31)) &&& 7 = nI a := ea
  have eb' : (w >>> (8 &&& 31)) &&& 7 = nI b := eb
  have hvt : vp_in (nI t) 6 := vp_in_nI ht (by decide)
  have hct : (nI t).toNatClampNeg = t := nI_clamp (by omega)
  have hp : 8 * t + a < 48 := by omega
  obtain ⟨c1, c2, c3⟩ := hS.2.2.2.2.1.1 _ hp
  have rb : k (3 + t + 6) b = m 8 (8 * t + b) := hS.2.2.1 t b ht hb
  have n10 : ¬ w &&& 31 = 10 := by rcases e with q | q <;> rw [q] <;> decide
  have n11 : ¬ w &&& 31 = 11 := by rcases e with q | q <;> rw [q] <;> decide
  have n12 : ¬ w &&& 31 = 12 := by rcases e with q | q <;> rw [q] <;> decide
  obtain ⟨nd, hnd⟩ : ∃ nd : Int32, nd = if (fdN w &&& 1) = 1 then 5 else 1 := ⟨_, rfl⟩
  have hK0 : ∀ Q : Int32 → mj_St → Prop, wK_sendBy_21 (nI t) w (nI (8 * t + a)) nd k Q → wK_perform (nI t) w k Q := by
    intro Q g
    refine vK_perf_15 e ?_
    unfold wK_sendBy wK_fieldA wK_slotPlace wK_isNumberOdd wK_numberOf
    rw [ea']
    dsimp only
    rw [pn_slot]
    refine ⟨fun z => ⟨fun _ => ?_, fun y => absurd rfl y⟩, fun z => ⟨fun y => absurd y (by decide), fun _ => ?_⟩⟩
    · rw [hnd, if_neg (show ¬ (fdN w &&& 1) = 1 from (fd_odd _).mpr z)] at g; exact g
    · rw [hnd, if_pos (by
        by_cases y : (fdN w &&& 1) = 1
        · exact y
        · exact absurd ((fd_odd _).mp y) z)] at g
      exact g
  have hF : ∀ Q : Int32 → Prop, ((m 16 (8 * t + a) = 1 ∧ (m 18 (8 * t + a) &&& nd) = nd) → Q 0) → (¬ (m 16 (8 * t + a) = 1 ∧ (m 18 (8 * t + a) &&& nd) = nd) → Q 4) → wM_faultOf (nI t) (w &&& 31) m Q := by
    intro Q g1 g2
    refine vM_fault_15 e ?_
    rw [hN, ← hnd]
    refine vM_lacks ht ha (hA.trans ea) (fun z => ⟨fun y => absurd y (by decide), fun _ => g2 (fun y => ?_)⟩) (fun z1 z2 z3 => ⟨fun _ => g1 ⟨z2 (by decide), z3⟩, fun y => absurd rfl y⟩)
    rcases z with z | z | z
    · rw [z] at y; exact absurd y.1 (by decide)
    · exact z.2 y.1
    · exact z y.2
  by_cases hok : m 16 (8 * t + a) = 1 ∧ (m 18 (8 * t + a) &&& nd) = nd
  · have h16 : ¬ m 16 (8 * t + a) = 0 := by rw [hok.1]; decide
    obtain ⟨d1, d2, d3, d4, d5⟩ := c3 h16
    obtain ⟨e0, he0, ee0⟩ := d4 hok.1
    -- what is said
    obtain ⟨cl, hcl⟩ : ∃ cl : Int32, cl = if w &&& 31 = 16 then 1 else 0 := ⟨_, rfl⟩
    obtain ⟨g, hg⟩ : ∃ g : Int32, g = if (fdN w &&& 1) = 1 then 1 else 0 := ⟨_, rfl⟩
    obtain ⟨k1, hk1⟩ : ∃ k1, k1 = mj_up (mj_up k (3 + t) 7 w) (3 + t) 8 (k (3 + t + 6) b) := ⟨_, rfl⟩
    obtain ⟨m1, hm1⟩ : ∃ m1, m1 = mj_up (mj_up (mj_up (mj_up (mj_up m 11 t (fdB w)) 12 t (fdC w)) 13 t g) 14 t (k (3 + t + 6) b)) 15 t cl := ⟨_, rfl⟩
    have k1n : ∀ i, i ≠ 3 + t → k1 i = k i := fun i hi => by rw [hk1, pu_ne _ _ _ hi, pu_ne _ _ _ hi]
    have k1t : ∀ z, z ≠ 7 → z ≠ 8 → k1 (3 + t) z = k (3 + t) z := fun z h7 h8 => by rw [hk1, pu_eq, pd_ne _ _ h8, pu_eq, pd_ne _ _ h7]
    have k17 : k1 (3 + t) 7 = w := by rw [hk1, pu_eq, pd_ne _ _ (by omega), pu_eq, pd_eq]
    have k18 : k1 (3 + t) 8 = k (3 + t + 6) b := by rw [hk1, pu_eq, pd_eq]
    have m1n : ∀ i, i < 11 ∨ 15 < i → m1 i = m i := fun i hi => by rw [hm1, pu_ne _ _ _ (by omega), pu_ne _ _ _ (by omega), pu_ne _ _ _ (by omega), pu_ne _ _ _ (by omega), pu_ne _ _ _ (by omega)]
    have m1v : ∀ i v, v ≠ t → m1 i v = m i v := by
      intro i v hv
      rw [hm1, pu_at, pu_at, pu_at, pu_at, pu_at, if_neg (fun q => hv q.2), if_neg (fun q => hv q.2), if_neg (fun q => hv q.2), if_neg (fun q => hv q.2), if_neg (fun q => hv q.2)]
    have m111 : m1 11 t = fdB w := by rw [hm1, pu_ne _ _ _ (by omega), pu_ne _ _ _ (by omega), pu_ne _ _ _ (by omega), pu_ne _ _ _ (by omega), pu_eq, pd_eq]
    have m112 : m1 12 t = fdC w := by rw [hm1, pu_ne _ _ _ (by omega), pu_ne _ _ _ (by omega), pu_ne _ _ _ (by omega), pu_eq, pd_eq]
    have m113 : m1 13 t = g := by rw [hm1, pu_ne _ _ _ (by omega), pu_ne _ _ _ (by omega), pu_eq, pd_eq]
    have m114 : m1 14 t = k (3 + t + 6) b := by rw [hm1, pu_ne _ _ _ (by omega), pu_eq, pd_eq]
    have m115 : m1 15 t = cl := by rw [hm1, pu_eq, pd_eq]
    have hS1 : pS k1 m1 t tl el el N := hS.say ht h2 k1n k1t m1n m1v
    have hsd : pSaid k1 m1 t := ⟨by rw [m111, k17], by rw [m112, k17]⟩
    have hst : pSent k1 m1 t := by
      refine ⟨?_, by rw [m114, k18], ?_⟩
      · rw [m113, k17, hg]
        by_cases z : (fdN w &&& 1) = 1
        · rw [if_pos z, z]
        · rw [if_neg z]; exact ⟨fun _ => (fd_odd _).mp z, fun _ => rfl⟩
      · rw [m115, k17, hcl]
        unfold fdO
        by_cases z : w &&& 31 = 16
        · rw [if_pos z, z]; decide
        · rw [if_neg z]; exact ⟨fun _ => z, fun _ => rfl⟩
    have hm12 : m1 2 = m 2 := m1n 2 (by omega)
    -- the class up to the endpoint
    have hK1 : ∀ Q : Int32 → mj_St → Prop, wK_takeWaiting (16 + e0) 4 k1 (fun a13 k14 => (((¬ a13 = (-1)) → wK_pass (nI t) a13 k14 (fun k16 => (wK_makeReady a13 k16 (fun k17 => (wK_opOf w (fun a18 => (((¬ a18 = 16) → Q 0 k17) ∧ ((a18 = 16) → ∀ k20 : mj_St, k20 = mj_up k17 (3 + t) 1 3 → (Q 0 k20))))))))) ∧ ((a13 = (-1)) → ∀ k21 : mj_St, k21 = mj_up k14 (3 + t) 1 2 → (wN_append (16 + e0) (nI t) k21 (fun k22 => (Q 0 k22)))))) → wK_perform (nI t) w k Q := by
      intro Q gq
      refine hK0 Q ?_
      refine vG_allows hp (fun _ _ => ⟨fun _ => ⟨hvt, ?_⟩, fun y => absurd y (by decide)⟩) (fun z => ⟨fun y => absurd rfl y, fun _ => ?_⟩)
      · rw [hct]
        rintro k8 rfl
        unfold wK_fieldB
        rw [eb']
        dsimp only
        rw [nI_clamp (by omega)]
        refine ⟨vp_in_nI hb (by decide), ?_⟩
        rw [pu_ne (i := 3 + t) _ _ _ (show 3 + t + 6 ≠ 3 + t by omega)]
        rintro k10 rfl
        rw [← hk1]
        unfold wG_objectAt
        rw [nI_clamp (by omega), k1n 28 (by omega), d1, ee0]
        dsimp only
        rw [nI_clamp (by omega)]
        exact ⟨vp_in_nI hp (by decide), vp_in_nI he0 (by decide), gq⟩
      · rw [c1, d2] at z
        rcases z with z | z
        · exact absurd hok.1 z
        · exact absurd hok.2 z
    have hbz : mj_bz cl := by
      rw [hcl]
      by_cases z : w &&& 31 = 16
      · rw [if_pos z]; exact Or.inr rfl
      · rw [if_neg z]; exact Or.inl rfl
    have hM1 : ∀ Q : mj_St → Prop, wM_firstAt (nI e0) 4 m1 (fun a3 => (((0 ≤ a3) → wM_pass (nI t) a3 m1 (fun k5 => (wM_makeReady a3 k5 (fun k6 => (((cl = 0) → vp_in (nI t) 6 ∧ (∀ k8 : mj_St, k8 = mj_up k6 2 t 1 → (Q k8))) ∧ ((¬ cl = 0) → vp_in (nI t) 6 ∧ (∀ k9 : mj_St, k9 = mj_up k6 2 t 3 → (Q k9)))))))) ∧ ((¬ 0 ≤ a3) → wM_queue (nI t) (nI e0) 2 m1 (fun k10 => (Q k10))))) → wM_act (nI t) (w &&& 31) m Q := by
      intro Q gq
      have hsend : wM_send (nI t) (m 17 (8 * t + a)) cl m Q := by
        unfold wM_send
        rw [ee0, hct]
        refine vM_say ht hb eb hB hCc hN hg ⟨hvt, hbz, ?_⟩
        rw [← rb]
        rintro k2 rfl
        rw [← hm1]
        exact gq
      rcases e with q | q
      · rw [q]
        have : cl = 0 := by rw [hcl, if_neg (by rw [q]; decide)]
        rw [this] at hsend
        exact vM_act_15 ht ha hb hc (hA.trans ea) (hB.trans eb) (hCc.trans ec) hsend
      · rw [q]
        have : cl = 1 := by rw [hcl, if_pos q]
        rw [this] at hsend
        exact vM_act_16 ht ha hb hc (hA.trans ea) (hB.trans eb) (hCc.trans ec) hsend
    obtain ⟨d, hdN, hd⟩ := hS1.2.2.2.2.2.2.2.2.1.d
    have hrow := hS1.2.2.2.2.2.2.2.2.2.2 e0 he0
    have hline := hS1.2.2.2.2.2.2.2.1.2 e0 he0
    have hcl0 : cl = 0 ↔ ¬ w &&& 31 = 16 := by
      rw [hcl]
      by_cases z : w &&& 31 = 16
      · rw [if_pos z]; exact ⟨fun y => absurd y (by decide), fun y => absurd z y⟩
      · rw [if_neg z]; exact ⟨fun _ => z, fun _ => rfl⟩
    by_cases hw : ∃ r l, el e0 = r :: l ∧ m 2 r = 4
    · -- somebody waits
      obtain ⟨r, l, hl, hr4⟩ := hw
      rw [hl] at hrow hline
      have hr6 : r < 6 := ((hrow.1 r).mp List.mem_cons_self).1
      have hrt : r ≠ t := fun q => by rw [q, h2] at hr4; exact absurd hr4 (by decide)
      have hkr : k1 (3 + r) 1 = 4 := by rw [(hS1.2.2.2.1 r hr6).1, hm12]; exact hr4
      obtain ⟨k2, hS2, hk2, hrun⟩ := hS1.take he0 hl
      have k2T : ∀ v, v < 6 → k2 (3 + v) = k1 (3 + v) := fun v hv => hk2 _ (by omega) (by omega)
      have hT : ∀ v, pSaid k1 m1 v → v < 6 → pSaid k2 m1 v := fun v q hv => by unfold pSaid; rw [k2T v hv]; exact q
      have hsr : pSaid k1 m1 r := (hS1.2.2.2.1 r hr6).2.2.2.2.2.2.2.2.1 (by rw [hm12]; exact Or.inr (Or.inr hr4))
      obtain ⟨k3, m3, p1, p2, p3, p4, p0, p5, p6⟩ := xPass hS2 ht hr6 (by rw [hm12, hr4]; decide) (hT t hsd ht) (by unfold pSent; rw [k2T t ht]; exact hst) (hT r hsr hr6)
      have m32 : m3 2 = m 2 := by rw [p3 2 (by omega) (by omega) (by omega), hm12]
      have m30 : m3 0 = m 0 := by rw [p3 0 (by omega) (by omega) (by omega), m1n 0 (by omega)]
      have hd3 : m3 0 11 = nI d := by rw [p3 0 (by omega) (by omega) (by omega)]; exact hd
      have hlen := p1.2.2.2.2.2.2.2.2.2.1.room ht hr6 hrt (by rw [m32, hr4]; decide)
      have hE4 : pEp (gRdM m3 r d) (fun e => if e = e0 then l else el e) := p1.2.2.2.2.2.2.2.2.2.2.leave he0 hl (by rw [gRdM_2, pd_eq]; decide) (by rw [gRdM_2, pd_eq]; decide) (fun v hv => ⟨gRdM_at (by omega) hv, gRdM_at (by omega) hv, gRdM_at (by omega) hv⟩)
      have hS4 := p1.wake (by omega) ht hr6 hrt (by rw [m32]; exact Or.inr (Or.inr hr4)) hd3 hdN hE4
      have hL15 : pL k3 15 (t :: tl) := p1.2.2.2.2.2.2.2.1.1
      have m42t : gRdM m3 r d 2 t = 1 := by rw [gRdM_at (by omega) (fun q => hrt q.symm), m32]; exact h2
      have e17 : m3 7 = if w &&& 31 = 16 then upd (m 7) r (nI t) else m 7 := by
        rw [p4, k2T t ht, k17, m1n 7 (by omega)]; rfl
      have m4z : ∀ u, ¬ gRdM m3 r d 2 u = 0 → ¬ m 2 u = 0 := by
        intro u hu
        by_cases q : u = r
        · rw [q, hr4]; decide
        · rw [gRdM_at (by omega) q, m32] at hu; exact hu
      have m43 : ∀ x, m 2 x = 3 → gRdM m3 r d 2 x = 3 := by
        intro x hx
        have q : x ≠ r := fun q => by rw [q, hr4] at hx; exact absurd hx (by decide)
        rw [gRdM_at (by omega) q, m32]; exact hx
      have runK : ∀ Q : Int32 → mj_St → Prop, (((¬ w &&& 31 = 16) → Q 0 (gRdK k3 r (t :: tl).length)) ∧ ((w &&& 31 = 16) → Q 0 (mj_up (gRdK k3 r (t :: tl).length) (3 + t) 1 3))) → wK_perform (nI t) w k Q := by
        intro Q hQ
        refine hK1 Q (vK_wait he0 hline hr6 hkr (hrun _ ⟨fun _ => p5 _ (vK_makeReady hr6 hL15 hlen ⟨hQ.1, fun z => ?_⟩), fun z => absurd z (pn_m1 (by omega))⟩))
        rintro k20 rfl
        exact hQ.2 z
      have runM : ∀ Q : mj_St → Prop, ((cl = 0 → Q (gRdM m3 r d)) ∧ (¬ cl = 0 → Q (mj_up (gRdM m3 r d) 2 t 3))) → wM_act (nI t) (w &&& 31) m Q := by
        intro Q hQ
        refine hM1 Q (vM_first hrow (by rw [hm12]; exact hr4) ⟨fun _ => p6 _ (vM_makeReady hr6 hd3 ⟨fun z => ⟨hvt, ?_⟩, fun z => ⟨hvt, ?_⟩⟩), fun z => absurd (nI_pos' (by omega)) z⟩)
        · rintro k8 rfl
          have : mj_up (gRdM m3 r d) 2 t 1 = gRdM m3 r d := by
            have q := pu_same (gRdM m3 r d) 2 t
            rw [m42t] at q
            exact q
          rw [this]
          exact hQ.1 z
        · rintro k9 rfl
          exact hQ.2 z
      by_cases hcall : w &&& 31 = 16
      · -- CALL
        have hncl : ¬ cl = 0 := fun y => (hcl0.mp y) hcall
        obtain ⟨k5, hk5⟩ : ∃ k5, k5 = mj_up (gRdK k3 r (t :: tl).length) (3 + t) 1 3 := ⟨_, rfl⟩
        obtain ⟨m5, hm5⟩ : ∃ m5, m5 = mj_up (gRdM m3 r d) 2 t 3 := ⟨_, rfl⟩
        have m52 : ∀ v, v ≠ t → m5 2 v = gRdM m3 r d 2 v := fun v hv => by rw [hm5, pu_eq, pd_ne _ _ hv]
        have m52t : m5 2 t = 3 := by rw [hm5, pu_eq, pd_eq]
        have m5n : ∀ i, i ≠ 2 → m5 i = gRdM m3 r d i := fun i hi => by rw [hm5, pu_ne _ _ _ hi]
        have hS5 : pS k5 m5 t (tl ++ [r]) (fun e => if e = e0 then l else el e) (fun e => if e = e0 then l else el e) (N + 1) := by
          refine hS4.turn (u := t) ht (fun i hi => by rw [hk5, pu_ne _ _ _ hi]) (fun i i2 _ => m5n i i2) (fun v hv => ⟨m52 v hv, by rw [m5n 3 (by omega)]⟩) ?_ (by rw [m52t]; decide) (by rw [m52t]; decide) (hS4.2.2.2.2.2.2.2.2.2.1.own (by rw [m52t]; decide) (fun v hv => ⟨m52 v hv, by rw [m5n 9 (by omega)]⟩)) (hS4.2.2.2.2.2.2.2.2.2.2.other (u := t) (by rw [m42t]; decide) (by rw [m42t]; decide) (by rw [m52t]; decide) (by rw [m52t]; decide) (fun v hv => ⟨m52 v hv, by rw [m5n 9 (by omega)], by rw [m5n 10 (by omega)]⟩))
          obtain ⟨b1, b2, b3, b4, b5, b6, b7, b8, b9, b10⟩ := hS4.2.2.2.1 t ht
          have k5t : k5 (3 + t) = upd (gRdK k3 r (t :: tl).length (3 + t)) 1 3 := by rw [hk5, pu_eq]
          have kt7 : gRdK k3 r (t :: tl).length (3 + t) 7 = w := by rw [gRdK_ne (by omega) (by omega) (by omega), p2 t 7 ht (by omega), k2T t ht]; exact k17
          unfold pT1
          rw [m52t, k5t, m5n 3 (by omega), m5n 4 (by omega), m5n 5 (by omega), m5n 6 (by omega), m5n 7 (by omega), m5n 11 (by omega), m5n 12 (by omega), pd_eq, pd_ne _ _ (show (3 : Nat) ≠ 1 by omega), pd_ne _ _ (show (4 : Nat) ≠ 1 by omega), pd_ne _ _ (show (5 : Nat) ≠ 1 by omega), pd_ne _ _ (show (2 : Nat) ≠ 1 by omega), pd_ne _ _ (show (6 : Nat) ≠ 1 by omega), pd_ne _ _ (show (7 : Nat) ≠ 1 by omega)]
          refine ⟨rfl, b2, b3, b4, b5, fun q => absurd q (by decide), fun _ => b7 (by rw [m42t]; decide), fun _ => b8 (by rw [m42t]; decide), fun _ => ?_, fun q => absurd q (by decide)⟩
          rw [kt7, gRdM_ne (by omega) (by omega) (by omega), gRdM_ne (by omega) (by omega) (by omega), p3 11 (by omega) (by omega) (by omega), p3 12 (by omega) (by omega) (by omega), m111, m112]
          exact ⟨rfl, rfl⟩
        refine pI.done ht h28 n10 n11 n12 (fun Q hQ => runK Q ⟨fun z => absurd hcall z, fun _ => by rw [← hk5]; exact hQ⟩) (fun Q hQ => hF Q (fun _ => hQ) (fun z => absurd hok z)) (fun Q hQ => runM Q ⟨fun z => absurd z hncl, fun _ => by rw [← hm5]; exact hQ⟩) (hS5.le (by omega)) ?_ ?_ ?_ ?_
        · refine hC.call (r := r) (s := t) ht (by rw [h2]; decide) ?_ (fun u hu => ?_) (fun x hx => ?_) m52t
          · rw [m5n 7 (by omega), gRdM_ne (by omega) (by omega) (by omega), e17, if_pos hcall]
          · by_cases q : u = t
            · rw [q, h2]; decide
            · rw [m52 u q] at hu; exact m4z u hu
          · have q : x ≠ t := fun q => by rw [q, h2] at hx; exact absurd hx (by decide)
            rw [m52 x q]; exact m43 x hx
        · rw [m5n 4 (by omega), gRdM_ne (by omega) (by omega) (by omega), p3 4 (by omega) (by omega) (by omega), m1n 4 (by omega)]
        · rw [hk5, pu_ne _ _ _ (by omega), gRdK_ne (by omega) (by omega) (by omega), p0, hk2 _ (by omega) (by omega), k1n _ (by omega)]
        · intro j j1 j2
          rw [m5n 0 (by omega), gRdM_0, pd_ne _ _ j1, m30]
      · -- SEND
        have hcl' : cl = 0 := hcl0.mpr hcall
        refine pI.done ht h28 n10 n11 n12 (fun Q hQ => runK Q ⟨fun _ => hQ, fun z => absurd z hcall⟩) (fun Q hQ => hF Q (fun _ => hQ) (fun z => absurd hok z)) (fun Q hQ => runM Q ⟨fun _ => hQ, fun z => absurd hcl' z⟩) (hS4.le (by omega)) ?_ ?_ ?_ ?_
        · refine hC.mv ?_ m4z m43
          rw [gRdM_ne (by omega) (by omega) (by omega), e17, if_neg hcall]
        · rw [gRdM_ne (by omega) (by omega) (by omega), p3 4 (by omega) (by omega) (by omega), m1n 4 (by omega)]
        · rw [gRdK_ne (by omega) (by omega) (by omega), p0, hk2 _ (by omega) (by omega), k1n _ (by omega)]
        · intro j j1 j2
          rw [gRdM_0, pd_ne _ _ j1, m30]
    · -- nobody: t waits
      obtain ⟨hS2, h6⟩ := hS1.block (s := 2) (by omega) ht (by rw [hm12]; exact h2) he0 (Or.inl rfl) hd hdN hsd (fun _ => hst)
      have hfst : ∀ u r, el e0 = u :: r → u < 6 ∧ ¬ m 2 u = 4 := fun u r q => by
        rw [q] at hrow
        exact ⟨((hrow.1 u).mp List.mem_cons_self).1, fun z => hw ⟨u, r, q, z⟩⟩
      have hb2 : gBlM m1 t 2 e0 d 2 = upd (m 2) t 2 := by
        unfold gBlM
        rw [pu_ne _ _ _ (by omega), pu_ne _ _ _ (by omega), pu_ne _ _ _ (by omega), pu_eq, hm12]
      have hbn : ∀ i, i ≠ 0 → i ≠ 2 → i ≠ 9 → i ≠ 10 → gBlM m1 t 2 e0 d i = m1 i := fun i i0 i2 i9 i10 => by
        unfold gBlM
        rw [pu_ne _ _ _ i0, pu_ne _ _ _ i9, pu_ne _ _ _ i10, pu_ne _ _ _ i2]
      refine pI.done ht h28 n10 n11 n12 (fun Q hQ => hK1 Q (vK_wait0 he0 hline (fun u r q => ?_) ⟨fun z => absurd rfl z, fun _ => ?_⟩)) (fun Q hQ => hF Q (fun _ => hQ) (fun z => absurd hok z)) (fun Q hQ => hM1 Q (vM_first0 hrow (fun u r q => by rw [hm12]; exact (hfst u r q).2) ⟨fun z => absurd z (by decide), fun _ => vM_queue ht hd hQ⟩)) (hS2.le (by omega)) ?_ ?_ ?_ ?_
      · obtain ⟨q1, q2⟩ := hfst u r q
        exact ⟨q1, by rw [(hS1.2.2.2.1 u q1).1, hm12]; exact q2⟩
      · rintro k21 rfl
        exact vN_append (l := el e0) ⟨by omega, by omega⟩ (hline.of (by rw [pu_ne _ _ _ (by omega)]) (by rw [pu_ne _ _ _ (by omega)])) h6 hQ
      · refine hC.mv ?_ (fun u hu => ?_) (fun x hx => ?_)
        · rw [hbn 7 (by omega) (by omega) (by omega) (by omega), m1n 7 (by omega)]
        · by_cases q : u = t
          · rw [q, h2]; decide
          · rw [hb2, pd_ne _ _ q] at hu; exact hu
        · have q : x ≠ t := fun q => by rw [q, h2] at hx; exact absurd hx (by decide)
          rw [hb2, pd_ne _ _ q]; exact hx
      · rw [hbn 4 (by omega) (by omega) (by omega) (by omega), m1n 4 (by omega)]
      · unfold gBlK
        rw [pu_ne _ _ _ (by omega), pu_ne _ _ _ (by omega), pu_ne _ _ _ (by omega), k1n _ (by omega)]
      · intro j j1 j2
        unfold gBlM
        rw [pu_eq, pd_ne _ _ j1, pu_ne _ _ _ (by omega), pu_ne _ _ _ (by omega), pu_ne _ _ _ (by omega), m1n 0 (by omega)]
  · refine pI.fault (f := 4) (Or.inr (Or.inr (Or.inl rfl))) (fun Q hQ => hK0 Q (vG_allows hp (fun z1 z2 => absurd ?_ hok) (fun _ => ⟨fun y => absurd rfl y, fun _ => hQ⟩))) (fun Q hQ => hF Q (fun z => absurd z hok) (fun _ => hQ))
    have h16 : ¬ m 16 (8 * t + a) = 0 := by rw [← c1, z1]; decide
    obtain ⟨d1, d2, d3, d4, d5⟩ := c3 h16
    rw [c1] at z1
    rw [d2] at z2
    exact ⟨z1, z2⟩

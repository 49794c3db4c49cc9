/-! what changes something: poke, put, give, reap, spawn -/
section Act
variable {k m k' m' : mj_St} {l : List Nat} {el : Nat → List Nat} {N : Nat}
/-- all that these calls leave as it is -/
theorem pA.of (h : pA k m l el N) (hk0 : k' 0 = k 0) (hkl : ∀ i, 15 ≤ i → i < 25 → k' i = k i) (hk32 : k' 32 = k 32) (hk33 : k' 33 = k 33) (hm0 : m' 0 = m 0) (hm2 : m' 2 = m 2) (hm7 : m' 7 = m 7) (hm9 : m' 9 = m 9) (hm10 : m' 10 = m 10) (hm20 : m' 20 = m 20) (hMe : pMe k' m') (hRg : pRg k' m') (hT : pTh k' m') (hCp : pCp k' m') (hFr : pFr m') : pA k' m' l el N := by
  obtain ⟨a1, a2, a3, a4, a5, a6, a7, a8, a9, a10, a11, a12, a13⟩ := h
  refine ⟨?_, hMe, hRg, hT, hCp, hFr, a7.of hk32 hk33 (by rw [hm0]) hm20, a8.of hkl, a9.of (by rw [hm0]) hm2 hm9, a10.of hm2 hm9 hm10, a11.of hm2 hm9 hm10, a12.of hm2 hm7, ?_⟩
  · unfold pQn; rw [hk0, hm0]; exact a1
  · rw [hk0, hm0]; exact a13
theorem yPoke (x v : Int32) (h : pA k m l el N) : pFace k m l el N (fun Q => wK_poke x v k Q) (fun Q => wM_poke x v m Q) := by
  by_cases hx : ∃ j, j < 128 ∧ x = nI j
  · obtain ⟨j, hj, rfl⟩ := hx
    have hk : ∀ i, i ≠ 1 → mj_up k 1 j v i = k i := fun i hi => pu_ne _ _ _ hi
    have hm : ∀ i, i ≠ 1 → mj_up m 1 j v i = m i := fun i hi => pu_ne _ _ _ hi
    refine ⟨1, mj_up k 1 j v, mj_up m 1 j v, l, el, (h.of (hk _ (by omega)) (fun i _ _ => hk _ (by omega)) (hk _ (by omega)) (hk _ (by omega)) (hm _ (by omega)) (hm _ (by omega)) (hm _ (by omega)) (hm _ (by omega)) (hm _ (by omega)) (hm _ (by omega)) ?_ ?_ ?_ ?_ ?_).le (by omega), fun Q hQ => vK_in1 (n := 128) rfl hj (by decide) ⟨fun _ => ⟨vp_in_nI hj (by decide), ?_⟩, fun z => absurd z (by decide)⟩, fun Q hQ => ⟨fun z => absurd z (nI_pos (by omega)), fun _ => ⟨fun _ => ⟨vp_in_nI hj (by decide), ?_⟩, fun z => absurd (nI_le (b := 127) (by omega) (by decide)) z⟩⟩⟩
    · intro a ha
      rw [pu_eq, pu_eq]
      by_cases e : a = j
      · rw [e, pd_eq, pd_eq]
      · rw [pd_ne _ _ e, pd_ne _ _ e]; exact h.2.1 a ha
    · intro u r hu hr
      rw [hk _ (by omega), hm _ (by omega)]
      exact h.2.2.1 u r hu hr
    · exact h.2.2.2.1.of (fun u hu => hk _ (by omega)) (fun i h1 _ _ _ _ => hm _ (by omega))
    · exact h.2.2.2.2.1.of (hk _ (by omega)) (hk _ (by omega)) (hk _ (by omega)) (hk _ (by omega)) (hm _ (by omega)) (hm _ (by omega)) (hm _ (by omega)) (hm _ (by omega))
    · exact h.2.2.2.2.2.1.of (hm _ (by omega)) (hm _ (by omega))
    · rw [nI_clamp (by omega)]; rintro k3 rfl; exact hQ
    · rw [nI_clamp (by omega)]; rintro k3 rfl; exact hQ
  · refine ⟨0, k, m, l, el, h.le (by omega), fun Q hQ => vK_in0 (n := 128) rfl (by decide) (by decide) (fun j j1 j2 => hx ⟨j, j1, j2⟩) ⟨fun z => absurd rfl z, fun _ => hQ⟩, fun Q hQ => ⟨fun _ => hQ, fun z => ⟨fun z2 => ?_, fun _ => hQ⟩⟩⟩
    exfalso
    rcases pn_rng x 128 (by omega) with q | q | q
    · exact z q
    · rw [Int32.le_iff_toInt_le] at q z2
      have e1 : (nI 128).toInt = 128 := by decide
      have e2 : (127 : Int32).toInt = 127 := by decide
      omega
    · exact hx q
theorem yPut (x y v : Int32) (h : pA k m l el N) : pFace k m l el N (fun Q => wK_put x y v k Q) (fun Q => wM_put x y v m Q) := by
  rcases h.there x with ⟨t, ht, rfl, h2, h1⟩ | ⟨g2, g1⟩
  · by_cases hy : ∃ s, s < 8 ∧ y = nI s
    · obtain ⟨s, hs, rfl⟩ := hy
      have hk : ∀ i, i ≠ 3 + t + 6 → mj_up k (3 + t + 6) s v i = k i := fun i hi => pu_ne _ _ _ hi
      have hm : ∀ i, i ≠ 8 → mj_up m 8 (8 * t + s) v i = m i := fun i hi => pu_ne _ _ _ hi
      refine ⟨1, mj_up k (3 + t + 6) s v, mj_up m 8 (8 * t + s) v, l, el, (h.of (hk _ (by omega)) (fun i _ _ => hk _ (by omega)) (hk _ (by omega)) (hk _ (by omega)) (hm _ (by omega)) (hm _ (by omega)) (hm _ (by omega)) (hm _ (by omega)) (hm _ (by omega)) (hm _ (by omega)) ?_ ?_ ?_ ?_ ?_).le (by omega), fun Q hQ => vK_used1 ht h1 ⟨fun z => absurd z (by simp), fun o e => ?_⟩, fun Q hQ => vM_there1 ht h2 ⟨fun z => absurd z (by decide), fun _ => vM_eight1 hs ⟨fun _ => ?_, fun z => absurd z (by decide)⟩⟩⟩
      · intro a ha
        rw [hk _ (by omega), hm _ (by omega)]
        exact h.2.1 a ha
      · intro u r hu hr
        by_cases e : u = t
        · subst e
          rw [pu_eq, pu_eq]
          by_cases e2 : r = s
          · subst e2; rw [pd_eq, pd_eq]
          · rw [pd_ne _ _ e2, pd_ne _ _ (by omega)]
            exact h.2.2.1 u r hu hr
        · rw [pu_ne _ _ _ (by omega), pu_eq, pd_ne _ _ (by omega)]
          exact h.2.2.1 u r hu hr
      · exact h.2.2.2.1.of (fun u hu => hk _ (by omega)) (fun i _ _ h8 _ _ => hm _ h8)
      · exact h.2.2.2.2.1.of (hk _ (by omega)) (hk _ (by omega)) (hk _ (by omega)) (hk _ (by omega)) (hm _ (by omega)) (hm _ (by omega)) (hm _ (by omega)) (hm _ (by omega))
      · exact h.2.2.2.2.2.1.of (hm _ (by omega)) (hm _ (by omega))
      · cases e
        refine ⟨⟨by omega, by omega⟩, vK_in1 (n := 8) rfl hs (by decide) ⟨fun _ => ⟨vp_in_nI hs (by decide), ?_⟩, fun z => absurd z (by decide)⟩⟩
        rw [nI_clamp (by omega)]; rintro k6 rfl; exact hQ
      · rw [pn_slot, nI_clamp (by omega)]
        refine ⟨vp_in_nI (by omega) (by decide), ?_⟩
        rintro k5 rfl; exact hQ
    · refine ⟨0, k, m, l, el, h.le (by omega), fun Q hQ => vK_used1 ht h1 ⟨fun z => absurd z (by simp), fun o e => ?_⟩, fun Q hQ => vM_there1 ht h2 ⟨fun z => absurd z (by decide), fun _ => vM_eight0 (fun j j1 j2 => hy ⟨j, j1, j2⟩) ⟨fun z => absurd rfl z, fun _ => hQ⟩⟩⟩
      cases e
      exact ⟨⟨by omega, by omega⟩, vK_in0 (n := 8) rfl (by decide) (by decide) (fun j j1 j2 => hy ⟨j, j1, j2⟩) ⟨fun z => absurd rfl z, fun _ => hQ⟩⟩
  · exact ⟨0, k, m, l, el, h.le (by omega), fun Q hQ => vK_used0 g1 ⟨fun _ => hQ, fun o e => by cases e⟩, fun Q hQ => vM_there0 g2 ⟨fun _ => hQ, fun z => absurd rfl z⟩⟩
/-- what may be given: an endpoint or the console -/
theorem vK_obj1 {a b : Int32} {R : Int32 → Prop} (h : (a = 1 ∧ ∃ e, e < 4 ∧ b = nI e) ∨ (a = 2 ∧ b = 0)) (hR : R 1) : wK_isObjectOfKind a b R := by
  rcases h with ⟨rfl, e, he, rfl⟩ | ⟨rfl, rfl⟩
  · exact ⟨fun z => absurd rfl z, fun _ => vK_in1 (n := 4) rfl he (by decide) ⟨Or.inr rfl, hR⟩⟩
  · exact ⟨fun _ => ⟨fun z => absurd rfl z, fun _ => ⟨fun z => absurd rfl z, fun _ => hR⟩⟩, fun z => absurd z (by decide)⟩
theorem vK_obj0 {a b : Int32} {R : Int32 → Prop} (h : ¬ ((a = 1 ∧ ∃ e, e < 4 ∧ b = nI e) ∨ (a = 2 ∧ b = 0))) (hR : R 0) : wK_isObjectOfKind a b R := by
  refine ⟨fun _ => ⟨fun _ => hR, fun q => ⟨fun _ => hR, fun q2 => absurd (Or.inr ⟨q, q2⟩) h⟩⟩, fun q => vK_in0 (n := 4) rfl (by decide) (by decide) (fun j j1 j2 => h (Or.inl ⟨q, j, j1, j2⟩)) ⟨Or.inl rfl, hR⟩⟩
/-- the reference's question about kind and object -/
theorem vM_obj {a b : Int32} {A : Prop} {B : Prop} (h1 : ((a = 1 ∧ ∃ e, e < 4 ∧ b = nI e) ∨ (a = 2 ∧ b = 0)) → B) (h0 : ¬ ((a = 1 ∧ ∃ e, e < 4 ∧ b = nI e) ∨ (a = 2 ∧ b = 0)) → A) : ((a < 1) → A) ∧ ((¬ a < 1) → ((2 < a) → A) ∧ ((¬ 2 < a) → ((b < 0) → A) ∧ ((¬ b < 0) → ((3 < b) → A) ∧ ((¬ 3 < b) → ((¬ a = 2) → B) ∧ ((a = 2) → ((¬ b = 0) → A) ∧ ((b = 0) → B)))))) := by
  have hA : (a < 1 ∨ 2 < a) → A := fun q => h0 (by
    rintro (⟨rfl, -⟩ | ⟨rfl, -⟩) <;> rcases q with q | q <;> exact absurd q (by decide))
  have hb : (b < 0 ∨ 3 < b) → A := fun q => h0 (by
    rintro (⟨-, e, he, rfl⟩ | ⟨-, rfl⟩)
    · rcases q with q | q
      · exact nI_pos (by omega) q
      · exact nI_nlt (a := 3) (by omega) (by decide) q
    · rcases q with q | q <;> exact absurd q (by decide))
  refine ⟨fun q => hA (Or.inl q), fun q1 => ⟨fun q => hA (Or.inr q), fun q2 => ⟨fun q => hb (Or.inl q), fun q3 => ⟨fun q => hb (Or.inr q), fun q4 => ⟨fun q5 => h1 (Or.inl ⟨?_, ?_⟩), fun q5 => ⟨fun q6 => h0 ?_, fun q6 => h1 (Or.inr ⟨q5, q6⟩)⟩⟩⟩⟩⟩⟩
  · rw [Int32.lt_iff_toInt_lt] at q1 q2
    have e1 : (1 : Int32).toInt = 1 := by decide
    have e2 : (2 : Int32).toInt = 2 := by decide
    have e3 : ¬ a.toInt = 2 := fun w => q5 (Int32.toInt_inj.mp (by rw [w, e2]))
    exact Int32.toInt_inj.mp (by omega)
  · exact pn_btw (n := 4) (hi := 3) rfl (by decide) (by decide) q3 q4
  · rintro (⟨rfl, -⟩ | ⟨-, q⟩)
    · exact absurd q5 (by decide)
    · exact q6 q
theorem pn_andn7 {c : Nat} (h : c < 8) : nI c &&& 7 = nI c := by
  have e : nI c &&& 7 = nI (c % 2 ^ 3) := pk_andN (by omega) 3 (by decide)
  rw [e, Nat.mod_eq_of_lt h]
theorem yGive (x y a b c : Int32) (h : pA k m l el N) : pFace k m l el N (fun Q => wK_give x y a b c k Q) (fun Q => wM_give x y a b c m Q) := by
  have no : ((∀ Q : Int32 → mj_St → Prop, Q 0 k → wK_give x y a b c k Q) ∧ (∀ Q : Int32 → mj_St → Prop, Q 0 m → wM_give x y a b c m Q)) → pFace k m l el N (fun Q => wK_give x y a b c k Q) (fun Q => wM_give x y a b c m Q) := fun g => ⟨0, k, m, l, el, h.le (by omega), g.1, g.2⟩
  by_cases hy : ∃ s, s < 8 ∧ y = nI s
  · obtain ⟨s, hs, rfl⟩ := hy
    rcases h.there x with ⟨t, ht, rfl, h2, h1⟩ | ⟨g2, g1⟩
    · have hp : 8 * t + s < 48 := by omega
      obtain ⟨c1, c2, c3⟩ := h.2.2.2.2.1.1 (8 * t + s) hp
      -- up to the slot
      have upK : ∀ Q : Int32 → mj_St → Prop, wG_holds (nI (8 * t + s)) k (fun a6 => (((a6 = 0) → wK_isObjectOfKind a b (fun a8 => (((a8 = 0) → Q 0 k) ∧ ((¬ a8 = 0) → wK_isBetween c 0 7 (fun a10 => (((¬ a10 = 0) → wG_fill (nI (8 * t + s)) a b c (-1) k (fun k12 => (Q 1 k12))) ∧ ((a10 = 0) → Q 0 k))))))) ∧ ((¬ a6 = 0) → Q 0 k))) → wK_give (nI t) (nI s) a b c k Q := fun Q hQ =>
        vK_place1 ht hs ⟨fun q => absurd q (pn_m1 (by omega)), fun _ => vK_used1 ht h1 ⟨fun z => absurd z (by simp), fun o e => by cases e; exact ⟨⟨by omega, by omega⟩, hQ⟩⟩⟩
      have upM : ∀ Q : Int32 → mj_St → Prop, (((¬ (m 16 (8 * t + s)) = 0) → Q 0 m) ∧ (((m 16 (8 * t + s)) = 0) → ((a < 1) → Q 0 m) ∧ ((¬ a < 1) → ((2 < a) → Q 0 m) ∧ ((¬ 2 < a) → ((b < 0) → Q 0 m) ∧ ((¬ b < 0) → ((3 < b) → Q 0 m) ∧ ((¬ 3 < b) → ((¬ a = 2) → wM_give_60 (nI t) (nI s) a b c m Q) ∧ ((a = 2) → ((¬ b = 0) → Q 0 m) ∧ ((b = 0) → wM_give_60 (nI t) (nI s) a b c m Q)))))))) → wM_give (nI t) (nI s) a b c m Q := fun Q hQ =>
        vM_there1 ht h2 ⟨fun z => absurd z (by decide), fun _ => vM_eight1 hs ⟨fun z => absurd z (by decide), fun _ => by
          rw [pn_slot, nI_clamp (by omega)]
          exact ⟨vp_in_nI hp (by decide), hQ⟩⟩⟩
      by_cases hz : m 16 (8 * t + s) = 0
      · by_cases ho : (a = 1 ∧ ∃ e, e < 4 ∧ b = nI e) ∨ (a = 2 ∧ b = 0)
        · by_cases hc : ∃ j, j < 8 ∧ c = nI j
          · obtain ⟨j, hj, rfl⟩ := hc
            refine ⟨1, gFill k (8 * t + s) a b (nI j) (-1), gPlace m (8 * t + s) a b (nI j) (-1), l, el, (h.of (gFill_ne (by omega)) (fun i _ _ => gFill_ne (by omega)) (gFill_ne (by omega)) (gFill_ne (by omega)) (gPlace_ne (by omega)) (gPlace_ne (by omega)) (gPlace_ne (by omega)) (gPlace_ne (by omega)) (gPlace_ne (by omega)) (gPlace_ne (by omega)) ?_ ?_ ?_ ?_ ?_).le (by omega), fun Q hQ => upK Q (vG_holds hp (fun z => absurd (by rw [c1]; exact hz) z) (fun _ => ⟨fun _ => vK_obj1 ho ⟨fun z => absurd z (by decide), fun _ => vK_in1 (n := 8) rfl hj (by decide) ⟨fun _ => vG_fill hp hQ, fun z => absurd z (by decide)⟩⟩, fun z => absurd rfl z⟩)), fun Q hQ => upM Q ⟨fun z => absurd hz z, fun _ => vM_obj (fun _ => ?_) (fun z => absurd ho z)⟩⟩
            · intro i hi
              rw [gFill_ne (by omega), gPlace_ne (by omega)]
              exact h.2.1 i hi
            · intro u r hu hr
              rw [gFill_ne (by omega), gPlace_ne (by omega)]
              exact h.2.2.1 u r hu hr
            · exact h.2.2.2.1.of (fun u hu => gFill_ne (by omega)) (fun i _ _ _ _ _ => gPlace_ne (by omega))
            · refine h.2.2.2.2.1.put hp (by rcases ho with ⟨q, -⟩ | ⟨q, -⟩ <;> simp [q]) (fun q => ?_) (pn_andn7 hj) ?_
              · rcases ho with ⟨-, q2⟩ | ⟨q2, -⟩
                · exact q2
                · rw [q2] at q; exact absurd q (by decide)
              · obtain ⟨rk, hF, -⟩ := h.2.2.2.2.1.2
                refine ⟨rk, fun p hp' hk => ?_⟩
                by_cases e : p = 8 * t + s
                · left; rw [e, pd_eq]
                · rw [pd_ne _ _ e] at hk ⊢
                  rcases hF p hp' hk with q | ⟨q, q1, q2, q3, q4⟩
                  · exact Or.inl q
                  · refine Or.inr ⟨q, q1, q2, ?_, q4⟩
                    rw [pd_ne _ _ (fun w => by rw [w] at q3; exact q3 hz)]
                    exact q3
            · exact h.2.2.2.2.2.1.put ht hs h2
            · refine vM_eight1 hj ⟨fun _ => ?_, fun z => absurd z (by decide)⟩
              rw [pn_slot, nI_clamp (by omega)]
              refine ⟨vp_in_nI hp (by decide), ?_⟩
              rintro k13 rfl
              refine ⟨vp_in_nI hp (by decide), ?_⟩
              rintro k14 rfl
              refine ⟨vp_in_nI hp (by decide), ?_⟩
              rintro k15 rfl
              refine ⟨vp_in_nI hp (by decide), ?_⟩
              rintro k16 rfl
              exact hQ
          · exact no ⟨fun Q hQ => upK Q (vG_holds hp (fun z => absurd (by rw [c1]; exact hz) z) (fun _ => ⟨fun _ => vK_obj1 ho ⟨fun z => absurd z (by decide), fun _ => vK_in0 (n := 8) rfl (by decide) (by decide) (fun j j1 j2 => hc ⟨j, j1, j2⟩) ⟨fun z => absurd rfl z, fun _ => hQ⟩⟩, fun z => absurd rfl z⟩)), fun Q hQ => upM Q ⟨fun z => absurd hz z, fun _ => vM_obj (fun _ => vM_eight0 (fun j j1 j2 => hc ⟨j, j1, j2⟩) ⟨fun z => absurd rfl z, fun _ => hQ⟩) (fun z => absurd ho z)⟩⟩
        · exact no ⟨fun Q hQ => upK Q (vG_holds hp (fun z => absurd (by rw [c1]; exact hz) z) (fun _ => ⟨fun _ => vK_obj0 ho ⟨fun _ => hQ, fun z => absurd rfl z⟩, fun z => absurd rfl z⟩)), fun Q hQ => upM Q ⟨fun z => absurd hz z, fun _ => vM_obj (fun z => absurd z ho) (fun _ => hQ)⟩⟩
      · exact no ⟨fun Q hQ => upK Q (vG_holds hp (fun _ => ⟨fun z => absurd z (by decide), fun _ => hQ⟩) (fun z => absurd (by rw [← c1]; exact z) hz)), fun Q hQ => upM Q ⟨fun _ => hQ, fun z => absurd z hz⟩⟩
    · refine no ⟨fun Q hQ => ?_, fun Q hQ => vM_there0 g2 ⟨fun _ => hQ, fun z => absurd rfl z⟩⟩
      by_cases hx : ∃ t, t < 6 ∧ x = nI t
      · obtain ⟨t, ht, rfl⟩ := hx
        exact vK_place1 ht hs ⟨fun q => absurd q (pn_m1 (by omega)), fun _ => vK_used0 g1 ⟨fun _ => hQ, fun o e => by cases e⟩⟩
      · exact vK_place0 (fun t s ht hs e1 e2 => hx ⟨t, ht, e1⟩) ⟨fun _ => hQ, fun z => absurd rfl z⟩
  · refine no ⟨fun Q hQ => vK_place0 (fun t s ht hs e1 e2 => hy ⟨s, hs, e2⟩) ⟨fun _ => hQ, fun z => absurd rfl z⟩, fun Q hQ => ?_⟩
    rcases h.there x with ⟨t, ht, rfl, h2, h1⟩ | ⟨g2, g1⟩
    · exact vM_there1 ht h2 ⟨fun z => absurd z (by decide), fun _ => vM_eight0 (fun j j1 j2 => hy ⟨j, j1, j2⟩) ⟨fun _ => hQ, fun z => absurd rfl z⟩⟩
    · exact vM_there0 g2 ⟨fun _ => hQ, fun z => absurd rfl z⟩
/-! reap -/
theorem xReap {t : Nat} (ht : t < 6) : ∀ (d i : Nat) (k m : mj_St), i + d = 8 → pCp k m → (∀ s, s < i → m 16 (8 * t + s) = 0) →
    ∃ k' m', (∀ a, a < 27 ∨ 30 < a → k' a = k a) ∧ (∀ a, a ≠ 16 → a ≠ 19 → m' a = m a) ∧ pCp k' m' ∧ (∀ s, s < 8 → m' 16 (8 * t + s) = 0) ∧ (∀ p, m 16 p = 0 → m' 16 p = 0) ∧ (∀ Q : Int32 → mj_St → Prop, Q 1 k' → wK_reap_35 (d + 1) (nI t) (nI i) k Q) ∧ (∀ Q : Int32 → mj_St → Prop, Q 1 (mj_up (mj_up m' 2 t 0) 7 t (-1)) → wM_reap_32 (d + 1) (nI t) (nI i) m Q) := by
  intro d
  induction d with
  | zero =>
    intro i k m hi hC h0
    obtain rfl : i = 8 := by omega
    refine ⟨k, m, fun _ _ => rfl, fun _ _ _ => rfl, hC, h0, fun _ h => h, fun Q hQ => ?_, fun Q hQ => ?_⟩
    · rw [wK_reap_35]
      exact ⟨fun _ => hQ, fun z => absurd (show (8 : Int32) ≤ nI 8 by decide) z⟩
    · rw [wM_reap_32]
      refine ⟨fun _ => ⟨vp_in_nI ht (by decide), ?_⟩, fun z => absurd (show (8 : Int32) ≤ nI 8 by decide) z⟩
      rw [nI_clamp (by omega)]
      rintro k5 rfl
      refine ⟨vp_in_nI ht (by decide), ?_⟩
      rintro k6 rfl
      exact hQ
  | succ d ih =>
    intro i k m hi hC h0
    have hn8 : ¬ (8 : Int32) ≤ nI i := nI_ge (b := 8) (by omega) (by decide)
    have hp : 8 * t + i < 48 := by omega
    by_cases hz : m 16 (8 * t + i) = 0
    · obtain ⟨k', m', g1, g2, g3, g4, g5, g6, g7⟩ := ih (i + 1) k m (by omega) hC (fun s hs => by
        by_cases e : s = i
        · rw [e]; exact hz
        · exact h0 s (by omega))
      refine ⟨k', m', g1, g2, g3, g4, g5, fun Q hQ => ?_, fun Q hQ => ?_⟩
      · rw [wK_reap_35]
        refine ⟨fun z => absurd z hn8, fun _ => ?_⟩
        unfold wK_slotPlace
        rw [pn_slot]
        refine vG_removeAt0 hp (by rw [(hC.1 _ hp).1]; exact hz) ?_
        rintro a10 rfl
        rw [nI_1]
        exact g6 Q hQ
      · rw [wM_reap_32]
        refine ⟨fun z => absurd z hn8, fun _ => ?_⟩
        rw [pn_slot, nI_clamp (by omega)]
        refine ⟨vp_in_nI hp (by decide), fun _ => ?_, fun z => absurd hz z⟩
        rintro a8 rfl
        rw [nI_1]
        exact g7 Q hQ
    · obtain ⟨k1, m1, r1, r2, r3, r4, r5, r6⟩ := xRemove hC hp hz
      obtain ⟨k', m', g1, g2, g3, g4, g5, g6, g7⟩ := ih (i + 1) k1 m1 (by omega) r4 (fun s hs => by
        rw [r3]
        by_cases e : s = i
        · rw [e, pd_eq]
        · rw [pd_ne _ _ (by omega)]
          exact h0 s (by omega))
      refine ⟨k', m', fun a ha => by rw [g1 a ha, r1 a ha], fun a b1 b2 => by rw [g2 a b1 b2, r2 a b1 b2], g3, g4, fun p hp0 => g5 p ?_, fun Q hQ => ?_, fun Q hQ => ?_⟩
      · rw [r3]
        by_cases e : p = 8 * t + i
        · rw [e, pd_eq]
        · rw [pd_ne _ _ e]; exact hp0
      · rw [wK_reap_35]
        refine ⟨fun z => absurd z hn8, fun _ => ?_⟩
        unfold wK_slotPlace
        rw [pn_slot]
        refine r5 _ ?_
        rintro a10 rfl
        rw [nI_1]
        exact g6 Q hQ
      · rw [wM_reap_32]
        refine ⟨fun z => absurd z hn8, fun _ => ?_⟩
        rw [pn_slot, nI_clamp (by omega)]
        refine ⟨vp_in_nI hp (by decide), fun z => absurd z hz, fun _ => r6 _ ?_⟩
        rintro a8 rfl
        rw [nI_1]
        exact g7 Q hQ
theorem yReap (x : Int32) (h : pA k m l el N) : pFace k m l el N (fun Q => wK_reap x k Q) (fun Q => wM_reap x m Q) := by
  by_cases hx : ∃ t, t < 6 ∧ x = nI t ∧ (m 2 t = 5 ∨ m 2 t = 6)
  · obtain ⟨t, ht, rfl, hs⟩ := hx
    obtain ⟨a1, a2, a3, a4, a5, a6, a7, a8, a9, a10, a11, a12, a13⟩ := id h
    obtain ⟨b1, b2, b3, b4, b5, b6, b7, b8, b9, b10⟩ := a4 t ht
    have h0 : ¬ m 2 t = 0 := by rcases hs with q | q <;> rw [q] <;> decide
    have h1 : ¬ m 2 t = 1 := by rcases hs with q | q <;> rw [q] <;> decide
    have h2 : ¬ m 2 t = 2 := by rcases hs with q | q <;> rw [q] <;> decide
    have h3 : ¬ m 2 t = 3 := by rcases hs with q | q <;> rw [q] <;> decide
    have h4 : ¬ m 2 t = 4 := by rcases hs with q | q <;> rw [q] <;> decide
    have hct : (nI t).toNatClampNeg = t := nI_clamp (by omega)
    have hvt : vp_in (nI t) 6 := vp_in_nI ht (by decide)
    have hk2 : ∀ i, i ≠ 3 + t → mj_up (mj_up k (3 + t) 1 0) (3 + t) 2 0 i = k i := fun i hi => by rw [pu_ne _ _ _ hi, pu_ne _ _ _ hi]
    obtain ⟨k', m', g1, g2, g3, g4, g5, g6, g7⟩ := xReap ht 8 0 (mj_up (mj_up k (3 + t) 1 0) (3 + t) 2 0) m rfl (a5.of (hk2 _ (by omega)) (hk2 _ (by omega)) (hk2 _ (by omega)) (hk2 _ (by omega)) rfl rfl rfl rfl) (fun s hs => absurd hs (by omega))
    have hk : ∀ i, i ≠ 3 + t → (i < 27 ∨ 30 < i) → k' i = k i := fun i i1 i2 => by rw [g1 i i2, hk2 i i1]
    have hm : ∀ i, i ≠ 2 → i ≠ 7 → i ≠ 16 → i ≠ 19 → mj_up (mj_up m' 2 t 0) 7 t (-1) i = m i := fun i i1 i2 i3 i4 => by rw [pu_ne _ _ _ i2, pu_ne _ _ _ i1, g2 i i3 i4]
    have m2 : mj_up (mj_up m' 2 t 0) 7 t (-1) 2 = upd (m 2) t 0 := by rw [pu_ne _ _ _ (by omega), pu_eq, g2 2 (by omega) (by omega)]
    have m7 : mj_up (mj_up m' 2 t 0) 7 t (-1) 7 = upd (m 7) t (-1) := by rw [pu_eq, pu_ne _ _ _ (by omega), g2 7 (by omega) (by omega)]
    have m16 : mj_up (mj_up m' 2 t 0) 7 t (-1) 16 = m' 16 := by rw [pu_ne _ _ _ (by omega), pu_ne _ _ _ (by omega)]
    have m19 : mj_up (mj_up m' 2 t 0) 7 t (-1) 19 = m' 19 := by rw [pu_ne _ _ _ (by omega), pu_ne _ _ _ (by omega)]
    generalize em : mj_up (mj_up m' 2 t 0) 7 t (-1) = mx at g7 hm m2 m7 m16 m19
    have hoth : ∀ v, v ≠ t → mx 2 v = m 2 v ∧ mx 9 v = m 9 v ∧ mx 10 v = m 10 v := fun v hv => ⟨by rw [m2, pd_ne _ _ hv], by rw [hm 9 (by omega) (by omega) (by omega) (by omega)], by rw [hm 10 (by omega) (by omega) (by omega) (by omega)]⟩
    have mt : mx 2 t = 0 := by rw [m2, pd_eq]
    refine ⟨1, k', mx, l, el, ?_, fun Q hQ => vK_used1 ht (by rw [b1]; exact h0) ⟨fun z => absurd z (by simp), fun o e => ?_⟩, fun Q hQ => vM_thread1 ht ⟨fun z => absurd z (by decide), fun _ => ⟨hvt, ?_⟩⟩⟩
    · refine pA.le (N := N) ⟨?_, ?_, ?_, ?_, ?_, ?_, a7.of (hk _ (by omega) (by omega)) (hk _ (by omega) (by omega)) (by rw [hm 0 (by omega) (by omega) (by omega) (by omega)]) (hm 20 (by omega) (by omega) (by omega) (by omega)), a8.of (fun i i1 i2 => hk i (by omega) (by omega)), ?_, ?_, ?_, ?_, ?_⟩ (by omega)
      · unfold pQn
        rw [hk 0 (by omega) (by omega), hm 0 (by omega) (by omega) (by omega) (by omega)]
        exact a1
      · unfold pMe
        rw [hk 1 (by omega) (by omega), hm 1 (by omega) (by omega) (by omega) (by omega)]
        exact a2
      · intro u r hu hr
        rw [hk _ (by omega) (by omega), hm 8 (by omega) (by omega) (by omega) (by omega)]
        exact a3 u r hu hr
      · refine a4.one (u := t) (fun v hv e => hk _ (by omega) (by omega)) (fun i v i1 i2 _ _ _ e => ?_) (fun _ => ?_)
        · by_cases e2 : i = 2
          · subst e2; exact (hoth v e).1
          · by_cases e7 : i = 7
            · subst e7; rw [m7, pd_ne _ _ e]
            · rw [hm i e2 e7 (by omega) (by omega)]
        · unfold pT1
          rw [mt, g1 (3 + t) (by omega), pu_eq, pu_eq, pd_ne _ _ (show (1 : Nat) ≠ 2 by omega), pd_eq, pd_ne _ _ (show (3 : Nat) ≠ 2 by omega), pd_ne _ _ (show (3 : Nat) ≠ 1 by omega), pd_ne _ _ (show (4 : Nat) ≠ 2 by omega), pd_ne _ _ (show (4 : Nat) ≠ 1 by omega), pd_ne _ _ (show (5 : Nat) ≠ 2 by omega), pd_ne _ _ (show (5 : Nat) ≠ 1 by omega), pd_eq, hm 4 (by omega) (by omega) (by omega) (by omega), hm 5 (by omega) (by omega) (by omega) (by omega), hm 6 (by omega) (by omega) (by omega) (by omega)]
          exact ⟨rfl, b2, b3, b4, b5, fun q => absurd q (by decide), fun _ => rfl, fun q => absurd rfl q, fun q => absurd q (by decide), fun q => absurd q (by decide)⟩
      · exact g3.of rfl rfl rfl rfl m16 (by rw [hm 17 (by omega) (by omega) (by omega) (by omega), g2 17 (by omega) (by omega)]) (by rw [hm 18 (by omega) (by omega) (by omega) (by omega), g2 18 (by omega) (by omega)]) m19
      · intro u s hu hs2 hz
        rw [m16]
        by_cases e : u = t
        · subst e; exact g4 s hs2
        · rw [(hoth u e).1] at hz
          exact g5 _ (a6 u s hu hs2 hz)
      · obtain ⟨d, d1, d2, d3⟩ := a9
        refine ⟨d, d1, by rw [hm 0 (by omega) (by omega) (by omega) (by omega)]; exact d2, fun u hu hu2 => ?_⟩
        by_cases e : u = t
        · rw [e, mt] at hu2; exact absurd hu2 (by decide)
        · rw [(hoth u e).1] at hu2
          rw [(hoth u e).2.1]
          exact d3 u hu hu2
      · refine a10.keep (u := t) ?_ (fun w => h1 (pIn_m1.mp ((a10.1 t).mp w).2)) hoth
        by_cases q : pIn mx (-1) t = true
        · rw [pIn_m1, mt] at q; exact absurd q (by decide)
        · simpa using q
      · exact a11.other (u := t) h2 h4 (by rw [mt]; decide) (by rw [mt]; decide) hoth
      · refine ⟨fun u hu hz => ?_, fun u v hu hv hz1 hz2 q1 q2 => ?_⟩
        · have e : u ≠ t := fun q => hz (by rw [q]; exact mt)
          rw [m7, pd_ne _ _ e]
          rcases a12.1 u hu (by rw [← (hoth u e).1]; exact hz) with q | ⟨c, c1, c2, c3⟩
          · exact Or.inl q
          · refine Or.inr ⟨c, c1, c2, ?_⟩
            rw [(hoth c (fun q => h3 (by rw [← q]; exact c3))).1]
            exact c3
        · have e1 : u ≠ t := fun q => hz1 (by rw [q]; exact mt)
          have e2 : v ≠ t := fun q => hz2 (by rw [q]; exact mt)
          rw [m7, pd_ne _ _ e1, pd_ne _ _ e2] at q1
          rw [m7, pd_ne _ _ e1] at q2
          exact a12.2 u v hu hv (by rw [← (hoth u e1).1]; exact hz1) (by rw [← (hoth v e2).1]; exact hz2) q1 q2
      · rw [hk 0 (by omega) (by omega), hm 0 (by omega) (by omega) (by omega) (by omega)]
        exact a13
    · cases e
      have h29 : wK_reap_29 (nI t) (3 + t) k Q := by
        refine ⟨⟨by omega, by omega⟩, ⟨by omega, by omega⟩, ?_⟩
        rintro k2 rfl k3 rfl
        exact ⟨9, g6 Q hQ⟩
      refine ⟨⟨by omega, by omega⟩, ?_⟩
      rw [b1]
      refine ⟨fun _ => h29, fun q => ⟨fun _ => h29, fun q2 => ?_⟩⟩
      rcases hs with w | w
      · exact absurd w q2
      · exact absurd w q
    · have h30 : wM_reap_30 (nI t) m Q := ⟨9, g7 Q hQ⟩
      rw [hct]
      refine ⟨fun _ => h30, fun q => ⟨hvt, fun _ => h30, fun q2 => ?_⟩⟩
      rcases hs with w | w
      · exact absurd w q
      · exact absurd w q2
  · refine ⟨0, k, m, l, el, h.le (by omega), fun Q hQ => ?_, fun Q hQ => ?_⟩
    · rcases h.there x with ⟨t, ht, rfl, h2, h1⟩ | ⟨g2, g1⟩
      · refine vK_used1 ht h1 ⟨fun _ => hQ, fun o e => ?_⟩
        cases e
        refine ⟨⟨by omega, by omega⟩, ?_⟩
        rw [(h.2.2.2.1 t ht).1]
        exact ⟨fun q => absurd ⟨t, ht, rfl, Or.inr q⟩ hx, fun _ => ⟨fun q => absurd ⟨t, ht, rfl, Or.inl q⟩ hx, fun _ => hQ⟩⟩
      · exact vK_used0 g1 ⟨fun _ => hQ, fun o e => by cases e⟩
    · by_cases hy : ∃ t, t < 6 ∧ x = nI t
      · obtain ⟨t, ht, rfl⟩ := hy
        refine vM_thread1 ht ⟨fun z => absurd z (by decide), fun _ => ⟨vp_in_nI ht (by decide), ?_⟩⟩
        rw [nI_clamp (by omega)]
        exact ⟨fun q => absurd ⟨t, ht, rfl, Or.inl q⟩ hx, fun _ => ⟨vp_in_nI ht (by decide), fun q => absurd ⟨t, ht, rfl, Or.inr q⟩ hx, fun _ => hQ⟩⟩
      · exact vM_thread0 (fun j j1 j2 => hy ⟨j, j1, j2⟩) ⟨fun _ => hQ, fun z => absurd rfl z⟩
end Act

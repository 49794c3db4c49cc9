/-! a capability is derived from another -/
theorem pn_and7 {a b : Int32} (h : a &&& 7 = a) : (a &&& b) &&& 7 = a &&& b := by
  rw [Int32.and_assoc, Int32.and_comm b 7, ← Int32.and_assoc, h]
theorem qF.add {kd pa kd' pa' : Nat → Int32} {rk : Nat → Nat} (h : qF kd pa rk) {p q : Nat} (hp : p < 48) (hq : q < 48) (hkp : kd p = 0) (hkq : ¬ kd q = 0) (h1 : kd' = upd kd p (kd q)) (h2 : pa' = upd pa p (nI q)) : qF kd' pa' (fun x => if x = p then rk q + 1 else rk x) := by
  have hpq : ¬ q = p := fun e => hkq (by rw [e]; exact hkp)
  intro x hx hkx
  subst h1 h2
  by_cases e : x = p
  · subst e
    rw [pd_eq]
    refine Or.inr ⟨q, hq, rfl, by rw [pd_ne _ _ hpq]; exact hkq, ?_⟩
    simp only [if_neg hpq, if_true]
    omega
  · rw [pd_ne _ _ e] at hkx ⊢
    rcases h x hx hkx with g | ⟨y, g1, g2, g3, g4⟩
    · exact Or.inl g
    · have hy : ¬ y = p := fun e2 => g3 (by rw [e2]; exact hkp)
      refine Or.inr ⟨y, g1, g2, by rw [pd_ne _ _ hy]; exact g3, ?_⟩
      simp only [if_neg e, if_neg hy]
      exact g4
def gPlace (m : mj_St) (p : Nat) (a b c d : Int32) : mj_St := mj_up (mj_up (mj_up (mj_up m 16 p a) 17 p b) 18 p c) 19 p d
theorem gPlace_ne {k : mj_St} {p : Nat} {a b c d : Int32} {i : Nat} (h : i < 16 ∨ 19 < i) : gPlace k p a b c d i = k i := by
  unfold gPlace
  rw [pu_ne _ _ _ (by omega), pu_ne _ _ _ (by omega), pu_ne _ _ _ (by omega), pu_ne _ _ _ (by omega)]
theorem gPlace_16 {k : mj_St} {p : Nat} {a b c d : Int32} : gPlace k p a b c d 16 = upd (k 16) p a := by
  unfold gPlace
  rw [pu_ne _ _ _ (by omega), pu_ne _ _ _ (by omega), pu_ne _ _ _ (by omega), pu_eq]
theorem gPlace_17 {k : mj_St} {p : Nat} {a b c d : Int32} : gPlace k p a b c d 17 = upd (k 17) p b := by
  unfold gPlace
  rw [pu_ne _ _ _ (by omega), pu_ne _ _ _ (by omega), pu_eq, pu_ne _ _ _ (by omega)]
theorem gPlace_18 {k : mj_St} {p : Nat} {a b c d : Int32} : gPlace k p a b c d 18 = upd (k 18) p c := by
  unfold gPlace
  rw [pu_ne _ _ _ (by omega), pu_eq, pu_ne _ _ _ (by omega), pu_ne _ _ _ (by omega)]
theorem gPlace_19 {k : mj_St} {p : Nat} {a b c d : Int32} : gPlace k p a b c d 19 = upd (k 19) p d := by
  unfold gPlace
  rw [pu_eq, pu_ne _ _ _ (by omega), pu_ne _ _ _ (by omega), pu_ne _ _ _ (by omega)]
theorem vM_place {m : mj_St} {p q : Nat} {r : Int32} {Q : mj_St → Prop} (hp : p < 48) (hq : q < 48) (h : Q (gPlace m p (m 16 q) (m 17 q) r (nI q))) : wM_place (nI p) (nI q) r m Q := by
  have hv : vp_in (nI p) 48 := vp_in_nI hp (by decide)
  have hw : vp_in (nI q) 48 := vp_in_nI hq (by decide)
  unfold wM_place
  rw [nI_clamp (by omega), nI_clamp (by omega)]
  refine ⟨hw, hv, ?_⟩
  rintro k1 rfl
  refine ⟨hw, hv, ?_⟩
  rintro k2 rfl
  refine ⟨hv, ?_⟩
  rintro k3 rfl
  refine ⟨hv, ?_⟩
  rintro k4 rfl
  rw [pu_ne _ _ _ (show (17 : Nat) ≠ 16 by omega)]
  exact h
theorem pCp.put {k m : mj_St} (h : pCp k m) {p : Nat} {a b c d : Int32} (hp : p < 48) (hk : a = 1 ∨ a = 2) (hb : a = 1 → ∃ e, e < 4 ∧ b = nI e) (hc : c &&& 7 = c) (hF : ∃ rk, qF (upd (m 16) p a) (upd (m 19) p d) rk) : pCp (gFill k p a b c d) (gPlace m p a b c d) := by
  obtain ⟨rk, hF⟩ := hF
  refine ⟨fun x hx => ?_, ?_⟩
  · rw [gFill_27, gFill_28, gFill_29, gFill_30, gPlace_16, gPlace_17, gPlace_18, gPlace_19]
    by_cases e : x = p
    · subst e
      rw [pd_eq, pd_eq, pd_eq, pd_eq, pd_eq, pd_eq, pd_eq, pd_eq]
      exact ⟨rfl, Or.inr hk, fun _ => ⟨rfl, rfl, rfl, hb, hc⟩⟩
    · rw [pd_ne _ _ e, pd_ne _ _ e, pd_ne _ _ e, pd_ne _ _ e, pd_ne _ _ e, pd_ne _ _ e, pd_ne _ _ e, pd_ne _ _ e]
      exact h.1 x hx
  · rw [gPlace_16, gPlace_19]
    exact hF.norm
theorem pCp.derive {k m : mj_St} (h : pCp k m) {p q : Nat} {w : Int32} (hp : p < 48) (hq : q < 48) (h0 : m 16 p = 0) (h1 : ¬ m 16 q = 0) : pCp (gFill k p (k 27 q) (k 28 q) (k 29 q &&& w) (nI q)) (gPlace m p (m 16 q) (m 17 q) (m 18 q &&& w) (nI q)) := by
  obtain ⟨c1, c2, c3⟩ := h.1 q hq
  obtain ⟨d1, d2, d3, d4, d5⟩ := c3 h1
  obtain ⟨rk, hF, -⟩ := h.2
  rw [c1, d1, d2]
  exact h.put hp (c2.resolve_left h1) d4 (pn_and7 d5) ⟨_, hF.add hp hq h0 h1 rfl rfl⟩
theorem pFr.put {m : mj_St} (h : pFr m) {u s : Nat} {a b c d : Int32} (hu : u < 6) (hs : s < 8) (h2 : ¬ m 2 u = 0) : pFr (gPlace m (8 * u + s) a b c d) := by
  intro v z hv hz h0
  rw [gPlace_ne (by omega)] at h0
  rw [gPlace_16]
  have : ¬ v = u := fun e => h2 (by rw [← e]; exact h0)
  rw [pd_ne _ _ (by omega)]
  exact h v z hv hz h0
theorem pS.derive {k m : mj_St} {t : Nat} {tl : List Nat} {el er : Nat → List Nat} {N : Nat} (h : pS k m t tl el er N) {u s q : Nat} {w : Int32} (hu : u < 6) (hs : s < 8) (h2 : ¬ m 2 u = 0) (hq : q < 48) (h0 : m 16 (8 * u + s) = 0) (h1 : ¬ m 16 q = 0) : pS (gFill k (8 * u + s) (k 27 q) (k 28 q) (k 29 q &&& w) (nI q)) (gPlace m (8 * u + s) (m 16 q) (m 17 q) (m 18 q &&& w) (nI q)) t tl el er N :=
  h.cap (fun i hi => gFill_ne (by omega)) (fun i hi => gPlace_ne hi) (h.2.2.2.2.1.derive (by omega) hq h0 h1) (h.2.2.2.2.2.1.put hu hs h2)
/-! a word is printed -/
theorem xP_append {k m : mj_St} {t : Nat} {tl : List Nat} {el er : Nat → List Nat} {N : Nat} {v : Int32} (h : pS k m t tl el er N) (hN : N < 2 ^ 30) : ∃ k' m', pS k' m' t tl el er (N + 1) ∧ (∀ i, i ≠ 32 → i ≠ 33 → k' i = k i) ∧ (∀ i, 1 ≤ i → i < 20 → m' i = m i) ∧ (∀ j, j ≠ 22 → m' 0 j = m 0 j) ∧ (∀ Q : mj_St → Prop, Q k' → wP_append v k Q) ∧ (∀ Q : mj_St → Prop, Q m' → wM_write v m Q) := by
  obtain ⟨a1, a2, a3, a4, a6, a7, ⟨n, b1, b2, b3, b4⟩, a9, a10, a11, a12⟩ := id h
  have e1 : k 32 1 - k 32 1 / 16 * 16 = nI (n % 16) := by
    rw [b2, show (16 : Int32) = nI 16 from rfl, pk_rem (by omega) (by omega) (by omega)]
  have e2 : m 0 22 &&& 15 = nI (n % 16) := by
    rw [b3]
    exact pk_andN (by omega) 4 (by decide)
  have h16 : n % 16 < 16 := Nat.mod_lt _ (by decide)
  refine ⟨mj_up (mj_up k 33 (n % 16) v) 32 1 (nI (n + 1)), mj_up (mj_up m 20 (n % 16) v) 0 22 (nI (n + 1)), ?_, fun i h1 h2 => by rw [pu_ne _ _ _ h1, pu_ne _ _ _ h2], fun i h1 h2 => by rw [pu_ne _ _ _ (by omega), pu_ne _ _ _ (by omega)], fun j hj => by rw [pu_eq, pd_ne _ _ hj, pu_ne _ _ _ (by omega)], fun Q hQ => ?_, fun Q hQ => ?_⟩
  · have hk : ∀ i, i ≠ 32 → i ≠ 33 → mj_up (mj_up k 33 (n % 16) v) 32 1 (nI (n + 1)) i = k i := fun i h1 h2 => by rw [pu_ne _ _ _ h1, pu_ne _ _ _ h2]
    have hm : ∀ i, i ≠ 0 → i ≠ 20 → mj_up (mj_up m 20 (n % 16) v) 0 22 (nI (n + 1)) i = m i := fun i h1 h2 => by rw [pu_ne _ _ _ h1, pu_ne _ _ _ h2]
    have h0 : ∀ j, j ≠ 22 → mj_up (mj_up m 20 (n % 16) v) 0 22 (nI (n + 1)) 0 j = m 0 j := fun j hj => by rw [pu_eq, pd_ne _ _ hj, pu_ne _ _ _ (by omega)]
    refine ⟨?_, ?_, ?_, a4.of (fun w hw => hk _ (by omega) (by omega)) (fun i _ _ _ _ _ => hm i (by omega) (by omega)), a6.of (hk 27 (by omega) (by omega)) (hk 28 (by omega) (by omega)) (hk 29 (by omega) (by omega)) (hk 30 (by omega) (by omega)) (hm 16 (by omega) (by omega)) (hm 17 (by omega) (by omega)) (hm 18 (by omega) (by omega)) (hm 19 (by omega) (by omega)), a7.of (hm 2 (by omega) (by omega)) (hm 16 (by omega) (by omega)), ⟨n + 1, by omega, ?_, ?_, fun i hi => ?_⟩, a9.of (fun i h1 h2 => hk i (by omega) (by omega)), (a10.of (h0 11 (by omega)) (hm 2 (by omega) (by omega)) (hm 9 (by omega) (by omega))).le (by omega), a11.of (hm 2 (by omega) (by omega)) (hm 9 (by omega) (by omega)), a12.of (hm 2 (by omega) (by omega)) (hm 9 (by omega) (by omega)) (hm 10 (by omega) (by omega))⟩
    · unfold pQn; rw [hk 0 (by omega) (by omega), h0 0 (by omega)]; exact a1
    · unfold pMe; rw [hk 1 (by omega) (by omega), hm 1 (by omega) (by omega)]; exact a2
    · intro w s hw hs
      rw [hk _ (by omega) (by omega), hm _ (by omega) (by omega)]
      exact a3 w s hw hs
    · rw [pu_eq, pd_eq]
    · rw [pu_eq, pd_eq]
    · rw [pu_ne _ _ _ (show (33 : Nat) ≠ 32 by omega), pu_eq, pu_ne _ _ _ (show (20 : Nat) ≠ 0 by omega), pu_eq]
      by_cases e : i = n % 16
      · subst e; rw [pd_eq, pd_eq]
      · rw [pd_ne _ _ e, pd_ne _ _ e]; exact b4 i hi
  · unfold wP_append
    rw [e1, nI_clamp (by omega)]
    refine ⟨vp_in_nI h16 (by decide), ?_⟩
    rintro k1 rfl k2 rfl
    rw [pu_ne _ _ _ (show (32 : Nat) ≠ 33 by omega), b2, nI_1]
    exact hQ
  · unfold wM_write
    rw [e2, nI_clamp (by omega)]
    refine ⟨vp_in_nI h16 (by decide), ?_⟩
    rintro k1 rfl k2 rfl
    rw [pu_ne _ _ _ (show (0 : Nat) ≠ 20 by omega), b3, nI_1]
    exact hQ

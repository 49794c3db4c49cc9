/-! what an operation makes of a state, whatever is asked of it: there is one state behind, and whoever asks about it is answered -/
theorem xN_take_loop {o : Nat} (ho : mk_N o) {tl : List Nat} (h6 : tl.length < 6) : ∀ (d i : Nat) (k : mj_St), i + d = tl.length → k o 1 = nI tl.length → (∀ j, (hj : j < tl.length) → k (o + 5) (if j < i then j else j + 1) = nI tl[j]) →
    ∃ k', pL k' o tl ∧ (∀ a, a ≠ o + 5 → k' a = k a) ∧ ∀ Q : mj_St → Prop, Q k' → wN_takeFirst_20 (d + 1) o (nI i) k Q := by
  intro d
  induction d with
  | zero =>
    intro i k hi h1 h2
    refine ⟨k, ⟨h1, by omega, fun j hj => ?_⟩, fun _ _ => rfl, fun Q hQ => ?_⟩
    · have := h2 j hj
      rw [if_pos (by omega)] at this
      exact this
    · rw [wN_takeFirst_20]
      refine ⟨ho, fun _ => hQ, fun a => ?_⟩
      exfalso
      apply a
      rw [h1]
      exact nI_le (by omega) (by omega)
  | succ d ih =>
    intro i k hi h1 h2
    obtain ⟨k', g1, g2, g3⟩ := ih (i + 1) (mj_up k (o + 5) i (k (o + 5) (i + 1))) (by omega) (by rw [pu_ne _ _ _ (show o ≠ o + 5 by omega)]; exact h1) (fun j hj => by
      rw [pu_eq]
      by_cases e : j = i
      · subst e
        rw [if_pos (by omega), pd_eq]
        have := h2 j hj
        rw [if_neg (by omega)] at this
        exact this
      · by_cases e2 : j < i
        · rw [if_pos (by omega), pd_ne _ _ (by omega)]
          have := h2 j hj
          rw [if_pos e2] at this
          exact this
        · rw [if_neg (by omega), pd_ne _ _ (by omega)]
          have := h2 j hj
          rw [if_neg e2] at this
          exact this)
    refine ⟨k', g1, fun a ha => by rw [g2 a ha, pu_ne _ _ _ ha], fun Q hQ => ?_⟩
    rw [wN_takeFirst_20]
    refine ⟨ho, fun a => ?_, fun a => ?_⟩
    · exfalso
      rw [h1] at a
      exact nI_ge (by omega) (by omega) a
    · rw [nI_1]
      refine ⟨vp_in_nI (by omega) (by decide), vp_in_nI (by omega) (by decide), ?_⟩
      rintro k6 rfl a7 rfl
      rw [nI_clamp (by omega), nI_clamp (by omega)]
      exact g3 Q hQ
theorem xN_takeFirst {o t : Nat} {k : mj_St} {tl : List Nat} (ho : mk_N o) (hl : pL k o (t :: tl)) : ∃ k', pL k' o tl ∧ (∀ a, a ≠ o → a ≠ o + 5 → k' a = k a) ∧ ∀ Q : mj_St → Prop, Q k' → wN_takeFirst o k Q := by
  obtain ⟨h1, h2, h3⟩ := hl
  rw [List.length_cons] at h1 h2
  obtain ⟨k', g1, g2, g3⟩ := xN_take_loop ho (tl := tl) (by omega) tl.length 0 (mj_up k o 1 (k o 1 - 1)) (by omega) (by rw [pu_eq, pd_eq, h1, nI_pred]) (fun j hj => by
    rw [if_neg (by omega), pu_ne _ _ _ (show o + 5 ≠ o by omega), h3 (j + 1) (by rw [List.length_cons]; omega)]
    simp)
  refine ⟨k', g1, fun a ha hb => by rw [g2 a hb, pu_ne _ _ _ ha], fun Q hQ => ⟨ho, fun a => ?_, fun a => ?_⟩⟩
  · rintro k3 rfl
    exact ⟨tl.length + 1, g3 Q hQ⟩
  · exfalso
    rw [h1] at a
    exact nI_ne0 (by omega) (by omega) a
/-! the class's capabilities: fill, empty, removeAt, derive -/
def gFill (k : mj_St) (p : Nat) (a b c d : Int32) : mj_St := mj_up (mj_up (mj_up (mj_up k 27 p a) 28 p b) 29 p c) 30 p d
theorem gFill_ne {k : mj_St} {p : Nat} {a b c d : Int32} {i : Nat} (h : i < 27 ∨ 30 < i) : gFill k p a b c d i = k i := by
  unfold gFill
  rw [pu_ne _ _ _ (by omega), pu_ne _ _ _ (by omega), pu_ne _ _ _ (by omega), pu_ne _ _ _ (by omega)]
theorem gFill_27 {k : mj_St} {p : Nat} {a b c d : Int32} : gFill k p a b c d 27 = upd (k 27) p a := by
  unfold gFill
  rw [pu_ne _ _ _ (by omega), pu_ne _ _ _ (by omega), pu_ne _ _ _ (by omega), pu_eq]
theorem gFill_28 {k : mj_St} {p : Nat} {a b c d : Int32} : gFill k p a b c d 28 = upd (k 28) p b := by
  unfold gFill
  rw [pu_ne _ _ _ (by omega), pu_ne _ _ _ (by omega), pu_eq, pu_ne _ _ _ (by omega)]
theorem gFill_29 {k : mj_St} {p : Nat} {a b c d : Int32} : gFill k p a b c d 29 = upd (k 29) p c := by
  unfold gFill
  rw [pu_ne _ _ _ (by omega), pu_eq, pu_ne _ _ _ (by omega), pu_ne _ _ _ (by omega)]
theorem gFill_30 {k : mj_St} {p : Nat} {a b c d : Int32} : gFill k p a b c d 30 = upd (k 30) p d := by
  unfold gFill
  rw [pu_eq, pu_ne _ _ _ (by omega), pu_ne _ _ _ (by omega), pu_ne _ _ _ (by omega)]
theorem vG_fill {k : mj_St} {p : Nat} {a b c d : Int32} {Q : mj_St → Prop} (hp : p < 48) (h : Q (gFill k p a b c d)) : wG_fill (nI p) a b c d k Q := by
  have hv : vp_in (nI p) 48 := vp_in_nI hp (by decide)
  unfold wG_fill
  rw [nI_clamp (by omega)]
  refine ⟨hv, ?_⟩
  rintro k1 rfl
  refine ⟨hv, ?_⟩
  rintro k2 rfl
  refine ⟨hv, ?_⟩
  rintro k3 rfl
  refine ⟨hv, ?_⟩
  rintro k4 rfl
  exact h
theorem vG_derive {k : mj_St} {p q : Nat} {w : Int32} {Q : mj_St → Prop} (hp : p < 48) (hq : q < 48) (h : Q (gFill k p (k 27 q) (k 28 q) (k 29 q &&& w) (nI q))) : wG_derive (nI p) (nI q) w k Q := by
  have hv : vp_in (nI q) 48 := vp_in_nI hq (by decide)
  unfold wG_derive
  rw [nI_clamp (by omega)]
  exact ⟨hv, hv, hv, vG_fill hp h⟩
/-- parents when c goes, the first n looked at -/
def qP (kd pa : Nat → Int32) (c n x : Nat) : Int32 := if x < n ∧ ¬ kd x = 0 ∧ pa x = nI c then pa c else pa x
theorem qP_0 (kd pa : Nat → Int32) (c x : Nat) : qP kd pa c 0 x = pa x := by simp [qP]
theorem qP_s (kd pa : Nat → Int32) (c n x : Nat) : qP kd pa c (n + 1) x = if x = n then (if ¬ kd n = 0 ∧ pa n = nI c then pa c else pa n) else qP kd pa c n x := by
  unfold qP
  by_cases e : x = n
  · subst e
    by_cases e2 : ¬ kd x = 0 ∧ pa x = nI c
    · rw [if_pos ⟨by omega, e2⟩, if_pos rfl, if_pos e2]
    · rw [if_neg (fun z => e2 z.2), if_pos rfl, if_neg e2]
  · rw [if_neg e]
    by_cases e2 : x < n ∧ ¬ kd x = 0 ∧ pa x = nI c
    · rw [if_pos e2, if_pos ⟨by omega, e2.2⟩]
    · rw [if_neg e2, if_neg (fun z => e2 ⟨by omega, z.2⟩)]
theorem qP_c {kd pa : Nat → Int32} {c n : Nat} (h : ¬ pa c = nI c) : qP kd pa c n c = pa c := by
  unfold qP
  rw [if_neg (fun z => h z.2.2)]
theorem xG_rem_loop {k0 : mj_St} {c : Nat} (hc : c < 48) (hself : ¬ k0 30 c = nI c) : ∀ (d x : Nat) (k : mj_St), x + d = 48 → (∀ a, a ≠ 30 → k a = k0 a) → (∀ y, k 30 y = qP (k0 27) (k0 30) c x y) →
    ∃ k', (∀ a, a < 27 ∨ 30 < a → k' a = k0 a) ∧ k' 27 = upd (k0 27) c 0 ∧ k' 28 = upd (k0 28) c 0 ∧ k' 29 = upd (k0 29) c 0 ∧ (∀ y, k' 30 y = if y = c then -1 else qP (k0 27) (k0 30) c 48 y) ∧ ∀ Q : mj_St → Prop, Q k' → wG_removeAt_11 (d + 1) (nI c) (nI x) k Q := by
  intro d
  induction d with
  | zero =>
    intro x k hx h1 h2
    obtain rfl : x = 48 := by omega
    refine ⟨gFill k c 0 0 0 (-1), fun a ha => ?_, ?_, ?_, ?_, fun y => ?_, fun Q hQ => ?_⟩
    · rw [gFill_ne ha, h1 a (by omega)]
    · rw [gFill_27, h1 27 (by omega)]
    · rw [gFill_28, h1 28 (by omega)]
    · rw [gFill_29, h1 29 (by omega)]
    · rw [gFill_30]
      by_cases e : y = c
      · rw [if_pos e, e, pd_eq]
      · rw [if_neg e, pd_ne _ _ e, h2]
    · rw [wG_removeAt_11]
      exact ⟨fun _ => vG_fill hc hQ, fun q => absurd (show (48 : Int32) ≤ nI 48 from by decide) q⟩
  | succ d ih =>
    intro x k hx h1 h2
    have hx48 : x < 48 := by omega
    have h27 : k 27 = k0 27 := h1 27 (by omega)
    by_cases e : ¬ k0 27 x = 0 ∧ k0 30 x = nI c
    · obtain ⟨k', g1, g2, g3, g4, g5, g6⟩ := ih (x + 1) (mj_up k 30 x (k 30 c)) (by omega) (fun a ha => by rw [pu_ne _ _ _ ha, h1 a ha]) (fun y => by
        rw [pu_eq, qP_s, if_pos e, h2 c, qP_c hself]
        by_cases e2 : y = x
        · rw [if_pos e2, e2, pd_eq]
        · rw [if_neg e2, pd_ne _ _ e2, h2])
      refine ⟨k', g1, g2, g3, g4, g5, fun Q hQ => ?_⟩
      rw [wG_removeAt_11]
      refine ⟨fun q => ?_, fun _ => vG_holds hx48 (fun _ => ?_) (fun z => absurd (by rw [← h27]; exact z) e.1)⟩
      · exfalso
        rw [show (48 : Int32) = nI 48 from rfl] at q
        exact nI_ge (by omega) (by decide) q
      · refine ⟨fun z => absurd z (by decide), fun _ => ⟨vp_in_nI hx48 (by decide), ?_⟩⟩
        rw [nI_clamp (by omega), nI_clamp (by omega)]
        have e3 : k 30 x = nI c := by rw [h2, qP, if_neg (fun z => by omega)]; exact e.2
        refine ⟨fun z => absurd e3 z, fun _ => ⟨vp_in_nI hc (by decide), vp_in_nI hx48 (by decide), ?_⟩⟩
        rintro k9 rfl a7 rfl
        rw [nI_1]
        exact g6 Q hQ
    · obtain ⟨k', g1, g2, g3, g4, g5, g6⟩ := ih (x + 1) k (by omega) h1 (fun y => by
        rw [qP_s, if_neg e]
        by_cases e2 : y = x
        · rw [if_pos e2, e2, h2, qP, if_neg (fun z => by omega)]
        · rw [if_neg e2, h2])
      refine ⟨k', g1, g2, g3, g4, g5, fun Q hQ => ?_⟩
      have hnext : wG_removeAt_47 (nI c) (nI x) k Q (fun x1_ x2_ k_ => wG_removeAt_11 (d + 1) x1_ x2_ k_ Q) := by
        rintro a7 rfl
        rw [nI_1]
        exact g6 Q hQ
      rw [wG_removeAt_11]
      refine ⟨fun q => ?_, fun _ => vG_holds hx48 (fun z => ?_) (fun _ => ⟨fun _ => hnext, fun z => absurd rfl z⟩)⟩
      · exfalso
        rw [show (48 : Int32) = nI 48 from rfl] at q
        exact nI_ge (by omega) (by decide) q
      · refine ⟨fun z => absurd z (by decide), fun _ => ⟨vp_in_nI hx48 (by decide), ?_⟩⟩
        rw [nI_clamp (by omega)]
        have e3 : k 30 x = k0 30 x := by rw [h2, qP, if_neg (fun z => by omega)]
        refine ⟨fun _ => hnext, fun z2 => absurd ⟨by rw [← h27]; exact z, by rw [← e3]; exact z2⟩ e⟩
theorem xG_removeAt {k : mj_St} {c : Nat} (hc : c < 48) (hk : ¬ k 27 c = 0) (hself : ¬ k 30 c = nI c) : ∃ k', (∀ a, a < 27 ∨ 30 < a → k' a = k a) ∧ k' 27 = upd (k 27) c 0 ∧ k' 28 = upd (k 28) c 0 ∧ k' 29 = upd (k 29) c 0 ∧ (∀ y, k' 30 y = if y = c then -1 else qP (k 27) (k 30) c 48 y) ∧ ∀ Q : mj_St → Prop, Q k' → wG_removeAt (nI c) k Q := by
  obtain ⟨k', g1, g2, g3, g4, g5, g6⟩ := xG_rem_loop hc hself 48 0 k rfl (fun _ _ => rfl) (fun y => (qP_0 _ _ _ _).symm)
  exact ⟨k', g1, g2, g3, g4, g5, fun Q hQ => vG_holds hc (fun _ => ⟨fun _ => ⟨49, g6 Q hQ⟩, fun z => absurd z (by decide)⟩) (fun z => absurd z hk)⟩
theorem vG_removeAt0 {k : mj_St} {c : Nat} (hc : c < 48) (hk : k 27 c = 0) {Q : mj_St → Prop} (hQ : Q k) : wG_removeAt (nI c) k Q :=
  vG_holds hc (fun z => absurd hk z) (fun _ => ⟨fun z => absurd rfl z, fun _ => hQ⟩)
/-! the reference: remove -/
theorem xM_rem_loop {m0 : mj_St} {c : Nat} (hc : c < 48) (hself : ¬ m0 19 c = nI c) : ∀ (d x : Nat) (m : mj_St), x + d = 48 → (∀ a, a ≠ 19 → m a = m0 a) → (∀ y, m 19 y = qP (m0 16) (m0 19) c x y) →
    ∃ m', (∀ a, a ≠ 16 → a ≠ 19 → m' a = m0 a) ∧ m' 16 = upd (m0 16) c 0 ∧ (∀ y, m' 19 y = if y = c then -1 else qP (m0 16) (m0 19) c 48 y) ∧ ∀ Q : mj_St → Prop, Q m' → wM_remove_2 (d + 1) (nI c) (nI x) m Q := by
  intro d
  induction d with
  | zero =>
    intro x m hx h1 h2
    obtain rfl : x = 48 := by omega
    refine ⟨mj_up (mj_up m 16 c 0) 19 c (-1), fun a h3 h4 => ?_, ?_, fun y => ?_, fun Q hQ => ?_⟩
    · rw [pu_ne _ _ _ h4, pu_ne _ _ _ h3, h1 a h4]
    · rw [pu_ne _ _ _ (by omega), pu_eq, h1 16 (by omega)]
    · rw [pu_eq, pu_ne _ _ _ (by omega)]
      by_cases e : y = c
      · rw [if_pos e, e, pd_eq]
      · rw [if_neg e, pd_ne _ _ e, h2]
    · rw [wM_remove_2]
      refine ⟨fun _ => ⟨vp_in_nI hc (by decide), ?_⟩, fun q => absurd (show (48 : Int32) ≤ nI 48 from by decide) q⟩
      rw [nI_clamp (by omega)]
      rintro k2 rfl
      refine ⟨vp_in_nI hc (by decide), ?_⟩
      rintro k3 rfl
      exact hQ
  | succ d ih =>
    intro x m hx h1 h2
    have hx48 : x < 48 := by omega
    have h16 : m 16 = m0 16 := h1 16 (by omega)
    have e3 : m 19 x = m0 19 x := by rw [h2, qP, if_neg (fun z => by omega)]
    obtain ⟨m', g1, g2, g3, g4⟩ := ih (x + 1) (mj_up m 19 x (if ¬ m0 16 x = 0 ∧ m0 19 x = nI c then m0 19 c else m0 19 x)) (by omega) (fun a ha => by rw [pu_ne _ _ _ ha, h1 a ha]) (fun y => by
      rw [pu_eq, qP_s]
      by_cases e2 : y = x
      · rw [if_pos e2, e2, pd_eq]
      · rw [if_neg e2, pd_ne _ _ e2, h2])
    refine ⟨m', g1, g2, g3, fun Q hQ => ?_⟩
    have hnext : ∀ v : Int32, v = (if ¬ m0 16 x = 0 ∧ m0 19 x = nI c then m0 19 c else m0 19 x) → wM_remove_47 (nI c) (nI x) v (nI x) m Q (fun x1_ x2_ k_ => wM_remove_2 (d + 1) x1_ x2_ k_ Q) := by
      rintro v rfl
      refine ⟨vp_in_nI hx48 (by decide), ?_⟩
      rw [nI_clamp (by omega)]
      rintro k5 rfl a6 rfl
      rw [nI_1]
      exact g4 Q hQ
    have hkeep : ¬ (¬ m0 16 x = 0 ∧ m0 19 x = nI c) → wM_remove_41 (nI c) (nI x) (nI x) m Q (fun x1_ x2_ k_ => wM_remove_2 (d + 1) x1_ x2_ k_ Q) := by
      intro e
      refine ⟨vp_in_nI hx48 (by decide), ?_⟩
      rw [nI_clamp (by omega), e3]
      exact hnext _ (by rw [if_neg e])
    rw [wM_remove_2]
    refine ⟨fun q => ?_, fun _ => ⟨vp_in_nI hx48 (by decide), ?_⟩⟩
    · exfalso
      rw [show (48 : Int32) = nI 48 from rfl] at q
      exact nI_ge (by omega) (by decide) q
    · rw [nI_clamp (by omega), nI_clamp (by omega), h16, e3]
      refine ⟨fun z => hkeep (fun w => w.1 z), fun z => ⟨vp_in_nI hx48 (by decide), fun z2 => hkeep (fun w => z2 w.2), fun z2 => ⟨vp_in_nI hc (by decide), ?_⟩⟩⟩
      exact hnext _ (by rw [if_pos ⟨z, z2⟩, h2, qP_c hself])
theorem xM_remove {m : mj_St} {c : Nat} (hc : c < 48) (hself : ¬ m 19 c = nI c) : ∃ m', (∀ a, a ≠ 16 → a ≠ 19 → m' a = m a) ∧ m' 16 = upd (m 16) c 0 ∧ (∀ y, m' 19 y = if y = c then -1 else qP (m 16) (m 19) c 48 y) ∧ ∀ Q : mj_St → Prop, Q m' → wM_remove (nI c) m Q := by
  obtain ⟨m', g1, g2, g3, g4⟩ := xM_rem_loop hc hself 48 0 m rfl (fun _ _ => rfl) (fun y => (qP_0 _ _ _ _).symm)
  exact ⟨m', g1, g2, g3, fun Q hQ => ⟨49, g4 Q hQ⟩⟩
/-! the tie between the two: capabilities -/
def pCp (k m : mj_St) : Prop := (∀ p, p < 48 → k 27 p = m 16 p ∧ (m 16 p = 0 ∨ m 16 p = 1 ∨ m 16 p = 2) ∧ (¬ m 16 p = 0 → k 28 p = m 17 p ∧ k 29 p = m 18 p ∧ k 30 p = m 19 p ∧ (m 16 p = 1 → ∃ e, e < 4 ∧ m 17 p = nI e) ∧ m 18 p &&& 7 = m 18 p)) ∧ ∃ rk, qF (m 16) (m 19) rk ∧ qR rk
theorem pCp.E {k m : mj_St} (h : pCp k m) : qE (m 16) (m 19) (k 27) (k 30) := fun p hp => ⟨(h.1 p hp).1, fun hk => ((h.1 p hp).2.2 hk).2.2.1⟩
theorem pCp.of {k m k' m' : mj_St} (h : pCp k m) (h1 : k' 27 = k 27) (h2 : k' 28 = k 28) (h3 : k' 29 = k 29) (h4 : k' 30 = k 30) (h5 : m' 16 = m 16) (h6 : m' 17 = m 17) (h7 : m' 18 = m 18) (h8 : m' 19 = m 19) : pCp k' m' := by
  unfold pCp
  rw [h1, h2, h3, h4, h5, h6, h7, h8]
  exact h
theorem qF.self {kd pa : Nat → Int32} {rk : Nat → Nat} (h : qF kd pa rk) {c : Nat} (hc : c < 48) (hk : ¬ kd c = 0) : ¬ pa c = nI c := by
  intro e
  rcases h c hc hk with h1 | ⟨q, h1, h2, h3, h4⟩
  · rw [h1] at e; exact pn_m1 (by omega) e.symm
  · rw [h2, nI_eq (by omega) (by omega)] at e
    subst e
    omega
/-- c goes: the forest stays one -/
theorem qF.rem {kd pa kd' pa' : Nat → Int32} {rk : Nat → Nat} (h : qF kd pa rk) {c : Nat} (hc : c < 48) (hk : ¬ kd c = 0) (h1 : kd' = upd kd c 0) (h2 : ∀ y, pa' y = if y = c then -1 else qP kd pa c 48 y) : qF kd' pa' rk := by
  intro p hp hkp
  rw [h1] at hkp
  have hpc : ¬ p = c := fun e => by rw [e, pd_eq] at hkp; exact hkp rfl
  rw [pd_ne _ _ hpc] at hkp
  rw [h2, if_neg hpc, qP]
  by_cases e : pa p = nI c
  · rw [if_pos ⟨hp, hkp, e⟩]
    have hr : rk c < rk p := by
      rcases h p hp hkp with g | ⟨q, g1, g2, g3, g4⟩
      · rw [g] at e; exact absurd e.symm (pn_m1 (by omega))
      · rw [g2, nI_eq (by omega) (by omega)] at e
        subst e
        exact g4
    rcases h c hc hk with g | ⟨q, g1, g2, g3, g4⟩
    · exact Or.inl g
    · refine Or.inr ⟨q, g1, g2, ?_, by omega⟩
      have : ¬ q = c := fun e2 => by rw [e2] at g4; omega
      rw [h1, pd_ne _ _ this]
      exact g3
  · rw [if_neg (fun z => e z.2.2)]
    rcases h p hp hkp with g | ⟨q, g1, g2, g3, g4⟩
    · exact Or.inl g
    · refine Or.inr ⟨q, g1, g2, ?_, g4⟩
      have : ¬ q = c := fun e2 => e (by rw [g2, e2])
      rw [h1, pd_ne _ _ this]
      exact g3
/-- the two remove the same -/
theorem xRemove {k m : mj_St} (h : pCp k m) {c : Nat} (hc : c < 48) (hk : ¬ m 16 c = 0) : ∃ k' m', (∀ a, a < 27 ∨ 30 < a → k' a = k a) ∧ (∀ a, a ≠ 16 → a ≠ 19 → m' a = m a) ∧ m' 16 = upd (m 16) c 0 ∧ pCp k' m' ∧ (∀ Q : mj_St → Prop, Q k' → wG_removeAt (nI c) k Q) ∧ (∀ Q : mj_St → Prop, Q m' → wM_remove (nI c) m Q) := by
  obtain ⟨h1, rk, hF, hR⟩ := id h
  have hs := hF.self hc hk
  have hkk : ¬ k 27 c = 0 := by rw [(h1 c hc).1]; exact hk
  have hp := ((h1 c hc).2.2 hk).2.2.1
  obtain ⟨k', a1, a2, a3, a4, a5, a6⟩ := xG_removeAt hc hkk (by rw [hp]; exact hs)
  obtain ⟨m', b1, b2, b3, b4⟩ := xM_remove hc hs
  refine ⟨k', m', a1, b1, b2, ⟨fun p hpp => ?_, rk, hF.rem hc hk b2 b3, hR⟩, a6, b4⟩
  obtain ⟨c1, c2, c3⟩ := h1 p hpp
  by_cases e : p = c
  · subst e
    rw [a2, b2, pd_eq, pd_eq]
    exact ⟨rfl, Or.inl rfl, fun z => absurd rfl z⟩
  · rw [a2, b2, pd_ne _ _ e, pd_ne _ _ e]
    refine ⟨c1, c2, fun z => ?_⟩
    obtain ⟨d1, d2, d3, d4⟩ := c3 z
    rw [a3, a4, pd_ne _ _ e, pd_ne _ _ e, a5, b3, if_neg e, if_neg e, b1 17 (by omega) (by omega), b1 18 (by omega) (by omega)]
    refine ⟨d1, d2, ?_, d4⟩
    unfold qP
    rw [c1, d3, hp]

/-! REVOKE: the class marks all that are below, then empties them -/
theorem xG_mark_loop {k0 : mj_St} {rk : Nat → Nat} (hF : qF (k0 27) (k0 30) rk) {a : Nat} (ha : a < 48) : ∀ (d x : Nat) (k : mj_St), x + d = 48 → (∀ i, i ≠ 31 → k i = k0 i) → (∀ y, y < x → k 31 y = if qB (k0 27) (k0 30) y a = true then 1 else 0) →
    ∃ k', (∀ i, i ≠ 31 → k' i = k0 i) ∧ (∀ y, y < 48 → k' 31 y = if qB (k0 27) (k0 30) y a = true then 1 else 0) ∧ ∀ Q : mj_St → Prop, (∃ e28, wG_revokeBelow_28 e28 0 k' Q) → wG_revokeBelow_2 (d + 1) (nI a) (nI x) k Q := by
  intro d
  induction d with
  | zero =>
    intro x k hx h1 h2
    obtain rfl : x = 48 := by omega
    refine ⟨k, h1, h2, fun Q hQ => ?_⟩
    rw [wG_revokeBelow_2]
    exact ⟨fun _ => hQ, fun q => absurd (show (48 : Int32) ≤ nI 48 from by decide) q⟩
  | succ d ih =>
    intro x k hx h1 h2
    have hx48 : x < 48 := by omega
    obtain ⟨k', g1, g2, g3⟩ := ih (x + 1) (mj_up k 31 x (if qB (k0 27) (k0 30) x a = true then 1 else 0)) (by omega) (fun i hi => by rw [pu_ne _ _ _ hi, h1 i hi]) (fun y hy => by
      rw [pu_eq]
      by_cases e : y = x
      · rw [e, pd_eq]
      · rw [pd_ne _ _ e, h2 y (by omega)])
    refine ⟨k', g1, g2, fun Q hQ => ?_⟩
    rw [wG_revokeBelow_2]
    refine ⟨fun q => ?_, fun _ => ?_⟩
    · exfalso
      rw [show (48 : Int32) = nI 48 from rfl] at q
      exact nI_ge (by omega) (by decide) q
    · refine vG_isBelow (rk := rk) (by rw [h1 27 (by omega), h1 30 (by omega)]; exact hF) hx48 ha ?_
      rw [h1 27 (by omega), h1 30 (by omega)]
      refine ⟨vp_in_nI hx48 (by decide), ?_, ?_⟩
      · by_cases e : qB (k0 27) (k0 30) x a = true
        · rw [if_pos e]; exact Or.inr rfl
        · rw [if_neg e]; exact Or.inl rfl
      · rintro k7 rfl a8 rfl
        rw [nI_1, nI_clamp (by omega)]
        exact g3 Q hQ
/-- after the places below x that are marked went -/
def qW (k0 : mj_St) (S : Nat → Bool) (k : mj_St) : Prop := (∀ i, i < 27 ∨ 30 < i → k i = k0 i) ∧ ∀ y, y < 48 → k 27 y = (if S y = true then 0 else k0 27 y) ∧ (¬ S y = true → k 28 y = k0 28 y ∧ k 29 y = k0 29 y ∧ k 30 y = k0 30 y)
theorem xG_sweep_loop {k0 : mj_St} {B : Nat → Bool} (hB : ∀ y, y < 48 → k0 31 y = if B y = true then 1 else 0) : ∀ (d x : Nat) (k : mj_St), x + d = 48 → qW k0 (fun y => decide (y < x) && B y) k →
    ∃ k', qW k0 B k' ∧ ∀ Q : mj_St → Prop, Q k' → wG_revokeBelow_28 (d + 1) (nI x) k Q := by
  intro d
  induction d with
  | zero =>
    intro x k hx h1
    obtain rfl : x = 48 := by omega
    refine ⟨k, ⟨h1.1, fun y hy => ?_⟩, fun Q hQ => ?_⟩
    · have := h1.2 y hy
      simp only [hy, decide_true, Bool.true_and] at this
      exact this
    · rw [wG_revokeBelow_28]
      exact ⟨fun _ => hQ, fun q => absurd (show (48 : Int32) ≤ nI 48 from by decide) q⟩
  | succ d ih =>
    intro x k hx h1
    have hx48 : x < 48 := by omega
    have h31 : k 31 = k0 31 := h1.1 31 (by omega)
    have hge : ∀ Q : mj_St → Prop, ((¬ (48 : Int32) ≤ nI x) → vp_in (nI x) 48 ∧ ((k 31 x = 0 → wG_revokeBelow_48 (nI x) k Q (fun x2_ k_ => wG_revokeBelow_28 (d + 1) x2_ k_ Q)) ∧ (¬ k 31 x = 0 → wG_empty (nI x) k (fun k5 => wG_revokeBelow_48 (nI x) k5 Q (fun x2_ k_ => wG_revokeBelow_28 (d + 1) x2_ k_ Q))))) → wG_revokeBelow_28 (d + 1 + 1) (nI x) k Q := by
      intro Q h
      rw [wG_revokeBelow_28, nI_clamp (by omega)]
      refine ⟨fun q => ?_, h⟩
      exfalso
      rw [show (48 : Int32) = nI 48 from rfl] at q
      exact nI_ge (by omega) (by decide) q
    by_cases e : B x = true
    · obtain ⟨k', g1, g2⟩ := ih (x + 1) (gFill k x 0 0 0 (-1)) (by omega) ⟨fun i hi => by rw [gFill_ne hi, h1.1 i hi], fun y hy => by
        obtain ⟨c1, c2⟩ := h1.2 y hy
        rw [gFill_27, gFill_28, gFill_29, gFill_30]
        by_cases e2 : y = x
        · subst e2
          have : (decide (y < y + 1) && B y) = true := by simp [e]
          rw [if_pos this, pd_eq]
          exact ⟨rfl, fun z => absurd this z⟩
        · rw [pd_ne _ _ e2, pd_ne _ _ e2, pd_ne _ _ e2, pd_ne _ _ e2]
          have : (decide (y < x + 1) && B y) = (decide (y < x) && B y) := by
            congr 1
            have : y < x + 1 ↔ y < x := by omega
            simp [this]
          dsimp only at c1 c2 ⊢
          simp only [this]
          exact ⟨c1, c2⟩⟩
      refine ⟨k', g1, fun Q hQ => hge Q (fun _ => ⟨vp_in_nI hx48 (by decide), fun z => ?_, fun _ => ?_⟩)⟩
      · rw [h31, hB x hx48, if_pos e] at z
        exact absurd z (by decide)
      · refine vG_fill hx48 ?_
        rintro a4 rfl
        rw [nI_1]
        exact g2 Q hQ
    · obtain ⟨k', g1, g2⟩ := ih (x + 1) k (by omega) ⟨h1.1, fun y hy => by
        obtain ⟨c1, c2⟩ := h1.2 y hy
        have : (decide (y < x + 1) && B y) = (decide (y < x) && B y) := by
          by_cases e2 : y = x
          · subst e2
            simp [e]
          · congr 1
            have : y < x + 1 ↔ y < x := by omega
            simp [this]
        dsimp only at c1 c2 ⊢
        simp only [this]
        exact ⟨c1, c2⟩⟩
      refine ⟨k', g1, fun Q hQ => hge Q (fun _ => ⟨vp_in_nI hx48 (by decide), fun _ => ?_, fun z => ?_⟩)⟩
      · rintro a4 rfl
        rw [nI_1]
        exact g2 Q hQ
      · rw [h31, hB x hx48, if_neg e] at z
        exact absurd rfl z
theorem xG_revoke {k : mj_St} {rk : Nat → Nat} (hF : qF (k 27) (k 30) rk) {a : Nat} (ha : a < 48) : ∃ k', (∀ i, i < 27 ∨ 31 < i → k' i = k i) ∧ (∀ y, y < 48 → k' 27 y = (if qB (k 27) (k 30) y a = true then 0 else k 27 y) ∧ (¬ qB (k 27) (k 30) y a = true → k' 28 y = k 28 y ∧ k' 29 y = k 29 y ∧ k' 30 y = k 30 y)) ∧ ∀ Q : mj_St → Prop, Q k' → wG_revokeBelow (nI a) k Q := by
  obtain ⟨k1, g1, g2, g3⟩ := xG_mark_loop hF ha 48 0 k rfl (fun _ _ => rfl) (fun y hy => by omega)
  obtain ⟨k', f1, f2⟩ := xG_sweep_loop (k0 := k1) (B := fun y => qB (k 27) (k 30) y a) g2 48 0 k1 rfl ⟨fun _ _ => rfl, fun y hy => by simp⟩
  refine ⟨k', fun i hi => ?_, fun y hy => ?_, fun Q hQ => ⟨49, g3 Q ⟨49, f2 Q hQ⟩⟩⟩
  · rw [f1.1 i (by omega), g1 i (by omega)]
  · have := f1.2 y hy
    rw [g1 27 (by omega), g1 28 (by omega), g1 29 (by omega), g1 30 (by omega)] at this
    exact this
/-! the reference: leaf after leaf -/
theorem qcount_lt {l : List Nat} {p q : Nat → Bool} (h : ∀ x, x ∈ l → p x = true → q x = true) {y : Nat} (hy : y ∈ l) (h1 : q y = true) (h2 : ¬ p y = true) : l.countP p < l.countP q := by
  induction l with
  | nil => cases hy
  | cons a l ih =>
    have hle : l.countP p ≤ l.countP q := List.countP_mono_left (fun x hx => h x (List.mem_cons_of_mem _ hx))
    rw [List.countP_cons, List.countP_cons]
    rcases List.mem_cons.mp hy with rfl | hy
    · rw [if_neg h2, if_pos h1]
      omega
    · have := ih (fun x hx => h x (List.mem_cons_of_mem _ hx)) hy
      by_cases e : p a = true
      · rw [if_pos e, if_pos (h a List.mem_cons_self e)]
        omega
      · rw [if_neg e]
        omega
/-- some that were below went, and with each all that was below it -/
def qV (m0 : mj_St) (c : Nat) (S : Nat → Bool) (m : mj_St) : Prop := (∀ i, i ≠ 16 → i ≠ 19 → m i = m0 i) ∧ (∀ y, y < 48 → m 16 y = (if S y = true then 0 else m0 16 y) ∧ m 19 y = (if S y = true then -1 else m0 19 y)) ∧ (∀ y, y < 48 → S y = true → qB (m0 16) (m0 19) y c = true) ∧ ∀ y q, y < 48 → S q = true → qB (m0 16) (m0 19) y q = true → S y = true
theorem qV.up {m0 m : mj_St} {c : Nat} {S : Nat → Bool} {rk : Nat → Nat} (h : qV m0 c S m) (hF : qF (m0 16) (m0 19) rk) {y q : Nat} (hy : y < 48) (hk : ¬ m0 16 y = 0) (hS : ¬ S y = true) (hq : qU (m0 19) y = some q) : ¬ S q = true := by
  intro hq2
  apply hS
  refine h.2.2.2 y q hy hq2 (qB_true.mpr ⟨hk, ?_⟩)
  rw [hq, qA, if_pos rfl]
theorem qV.A {m0 m : mj_St} {c : Nat} {S : Nat → Bool} {rk : Nat → Nat} (h : qV m0 c S m) (hF : qF (m0 16) (m0 19) rk) (x : Nat) : ∀ (n q : Nat), q < 48 → ¬ m0 16 q = 0 → ¬ S q = true → qA (m 19) n (some q) x = qA (m0 19) n (some q) x := by
  intro n
  induction n with
  | zero => intro q _ _ _; rfl
  | succ n ih =>
    intro q hq hk hS
    have e1 : qU (m 19) q = qU (m0 19) q := by
      unfold qU
      rw [(h.2.1 q hq).2, if_neg hS]
    rw [qA, qA, e1]
    by_cases e : q = x
    · rw [if_pos e, if_pos e]
    · rw [if_neg e, if_neg e]
      rcases hF.up hq hk with g | ⟨q', g1, g2, -, g3, g4⟩
      · rw [g, qA_none, qA_none]
      · rw [g2]
        exact ih q' g1 g3 (h.up hF hq hk hS g2)
theorem qV.B {m0 m : mj_St} {c : Nat} {S : Nat → Bool} {rk : Nat → Nat} (h : qV m0 c S m) (hF : qF (m0 16) (m0 19) rk) {y : Nat} (hy : y < 48) (x : Nat) : qB (m 16) (m 19) y x = (!(S y) && qB (m0 16) (m0 19) y x) := by
  by_cases hS : S y = true
  · have : m 16 y = 0 := by rw [(h.2.1 y hy).1, if_pos hS]
    simp [qB, this, hS]
  · have e1 : m 16 y = m0 16 y := by rw [(h.2.1 y hy).1, if_neg hS]
    have e2 : qU (m 19) y = qU (m0 19) y := by
      unfold qU
      rw [(h.2.1 y hy).2, if_neg hS]
    unfold qB
    rw [e1, e2]
    by_cases hk : m0 16 y = 0
    · simp [hk]
    · have hS2 : S y = false := by simpa using hS
      rw [hS2]
      rcases hF.up hy hk with g | ⟨q', g1, g2, -, g3, g4⟩
      · rw [g, qA_none, qA_none]; simp
      · rw [g2, h.A hF x 48 q' g1 g3 (h.up hF hy hk hS g2)]
        simp
theorem qV.F {m0 m : mj_St} {c : Nat} {S : Nat → Bool} {rk : Nat → Nat} (h : qV m0 c S m) (hF : qF (m0 16) (m0 19) rk) : qF (m 16) (m 19) rk := by
  intro p hp hk
  have hS : ¬ S p = true := fun e => hk (by rw [(h.2.1 p hp).1, if_pos e])
  rw [(h.2.1 p hp).1, if_neg hS] at hk
  rw [(h.2.1 p hp).2, if_neg hS]
  rcases hF p hp hk with g | ⟨q, g1, g2, g3, g4⟩
  · exact Or.inl g
  · refine Or.inr ⟨q, g1, g2, ?_, g4⟩
    rw [(h.2.1 q g1).1, if_neg (h.up hF hp hk hS (qU_some g2 g1))]
    exact g3
def qLeaf (m0 : mj_St) (c : Nat) (S : Nat → Bool) (y : Nat) : Prop := qB (m0 16) (m0 19) y c = true ∧ ∀ p, p < 48 → qB (m0 16) (m0 19) p y = true → S p = true
theorem xM_pass_loop {m0 : mj_St} {rk : Nat → Nat} (hF : qF (m0 16) (m0 19) rk) (hR : qR rk) {c : Nat} (hc : c < 48) : ∀ (d x : Nat) (S : Nat → Bool) (m : mj_St), x + d = 48 → qV m0 c S m →
    ∃ S' m', qV m0 c S' m' ∧ (∀ y, S y = true → S' y = true) ∧ (∀ y, x ≤ y → y < 48 → qLeaf m0 c S y → S' y = true) ∧ ∀ (Q : mj_St → Prop) (K : Int32 → Int32 → mj_St → Prop), K (nI c) (nI (qC (m' 16) (m' 19) c 48)) m' → wM_revoke_12 (d + 1) (nI c) (nI x) m Q K := by
  intro d
  induction d with
  | zero =>
    intro x S m hx h
    obtain rfl : x = 48 := by omega
    refine ⟨S, m, h, fun _ z => z, fun y h1 h2 => by omega, fun Q K hK => ?_⟩
    rw [wM_revoke_12]
    exact ⟨fun _ => vM_countBelow (h.F hF) hR hc hK, fun q => absurd (show (48 : Int32) ≤ nI 48 from by decide) q⟩
  | succ d ih =>
    intro x S m hx h
    have hx48 : x < 48 := by omega
    have hv : vp_in (nI x) 48 := vp_in_nI hx48 (by decide)
    have hge : ∀ (Q : mj_St → Prop) (K : Int32 → Int32 → mj_St → Prop), ((m 16 x = 0 → wM_revoke_58 (nI c) (nI x) m Q K (fun x1_ x3_ k_ => wM_revoke_12 (d + 1) x1_ x3_ k_ Q K)) ∧ (¬ m 16 x = 0 → wM_descends (nI x) (nI c) m (fun a7 => ((a7 = 0) → wM_revoke_58 (nI c) (nI x) m Q K (fun x1_ x3_ k_ => wM_revoke_12 (d + 1) x1_ x3_ k_ Q K)) ∧ ((¬ a7 = 0) → wM_countBelow (nI x) m (fun a9 => ((¬ a9 = 0) → wM_revoke_58 (nI c) (nI x) m Q K (fun x1_ x3_ k_ => wM_revoke_12 (d + 1) x1_ x3_ k_ Q K)) ∧ ((a9 = 0) → vp_in (nI x) 48 ∧ (∀ k11 : mj_St, k11 = mj_up m 16 x 0 → (vp_in (nI x) 48 ∧ (∀ k12 : mj_St, k12 = mj_up k11 19 x (-1) → (wM_revoke_58 (nI c) (nI x) k12 Q K (fun x1_ x3_ k_ => wM_revoke_12 (d + 1) x1_ x3_ k_ Q K)))))))))))  → wM_revoke_12 (d + 1 + 1) (nI c) (nI x) m Q K := by
      intro Q K z
      rw [wM_revoke_12, nI_clamp (by omega)]
      refine ⟨fun q => ?_, fun _ => ⟨hv, z⟩⟩
      exfalso
      rw [show (48 : Int32) = nI 48 from rfl] at q
      exact nI_ge (by omega) (by decide) q
    have hBx := h.B hF hx48 c
    by_cases hrem : m 16 x = 0 ∨ ¬ qB (m0 16) (m0 19) x c = true ∨ ¬ qC (m 16) (m 19) x 48 = 0
    · -- x stays as it is
      obtain ⟨S', m', g1, g2, g3, g4⟩ := ih (x + 1) S m (by omega) h
      refine ⟨S', m', g1, g2, fun y h1 h2 h3 => ?_, fun Q K hK => ?_⟩
      · by_cases e : y = x
        · subst e
          rcases hrem with r | r | r
          · by_cases hS : S y = true
            · exact g2 y hS
            · rw [(h.2.1 y hx48).1, if_neg hS] at r
              exact absurd r (qB_true.mp h3.1).1
          · exact absurd h3.1 r
          · exfalso
            apply r
            unfold qC
            rw [List.countP_eq_zero]
            intro p hp
            have hp48 := List.mem_range.mp hp
            rw [h.B hF hp48 y]
            by_cases hb : qB (m0 16) (m0 19) p y = true
            · simp [h3.2 p hp48 hb]
            · simp [hb]
        · exact g3 y (by omega) h2 h3
      · have hnext : wM_revoke_58 (nI c) (nI x) m Q K (fun x1_ x3_ k_ => wM_revoke_12 (d + 1) x1_ x3_ k_ Q K) := by
          rintro a6 rfl
          rw [nI_1]
          exact g4 Q K hK
        refine hge Q K ⟨fun _ => hnext, fun hk => vM_descends (h.F hF) hR hx48 hk hc ?_⟩
        by_cases hb : qB (m 16) (m 19) x c = true
        · rw [if_pos hb]
          refine ⟨fun z => absurd z (by decide), fun _ => vM_countBelow (h.F hF) hR hx48 ⟨fun _ => hnext, fun z => ?_⟩⟩
          exfalso
          rcases hrem with r | r | r
          · exact hk r
          · rw [hBx, Bool.and_eq_true] at hb
            exact r hb.2
          · have := qC_le (m 16) (m 19) x 48
            rw [show (0 : Int32) = nI 0 from rfl, nI_eq (by omega) (by omega)] at z
            exact r z
        · rw [if_neg hb]
          exact ⟨fun _ => hnext, fun z => absurd rfl z⟩
    · -- x goes
      have r1 : ¬ m 16 x = 0 := fun z => hrem (Or.inl z)
      have r2 : qB (m0 16) (m0 19) x c = true := by
        by_cases z : qB (m0 16) (m0 19) x c = true
        · exact z
        · exact absurd (Or.inr (Or.inl z)) hrem
      have r3 : qC (m 16) (m 19) x 48 = 0 := by
        by_cases z : qC (m 16) (m 19) x 48 = 0
        · exact z
        · exact absurd (Or.inr (Or.inr z)) hrem
      have hS : ¬ S x = true := fun z => r1 (by rw [(h.2.1 x hx48).1, if_pos z])
      have h' : qV m0 c (fun y => S y || decide (y = x)) (mj_up (mj_up m 16 x 0) 19 x (-1)) := by
        refine ⟨fun i h1 h2 => by rw [pu_ne _ _ _ h2, pu_ne _ _ _ h1, h.1 i h1 h2], fun y hy => ?_, fun y hy hy2 => ?_, fun y q hy hq hb => ?_⟩
        · rw [pu_ne (i := 19) _ _ _ (show (16 : Nat) ≠ 19 by omega), pu_eq, pu_eq, pu_ne _ _ _ (show (19 : Nat) ≠ 16 by omega)]
          by_cases e : y = x
          · subst e
            rw [pd_eq, pd_eq]
            simp
          · rw [pd_ne _ _ e, pd_ne _ _ e]
            simp only [e, decide_false, Bool.or_false]
            exact h.2.1 y hy
        · by_cases e : y = x
          · rw [e]; exact r2
          · simp only [e, decide_false, Bool.or_false] at hy2
            exact h.2.2.1 y hy hy2
        · by_cases e : q = x
          · subst e
            have hz : S y = true := by
              unfold qC at r3
              rw [List.countP_eq_zero] at r3
              have := r3 y (List.mem_range.mpr hy)
              rw [h.B hF hy q, hb, Bool.and_true] at this
              simpa using this
            simp [hz]
          · simp only [e, decide_false, Bool.or_false] at hq
            have := h.2.2.2 y q hy hq hb
            simp [this]
      obtain ⟨S', m', g1, g2, g3, g4⟩ := ih (x + 1) _ _ (by omega) h'
      refine ⟨S', m', g1, fun y hy => g2 y (by simp [hy]), fun y h1 h2 h3 => ?_, fun Q K hK => ?_⟩
      · by_cases e : y = x
        · exact g2 y (by simp [e])
        · exact g3 y (by omega) h2 ⟨h3.1, fun p hp hb => by simp [h3.2 p hp hb]⟩
      · refine hge Q K ⟨fun z => absurd z r1, fun hk => vM_descends (h.F hF) hR hx48 hk hc ?_⟩
        have hb : qB (m 16) (m 19) x c = true := by
          rw [hBx, r2]
          simpa using hS
        rw [if_pos hb]
        refine ⟨fun z => absurd z (by decide), fun _ => vM_countBelow (h.F hF) hR hx48 ⟨fun z => absurd (by rw [r3]; rfl) z, fun _ => ⟨hv, ?_⟩⟩⟩
        rintro k11 rfl
        refine ⟨hv, ?_⟩
        rintro k12 rfl a6 rfl
        rw [nI_1]
        exact g4 Q K hK
theorem qLeaf_ex {m0 : mj_St} {rk : Nat → Nat} (hF : qF (m0 16) (m0 19) rk) (hR : qR rk) {c : Nat} {S : Nat → Bool} : ∀ (N y : Nat), y < 48 → 48 - rk y ≤ N → ¬ S y = true → qB (m0 16) (m0 19) y c = true → ∃ z, z < 48 ∧ ¬ S z = true ∧ qLeaf m0 c S z := by
  intro N
  induction N with
  | zero =>
    intro y hy h1
    have := hR y hy
    omega
  | succ N ih =>
    intro y hy h1 h2 h3
    by_cases h : ∃ p, p < 48 ∧ qB (m0 16) (m0 19) p y = true ∧ ¬ S p = true
    · obtain ⟨p, p1, p2, p3⟩ := h
      have hr := (qB_rank hF p1 p2).1
      have := hR p p1
      exact ih p p1 (by omega) p3 (qB_trans hF hR p1 p2 h3)
    · refine ⟨y, hy, h2, h3, fun p hp hb => ?_⟩
      by_cases z : S p = true
      · exact z
      · exact absurd ⟨p, hp, hb, z⟩ h
theorem xM_revoke_loop {m0 : mj_St} {rk : Nat → Nat} (hF : qF (m0 16) (m0 19) rk) (hR : qR rk) {c : Nat} (hc : c < 48) : ∀ (N : Nat) (S : Nat → Bool) (m : mj_St), qV m0 c S m → qC (m 16) (m 19) c 48 ≤ N →
    ∃ m', qV m0 c (fun y => qB (m0 16) (m0 19) y c) m' ∧ ∀ Q : mj_St → Prop, Q m' → wM_revoke_6 (N + 1) (nI c) (nI (qC (m 16) (m 19) c 48)) m Q := by
  intro N
  induction N with
  | zero =>
    intro S m h hN
    have h0 : qC (m 16) (m 19) c 48 = 0 := by omega
    refine ⟨m, ⟨h.1, fun y hy => ?_, fun y _ z => z, fun y q hy h1 h2 => ?_⟩, fun Q hQ => ?_⟩
    · have e : S y = qB (m0 16) (m0 19) y c := by
        unfold qC at h0
        rw [List.countP_eq_zero] at h0
        have := h0 y (List.mem_range.mpr hy)
        rw [h.B hF hy c] at this
        by_cases hb : qB (m0 16) (m0 19) y c = true
        · rw [hb, Bool.and_true] at this
          rw [hb]; simpa using this
        · by_cases hs : S y = true
          · exact absurd (h.2.2.1 y hy hs) hb
          · simp only [Bool.not_eq_true] at hb hs
            rw [hb, hs]
      simp only [← e]
      exact h.2.1 y hy
    · exact qB_trans hF hR hy h2 h1
    · rw [wM_revoke_6, h0]
      exact ⟨fun _ => hQ, fun z => absurd (show nI 0 ≤ 0 from by decide) z⟩
  | succ N ih =>
    intro S m h hN
    by_cases h0 : qC (m 16) (m 19) c 48 = 0
    · refine ⟨m, ⟨h.1, fun y hy => ?_, fun y _ z => z, fun y q hy h1 h2 => qB_trans hF hR hy h2 h1⟩, fun Q hQ => ?_⟩
      · have e : S y = qB (m0 16) (m0 19) y c := by
          unfold qC at h0
          rw [List.countP_eq_zero] at h0
          have := h0 y (List.mem_range.mpr hy)
          rw [h.B hF hy c] at this
          by_cases hb : qB (m0 16) (m0 19) y c = true
          · rw [hb, Bool.and_true] at this
            rw [hb]; simpa using this
          · by_cases hs : S y = true
            · exact absurd (h.2.2.1 y hy hs) hb
            · simp only [Bool.not_eq_true] at hb hs
              rw [hb, hs]
        simp only [← e]
        exact h.2.1 y hy
      · rw [wM_revoke_6, h0]
        exact ⟨fun _ => hQ, fun z => absurd (show nI 0 ≤ 0 from by decide) z⟩
    · obtain ⟨y0, hy0, hy1⟩ : ∃ y, y < 48 ∧ qB (m 16) (m 19) y c = true := by
        have : 0 < (List.range 48).countP (fun p => qB (m 16) (m 19) p c) := Nat.pos_of_ne_zero h0
        obtain ⟨y, h1, h2⟩ := List.countP_pos_iff.mp this
        exact ⟨y, List.mem_range.mp h1, h2⟩
      rw [h.B hF hy0 c, Bool.and_eq_true] at hy1
      obtain ⟨z, z1, z2, z3⟩ := qLeaf_ex (S := S) hF hR 48 y0 hy0 (by omega) (by simpa using hy1.1) hy1.2
      obtain ⟨S', m1, g1, g2, g3, g4⟩ := xM_pass_loop hF hR hc 48 0 S m rfl h
      have hlt : qC (m1 16) (m1 19) c 48 < qC (m 16) (m 19) c 48 := by
        refine qcount_lt (y := z) (fun x hx hp => ?_) (List.mem_range.mpr z1) ?_ ?_
        · have hx48 := List.mem_range.mp hx
          rw [g1.B hF hx48 c, Bool.and_eq_true] at hp
          rw [h.B hF hx48 c, hp.2, Bool.and_true]
          by_cases hs : S x = true
          · have := g2 x hs
            rw [this] at hp
            exact absurd hp.1 (by decide)
          · simpa using hs
        · rw [h.B hF z1 c, z3.1, Bool.and_true]
          simpa using z2
        · rw [g1.B hF z1 c, g3 z (by omega) z1 z3]
          simp
      obtain ⟨m', f1, f2⟩ := ih S' m1 g1 (by omega)
      refine ⟨m', f1, fun Q hQ => ?_⟩
      rw [wM_revoke_6]
      have hle := qC_le (m 16) (m 19) c 48
      refine ⟨fun w => ?_, fun _ => ⟨49, g4 Q _ (f2 Q hQ)⟩⟩
      exact absurd w (nI_nle (by omega) (by omega))
theorem xM_revoke {m : mj_St} {rk : Nat → Nat} (hF : qF (m 16) (m 19) rk) (hR : qR rk) {c : Nat} (hc : c < 48) : ∃ m', qV m c (fun y => qB (m 16) (m 19) y c) m' ∧ ∀ Q : mj_St → Prop, Q m' → wM_revoke (nI c) m Q := by
  obtain ⟨m', f1, f2⟩ := xM_revoke_loop hF hR hc (qC (m 16) (m 19) c 48) (fun _ => false) m ⟨fun _ _ _ => rfl, fun y hy => by simp, fun y _ z => by simp at z, fun y q _ z => by simp at z⟩ (Nat.le_refl _)
  exact ⟨m', f1, fun Q hQ => vM_countBelow hF hR hc ⟨_, f2 Q hQ⟩⟩
/-- the two revoke the same -/
theorem xRevoke {k m : mj_St} (h : pCp k m) {c : Nat} (hc : c < 48) : ∃ k' m', (∀ a, a < 27 ∨ 31 < a → k' a = k a) ∧ (∀ a, a ≠ 16 → a ≠ 19 → m' a = m a) ∧ (∀ p, p < 48 → m 16 p = 0 → m' 16 p = 0) ∧ pCp k' m' ∧ (∀ Q : mj_St → Prop, Q k' → wG_revokeBelow (nI c) k Q) ∧ (∀ Q : mj_St → Prop, Q m' → wM_revoke (nI c) m Q) := by
  obtain ⟨h1, rk, hF, hR⟩ := id h
  obtain ⟨k', a1, a2, a3⟩ := xG_revoke (h.E.F hF) hc
  obtain ⟨m', b1, b2⟩ := xM_revoke hF hR hc
  refine ⟨k', m', a1, b1.1, fun p hp hz => ?_, ⟨fun p hp => ?_, rk, b1.F hF, hR⟩, a3, b2⟩
  · rw [(b1.2.1 p hp).1]
    split
    · rfl
    · exact hz
  · obtain ⟨c1, c2, c3⟩ := h1 p hp
    have hB : qB (k 27) (k 30) p c = qB (m 16) (m 19) p c := h.E.B hF hp c
    obtain ⟨d1, d2⟩ := a2 p hp
    obtain ⟨d3, d4⟩ := b1.2.1 p hp
    replace d3 : m' 16 p = if qB (m 16) (m 19) p c = true then 0 else m 16 p := d3
    replace d4 : m' 19 p = if qB (m 16) (m 19) p c = true then -1 else m 19 p := d4
    rw [hB] at d1 d2
    rw [d1, d3]
    by_cases hb : qB (m 16) (m 19) p c = true
    · rw [if_pos hb, if_pos hb]
      exact ⟨rfl, Or.inl rfl, fun z => absurd rfl z⟩
    · rw [if_neg hb, if_neg hb]
      refine ⟨c1, c2, fun z => ?_⟩
      obtain ⟨e1, e2, e3⟩ := d2 hb
      obtain ⟨f1, f2, f3, f4⟩ := c3 z
      rw [if_neg hb] at d4
      rw [e1, e2, e3, d4, b1.1 17 (by omega) (by omega), b1.1 18 (by omega) (by omega)]
      exact ⟨f1, f2, f3, f4⟩

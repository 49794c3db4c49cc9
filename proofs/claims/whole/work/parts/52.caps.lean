/-! capabilities: a forest by parents -/
def qU (pa : Nat → Int32) (p : Nat) : Option Nat := if pa p = -1 then none else some (pa p).toNatClampNeg
def qA (pa : Nat → Int32) : Nat → Option Nat → Nat → Bool
  | 0, _, _ => false
  | _ + 1, none, _ => false
  | n + 1, some q, a => if q = a then true else qA pa n (qU pa q) a
/-- p is there, and a is above it -/
def qB (kd pa : Nat → Int32) (p a : Nat) : Bool := !(kd p == 0) && qA pa 48 (qU pa p) a
def qF (kd pa : Nat → Int32) (rk : Nat → Nat) : Prop := ∀ p, p < 48 → ¬ kd p = 0 → pa p = -1 ∨ ∃ q, q < 48 ∧ pa p = nI q ∧ ¬ kd q = 0 ∧ rk q < rk p
def qR (rk : Nat → Nat) : Prop := ∀ p, p < 48 → rk p < 48
theorem qF.norm {kd pa : Nat → Int32} {rk : Nat → Nat} (h : qF kd pa rk) : ∃ rk', qF kd pa rk' ∧ qR rk' := by
  refine ⟨fun p => (List.range 48).countP (fun q => decide (rk q < rk p)), fun p hp hk => ?_, fun p hp => ?_⟩
  · rcases h p hp hk with h1 | ⟨q, h1, h2, h3, h4⟩
    · exact Or.inl h1
    · refine Or.inr ⟨q, h1, h2, h3, ?_⟩
      have e : (List.range 48).countP (fun r => decide (rk r < rk q)) + (List.range 48).countP (fun r => decide (rk q ≤ rk r ∧ rk r < rk p)) = (List.range 48).countP (fun r => decide (rk r < rk p)) := by
        generalize List.range 48 = l
        induction l with
        | nil => rfl
        | cons a l ih =>
          simp only [List.countP_cons, decide_eq_true_eq]
          by_cases c1 : rk a < rk q
          · have c2 : rk a < rk p := by omega
            have c3 : ¬ (rk q ≤ rk a ∧ rk a < rk p) := by omega
            rw [if_pos c1, if_neg c3, if_pos c2]
            omega
          · by_cases c2 : rk a < rk p
            · have c3 : rk q ≤ rk a ∧ rk a < rk p := by omega
              rw [if_neg c1, if_pos c3, if_pos c2]
              omega
            · have c3 : ¬ (rk q ≤ rk a ∧ rk a < rk p) := by omega
              rw [if_neg c1, if_neg c3, if_neg c2]
              omega
      have : 0 < (List.range 48).countP (fun r => decide (rk q ≤ rk r ∧ rk r < rk p)) := by
        rw [List.countP_pos_iff]
        exact ⟨q, List.mem_range.mpr h1, by simp; omega⟩
      simp only
      omega
  · have h1 : (List.range 48).countP (fun q => decide (rk q < rk p)) ≠ (List.range 48).length := by
      intro e
      rw [List.countP_eq_length] at e
      have := e p (List.mem_range.mpr hp)
      simp at this
    have h2 := List.countP_le_length (p := fun q => decide (rk q < rk p)) (l := List.range 48)
    rw [List.length_range] at h1 h2
    simp only
    omega
theorem qU_none {pa : Nat → Int32} {p : Nat} (h : pa p = -1) : qU pa p = none := by simp [qU, h]
theorem qU_some {pa : Nat → Int32} {p q : Nat} (h : pa p = nI q) (hq : q < 48) : qU pa p = some q := by
  rw [qU, h, if_neg (pn_m1 (by omega)), nI_clamp (by omega)]
theorem qF.up {kd pa : Nat → Int32} {rk : Nat → Nat} (h : qF kd pa rk) {p : Nat} (hp : p < 48) (hk : ¬ kd p = 0) : qU pa p = none ∨ ∃ q, q < 48 ∧ qU pa p = some q ∧ pa p = nI q ∧ ¬ kd q = 0 ∧ rk q < rk p := by
  rcases h p hp hk with h1 | ⟨q, h1, h2, h3, h4⟩
  · exact Or.inl (qU_none h1)
  · exact Or.inr ⟨q, h1, qU_some h2 h1, h2, h3, h4⟩
theorem qA_none (pa : Nat → Int32) (n a : Nat) : qA pa n none a = false := by cases n <;> rfl
/-- fuel beyond the rank is all one -/
theorem qA_fuel {kd pa : Nat → Int32} {rk : Nat → Nat} (h : qF kd pa rk) (a : Nat) : ∀ (n n' q : Nat), q < 48 → ¬ kd q = 0 → rk q < n → rk q < n' → qA pa n (some q) a = qA pa n' (some q) a := by
  intro n
  induction n with
  | zero => intro n' q _ _ h1; omega
  | succ n ih =>
    intro n' q hq hk h1 h2
    obtain ⟨n', rfl⟩ : ∃ z, n' = z + 1 := ⟨n' - 1, by omega⟩
    rw [qA, qA]
    by_cases e : q = a
    · rw [if_pos e, if_pos e]
    · rw [if_neg e, if_neg e]
      rcases h.up hq hk with g | ⟨q', g1, g2, -, g3, g4⟩
      · rw [g, qA_none, qA_none]
      · rw [g2]
        exact ih n' q' g1 g3 (by omega) (by omega)
/-- what is above has a smaller rank, and is there -/
theorem qA_rank {kd pa : Nat → Int32} {rk : Nat → Nat} (h : qF kd pa rk) (a : Nat) : ∀ (n q : Nat), q < 48 → ¬ kd q = 0 → qA pa n (some q) a = true → rk a ≤ rk q ∧ ¬ kd a = 0 ∧ a < 48 := by
  intro n
  induction n with
  | zero => intro q _ _ h1; cases h1
  | succ n ih =>
    intro q hq hk h1
    rw [qA] at h1
    by_cases e : q = a
    · subst e
      exact ⟨Nat.le_refl _, hk, hq⟩
    · rw [if_neg e] at h1
      rcases h.up hq hk with g | ⟨q', g1, g2, -, g3, g4⟩
      · rw [g, qA_none] at h1; cases h1
      · rw [g2] at h1
        obtain ⟨r1, r2⟩ := ih q' g1 g3 h1
        exact ⟨by omega, r2⟩
theorem qA_trans {kd pa : Nat → Int32} {rk : Nat → Nat} (h : qF kd pa rk) (hr : qR rk) (a b : Nat) : ∀ (n q : Nat), q < 48 → ¬ kd q = 0 → rk q < n → qA pa n (some q) b = true → qA pa 48 (qU pa b) a = true → qA pa n (some q) a = true := by
  intro n
  induction n with
  | zero => intro q _ _ h1; omega
  | succ n ih =>
    intro q hq hk hn h1 h2
    rw [qA] at h1 ⊢
    by_cases ea : q = a
    · rw [if_pos ea]
    · rw [if_neg ea]
      by_cases e : q = b
      · subst e
        rcases h.up hq hk with g | ⟨q', g1, g2, -, g3, g4⟩
        · rw [g, qA_none] at h2; cases h2
        · rw [g2] at h2 ⊢
          have := hr q' g1
          rw [qA_fuel h a n 48 q' g1 g3 (by omega) (by omega)]
          exact h2
      · rw [if_neg e] at h1
        rcases h.up hq hk with g | ⟨q', g1, g2, -, g3, g4⟩
        · rw [g, qA_none] at h1; cases h1
        · rw [g2] at h1 ⊢
          exact ih q' g1 g3 (by omega) h1 h2
theorem qB_true {kd pa : Nat → Int32} {p a : Nat} : qB kd pa p a = true ↔ ¬ kd p = 0 ∧ qA pa 48 (qU pa p) a = true := by
  simp [qB]
theorem qB_rank {kd pa : Nat → Int32} {rk : Nat → Nat} (h : qF kd pa rk) {p a : Nat} (hp : p < 48) (hb : qB kd pa p a = true) : rk a < rk p ∧ ¬ kd a = 0 ∧ a < 48 := by
  obtain ⟨hk, h1⟩ := qB_true.mp hb
  rcases h.up hp hk with g | ⟨q', g1, g2, -, g3, g4⟩
  · rw [g, qA_none] at h1; cases h1
  · rw [g2] at h1
    obtain ⟨r1, r2, r3⟩ := qA_rank h a 48 q' g1 g3 h1
    exact ⟨by omega, r2, r3⟩
theorem qB_trans {kd pa : Nat → Int32} {rk : Nat → Nat} (h : qF kd pa rk) (hr : qR rk) {p b a : Nat} (hp : p < 48) (h1 : qB kd pa p b = true) (h2 : qB kd pa b a = true) : qB kd pa p a = true := by
  obtain ⟨hk, h3⟩ := qB_true.mp h1
  obtain ⟨-, h4⟩ := qB_true.mp h2
  refine qB_true.mpr ⟨hk, ?_⟩
  rcases h.up hp hk with g | ⟨q', g1, g2, -, g3, g4⟩
  · rw [g, qA_none] at h3; cases h3
  · rw [g2] at h3 ⊢
    exact qA_trans h hr a b 48 q' g1 g3 (hr q' g1) h3 h4
/-- two states that agree on what is there and its parents -/
def qE (kd pa kd' pa' : Nat → Int32) : Prop := ∀ p, p < 48 → kd' p = kd p ∧ (¬ kd p = 0 → pa' p = pa p)
theorem qE.U {kd pa kd' pa' : Nat → Int32} (h : qE kd pa kd' pa') {p : Nat} (hp : p < 48) (hk : ¬ kd p = 0) : qU pa' p = qU pa p := by
  simp [qU, (h p hp).2 hk]
theorem qE.F {kd pa kd' pa' : Nat → Int32} {rk : Nat → Nat} (h : qE kd pa kd' pa') (hF : qF kd pa rk) : qF kd' pa' rk := by
  intro p hp hk
  rw [(h p hp).1] at hk
  rw [(h p hp).2 hk]
  rcases hF p hp hk with h1 | ⟨q, h1, h2, h3, h4⟩
  · exact Or.inl h1
  · exact Or.inr ⟨q, h1, h2, by rw [(h q h1).1]; exact h3, h4⟩
theorem qE.A {kd pa kd' pa' : Nat → Int32} {rk : Nat → Nat} (h : qE kd pa kd' pa') (hF : qF kd pa rk) (a : Nat) : ∀ (n q : Nat), q < 48 → ¬ kd q = 0 → qA pa' n (some q) a = qA pa n (some q) a := by
  intro n
  induction n with
  | zero => intro q _ _; rfl
  | succ n ih =>
    intro q hq hk
    rw [qA, qA, h.U hq hk]
    by_cases e : q = a
    · rw [if_pos e, if_pos e]
    · rw [if_neg e, if_neg e]
      rcases hF.up hq hk with g | ⟨q', g1, g2, -, g3, g4⟩
      · rw [g, qA_none, qA_none]
      · rw [g2]; exact ih q' g1 g3
theorem qE.B {kd pa kd' pa' : Nat → Int32} {rk : Nat → Nat} (h : qE kd pa kd' pa') (hF : qF kd pa rk) {p : Nat} (hp : p < 48) (a : Nat) : qB kd' pa' p a = qB kd pa p a := by
  unfold qB
  rw [(h p hp).1]
  by_cases hk : kd p = 0
  · simp [hk]
  · rw [h.U hp hk]
    rcases hF.up hp hk with g | ⟨q', g1, g2, -, g3, g4⟩
    · rw [g, qA_none, qA_none]
    · rw [g2, h.A hF a 48 q' g1 g3]
/-! the class: isBelow, countBelow -/
theorem vG_holds {p : Nat} {k : mj_St} {Q : Int32 → Prop} (hp : p < 48) (h1 : ¬ k 27 p = 0 → Q 1) (h0 : k 27 p = 0 → Q 0) : wG_holds (nI p) k Q := by
  unfold wG_holds
  rw [nI_clamp (by omega)]
  exact ⟨vp_in_nI hp (by decide), h0, h1⟩
theorem vG_below_loop {k : mj_St} {rk : Nat → Nat} (hF : qF (k 27) (k 30) rk) {a : Nat} (ha : a < 48) {Q : Int32 → Prop} : ∀ (d l : Nat) (c : Option Nat) (x : Int32), l + d = 48 → (c = none ∧ x = -1 ∨ ∃ q, q < 48 ∧ c = some q ∧ x = nI q ∧ ¬ k 27 q = 0) → Q (if qA (k 30) d c a = true then 1 else 0) → wG_isBelow_22 (d + 1) (nI a) x (nI l) k Q := by
  intro d
  induction d with
  | zero =>
    intro l c x hl hc hQ
    rw [wG_isBelow_22]
    obtain rfl : l = 48 := by omega
    refine ⟨fun _ => ?_, fun q => absurd (show (48 : Int32) ≤ nI 48 from by decide) q⟩
    have : qA (k 30) 0 c a = false := rfl
    rw [this] at hQ
    exact hQ
  | succ d ih =>
    intro l c x hl hc hQ
    rw [wG_isBelow_22]
    refine ⟨fun q => ?_, fun _ => ?_⟩
    · exfalso
      rw [show (48 : Int32) = nI 48 from rfl] at q
      exact nI_ge (by omega) (by decide) q
    rcases hc with ⟨rfl, rfl⟩ | ⟨q, h1, rfl, rfl, h4⟩
    · rw [qA_none] at hQ
      exact ⟨fun _ => hQ, fun z => absurd rfl z⟩
    · refine ⟨fun z => absurd z (pn_m1 (by omega)), fun _ => ⟨fun z => ?_, fun z => ?_⟩⟩
      · refine ⟨vp_in_nI h1 (by decide), ?_⟩
        rintro a6 rfl a7 rfl
        rw [nI_1, nI_clamp (by omega)]
        have hne : ¬ q = a := fun e => z (by rw [e])
        rw [qA, if_neg hne] at hQ
        rcases hF.up h1 h4 with g | ⟨q', g1, g2, g5, g3, g4⟩
        · rw [g] at hQ
          refine ih (l + 1) none _ (by omega) (Or.inl ⟨rfl, ?_⟩) hQ
          unfold qU at g
          by_cases e : k 30 q = -1
          · exact e
          · rw [if_neg e] at g; cases g
        · rw [g2] at hQ
          exact ih (l + 1) (some q') _ (by omega) (Or.inr ⟨q', g1, rfl, g5, g3⟩) hQ
      · have e : q = a := (nI_eq (by omega) (by omega)).mp z
        rw [qA, if_pos e] at hQ
        exact hQ
theorem vG_isBelow {k : mj_St} {rk : Nat → Nat} (hF : qF (k 27) (k 30) rk) {p a : Nat} (hp : p < 48) (ha : a < 48) {Q : Int32 → Prop} (hQ : Q (if qB (k 27) (k 30) p a = true then 1 else 0)) : wG_isBelow (nI p) (nI a) k Q := by
  refine vG_holds hp (fun hk => ?_) (fun hk => ?_)
  · refine ⟨fun z => absurd z (by decide), fun _ => ⟨vp_in_nI hp (by decide), 49, ?_⟩⟩
    rw [nI_clamp (by omega)]
    have e : qB (k 27) (k 30) p a = qA (k 30) 48 (qU (k 30) p) a := by simp [qB, hk]
    rw [e] at hQ
    rcases hF.up hp hk with g | ⟨q', g1, g2, g5, g3, g4⟩
    · refine vG_below_loop hF ha 48 0 none _ rfl (Or.inl ⟨rfl, ?_⟩) (by rw [← g]; exact hQ)
      unfold qU at g
      by_cases e : k 30 p = -1
      · exact e
      · rw [if_neg e] at g; cases g
    · exact vG_below_loop hF ha 48 0 (some q') _ rfl (Or.inr ⟨q', g1, rfl, g5, g3⟩) (by rw [← g2]; exact hQ)
  · have e : qB (k 27) (k 30) p a = false := by simp [qB, hk]
    rw [e] at hQ
    refine ⟨fun _ => ⟨49, ?_⟩, fun z => absurd rfl z⟩
    exact vG_below_loop hF ha 48 0 none (-1) rfl (Or.inl ⟨rfl, rfl⟩) (by rw [qA_none]; exact hQ)
def qC (kd pa : Nat → Int32) (a n : Nat) : Nat := (List.range n).countP (fun p => qB kd pa p a)
theorem qC_s (kd pa : Nat → Int32) (a n : Nat) : qC kd pa a (n + 1) = qC kd pa a n + if qB kd pa n a then 1 else 0 := by
  unfold qC
  rw [List.range_succ, List.countP_append]
  simp [List.countP_cons]
theorem qC_le (kd pa : Nat → Int32) (a n : Nat) : qC kd pa a n ≤ n := by
  have := List.countP_le_length (p := fun p => qB kd pa p a) (l := List.range n)
  rw [List.length_range] at this
  exact this
theorem vG_count_loop {k : mj_St} {rk : Nat → Nat} (hF : qF (k 27) (k 30) rk) {a : Nat} (ha : a < 48) {Q : Int32 → Prop} (hQ : Q (nI (qC (k 27) (k 30) a 48))) : ∀ (d p : Nat), p + d = 48 → wG_countBelow_4 (d + 1) (nI a) (nI (qC (k 27) (k 30) a p)) (nI p) k Q := by
  intro d
  induction d with
  | zero =>
    intro p hp
    obtain rfl : p = 48 := by omega
    rw [wG_countBelow_4]
    exact ⟨fun _ => hQ, fun q => absurd (show (48 : Int32) ≤ nI 48 from by decide) q⟩
  | succ d ih =>
    intro p hp
    rw [wG_countBelow_4]
    refine ⟨fun q => ?_, fun _ => ?_⟩
    · exfalso
      rw [show (48 : Int32) = nI 48 from rfl] at q
      exact nI_ge (by omega) (by decide) q
    · refine vG_isBelow hF (by omega) ha ?_
      by_cases hb : qB (k 27) (k 30) p a = true
      · rw [if_pos hb]
        refine ⟨fun z => absurd z (by decide), fun _ => ?_⟩
        rintro a5 rfl a4 rfl
        rw [nI_1, nI_1]
        have e : qC (k 27) (k 30) a p + 1 = qC (k 27) (k 30) a (p + 1) := by rw [qC_s, if_pos hb]
        rw [e]
        exact ih (p + 1) (by omega)
      · rw [if_neg hb]
        refine ⟨fun _ => ?_, fun z => absurd rfl z⟩
        rintro a4 rfl
        rw [nI_1]
        have e : qC (k 27) (k 30) a p = qC (k 27) (k 30) a (p + 1) := by rw [qC_s, if_neg hb]; rfl
        rw [e]
        exact ih (p + 1) (by omega)
theorem vG_countBelow {k : mj_St} {rk : Nat → Nat} (hF : qF (k 27) (k 30) rk) {a : Nat} (ha : a < 48) {Q : Int32 → Prop} (hQ : Q (nI (qC (k 27) (k 30) a 48))) : wG_countBelow (nI a) k Q :=
  ⟨49, vG_count_loop hF ha hQ 48 0 rfl⟩
/-! the reference: descends, countBelow -/
theorem vM_desc_loop {m : mj_St} {rk : Nat → Nat} (hF : qF (m 16) (m 19) rk) {p a : Nat} (hp : p < 48) (hk : ¬ m 16 p = 0) (ha : a < 48) {Q : Int32 → Prop} : ∀ (d q : Nat), q < 48 → ¬ m 16 q = 0 → rk q < d → Q (if qA (m 19) d (some q) a = true then 1 else 0) → wM_descends_7 (d + 1) (nI p) (nI a) (nI q) m Q := by
  have hend : ∀ x : Int32, (x = nI a → Q 1) → (¬ x = nI a → Q 0) → wM_descends_26 (nI p) (nI a) x m Q := by
    intro x h1 h2
    unfold wM_descends_26
    rw [nI_clamp (by omega)]
    exact ⟨vp_in_nI hp (by decide), fun z => absurd z hk, fun _ => ⟨h2, h1⟩⟩
  intro d
  induction d with
  | zero => intro q _ _ h; omega
  | succ d ih =>
    intro q hq hkq hr hQ
    rw [wM_descends_7]
    refine ⟨fun z => absurd z (nI_pos (by omega)), fun _ => ⟨fun z => ?_, fun z => ?_⟩⟩
    · have e : q = a := (nI_eq (by omega) (by omega)).mp z
      rw [qA, if_pos e] at hQ
      exact hend _ (fun _ => hQ) (fun w => absurd z w)
    · have hne : ¬ q = a := fun e => z (by rw [e])
      rw [qA, if_neg hne] at hQ
      refine ⟨vp_in_nI hq (by decide), ?_⟩
      rintro a6 rfl
      rw [nI_clamp (by omega)]
      rcases hF.up hq hkq with g | ⟨q', g1, g2, g5, g3, g4⟩
      · rw [g, qA_none] at hQ
        have e : m 19 q = -1 := by
          unfold qU at g
          by_cases e : m 19 q = -1
          · exact e
          · rw [if_neg e] at g; cases g
        rw [e]
        rw [wM_descends_7]
        refine ⟨fun _ => hend _ (fun w => absurd w.symm (pn_m1 (by omega))) (fun _ => hQ), fun w => absurd pn_m1lt w⟩
      · rw [g2] at hQ
        rw [g5]
        exact ih q' g1 g3 (by omega) hQ
theorem vM_descends {m : mj_St} {rk : Nat → Nat} (hF : qF (m 16) (m 19) rk) (hr : qR rk) {p a : Nat} (hp : p < 48) (hk : ¬ m 16 p = 0) (ha : a < 48) {Q : Int32 → Prop} (hQ : Q (if qB (m 16) (m 19) p a = true then 1 else 0)) : wM_descends (nI p) (nI a) m Q := by
  refine ⟨vp_in_nI hp (by decide), ?_⟩
  rintro a1 rfl
  rw [nI_clamp (by omega)]
  have e : qB (m 16) (m 19) p a = qA (m 19) 48 (qU (m 19) p) a := by simp [qB, hk]
  rw [e] at hQ
  rcases hF.up hp hk with g | ⟨q', g1, g2, g5, g3, g4⟩
  · rw [g, qA_none] at hQ
    have e : m 19 p = -1 := by
      unfold qU at g
      by_cases e : m 19 p = -1
      · exact e
      · rw [if_neg e] at g; cases g
    refine ⟨1, ?_⟩
    rw [e, wM_descends_7]
    refine ⟨fun _ => ?_, fun w => absurd pn_m1lt w⟩
    unfold wM_descends_26
    rw [nI_clamp (by omega)]
    exact ⟨vp_in_nI hp (by decide), fun z => absurd z hk, fun _ => ⟨fun _ => hQ, fun w => absurd w.symm (pn_m1 (by omega))⟩⟩
  · rw [g2] at hQ
    rw [g5]
    exact ⟨49, vM_desc_loop hF hp hk ha 48 q' g1 g3 (hr q' g1) hQ⟩
theorem vM_count_loop {m : mj_St} {rk : Nat → Nat} (hF : qF (m 16) (m 19) rk) (hr : qR rk) {a : Nat} (ha : a < 48) {Q : Int32 → Prop} (hQ : Q (nI (qC (m 16) (m 19) a 48))) : ∀ (d p : Nat), p + d = 48 → wM_countBelow_4 (d + 1) (nI a) (nI (qC (m 16) (m 19) a p)) (nI p) m Q := by
  intro d
  induction d with
  | zero =>
    intro p hp
    obtain rfl : p = 48 := by omega
    rw [wM_countBelow_4]
    exact ⟨fun _ => hQ, fun q => absurd (show (48 : Int32) ≤ nI 48 from by decide) q⟩
  | succ d ih =>
    intro p hp
    rw [wM_countBelow_4]
    refine ⟨fun q => ?_, fun _ => ?_⟩
    · exfalso
      rw [show (48 : Int32) = nI 48 from rfl] at q
      exact nI_ge (by omega) (by decide) q
    · have hsame : ¬ qB (m 16) (m 19) p a = true → wM_countBelow_34 (nI a) (nI (qC (m 16) (m 19) a p)) (nI p) m Q (fun x1_ x2_ x3_ => wM_countBelow_4 (d + 1) x1_ x2_ x3_ m Q) := by
        intro hb
        rintro a3 rfl
        rw [nI_1]
        have e : qC (m 16) (m 19) a p = qC (m 16) (m 19) a (p + 1) := by rw [qC_s, if_neg hb]; rfl
        rw [e]
        exact ih (p + 1) (by omega)
      refine ⟨vp_in_nI (by omega) (by decide), ?_⟩
      rw [nI_clamp (by omega)]
      refine ⟨fun hk => hsame (by simp [qB, hk]), fun hk => vM_descends hF hr (by omega) hk ha ?_⟩
      by_cases hb : qB (m 16) (m 19) p a = true
      · rw [if_pos hb]
        refine ⟨fun z => absurd z (by decide), fun _ => ?_⟩
        rintro a4 rfl
        rw [nI_1, nI_1]
        have e : qC (m 16) (m 19) a p + 1 = qC (m 16) (m 19) a (p + 1) := by rw [qC_s, if_pos hb]
        rw [e]
        exact ih (p + 1) (by omega)
      · rw [if_neg hb]
        exact ⟨fun _ => hsame hb, fun z => absurd rfl z⟩
theorem vM_countBelow {m : mj_St} {rk : Nat → Nat} (hF : qF (m 16) (m 19) rk) (hr : qR rk) {a : Nat} (ha : a < 48) {Q : Int32 → Prop} (hQ : Q (nI (qC (m 16) (m 19) a 48))) : wM_countBelow (nI a) m Q :=
  ⟨49, vM_count_loop hF hr ha hQ 48 0 rfl⟩
theorem qE.C {kd pa kd' pa' : Nat → Int32} {rk : Nat → Nat} (h : qE kd pa kd' pa') (hF : qF kd pa rk) (a n : Nat) (hn : n ≤ 48) : qC kd' pa' a n = qC kd pa a n := by
  unfold qC
  apply List.countP_congr
  intro p hp
  rw [h.B hF (by have := List.mem_range.mp hp; omega) a]

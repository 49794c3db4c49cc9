/-! numbers: Int32 by their places; what a state's cell holds after a write -/
theorem pn_lit (n : Nat) : (OfNat.ofNat n : Int32) = nI n := rfl
theorem pn_in {j n : Nat} (hn : n < 2 ^ 31) (hj : j < 2 ^ 31) : vp_in (nI j) n ↔ j < n := by
  rw [vp_in_iff, nI_toInt hj]
  omega
theorem pn_m1 {j : Nat} (hj : j < 2 ^ 31) : ¬ nI j = -1 := by
  intro h
  have h2 := congrArg Int32.toInt h
  rw [nI_toInt hj] at h2
  have : (-1 : Int32).toInt = -1 := by decide
  omega
theorem pn_neg {j : Nat} (hj : j < 2 ^ 31) : ¬ nI j < 0 := nI_pos hj
theorem pn_m1lt : (-1 : Int32) < 0 := by decide
/-- an int against a count: below 0, at or above it, or a place -/
theorem pn_rng (x : Int32) (n : Nat) (hn : n < 2 ^ 31) : x < 0 ∨ nI n ≤ x ∨ ∃ j, j < n ∧ x = nI j := pk_ix x hn
theorem pu_eq (k : mj_St) (i j : Nat) (v : Int32) : mj_up k i j v i = upd (k i) j v := by simp [mj_up]
theorem pu_ne (k : mj_St) {i a : Nat} (j : Nat) (v : Int32) (h : a ≠ i) : mj_up k i j v a = k a := by simp [mj_up, h]
theorem pd_eq (f : Nat → Int32) (j : Nat) (v : Int32) : upd f j v j = v := by simp [upd]
theorem pd_ne (f : Nat → Int32) {j b : Nat} (v : Int32) (h : b ≠ j) : upd f j v b = f b := by simp [upd, h]
theorem pu_at (k : mj_St) (i j : Nat) (v : Int32) (a b : Nat) : mj_up k i j v a b = if a = i ∧ b = j then v else k a b := by
  by_cases h : a = i
  · subst h
    by_cases h2 : b = j
    · simp [mj_up, upd, h2]
    · simp [mj_up, upd, h2]
  · simp [mj_up, h]
theorem pn_slot {t s : Nat} : 8 * nI t + nI s = nI (8 * t + s) := by
  rw [show (8 : Int32) = nI 8 from rfl, pk_mul, nI_add]
/-- the parts of an instruction's word -/
def fdA (w : Int32) : Int32 := (w >>> (5 &&& 31)) &&& 7
def fdB (w : Int32) : Int32 := (w >>> (8 &&& 31)) &&& 7
def fdC (w : Int32) : Int32 := (w >>> (11 &&& 31)) &&& 7
def fdN (w : Int32) : Int32 := w >>> (14 &&& 31)
def fdO (w : Int32) : Int32 := w &&& 31
theorem fdA_of (w : Int32) : ∃ j, j < 8 ∧ fdA w = nI j := pk_andE _ 3 (by decide)
theorem fdB_of (w : Int32) : ∃ j, j < 8 ∧ fdB w = nI j := pk_andE _ 3 (by decide)
theorem fdC_of (w : Int32) : ∃ j, j < 8 ∧ fdC w = nI j := pk_andE _ 3 (by decide)
theorem fdO_of (w : Int32) : ∃ j, j < 32 ∧ fdO w = nI j := pk_andE _ 5 (by decide)
theorem fd_odd (x : Int32) : ¬ (x &&& 1) = 1 ↔ (x &&& 1) = 0 := by
  obtain ⟨j, hj, e⟩ := pk_andE x (m := 1) 1 (by decide)
  rw [e]
  have h2 : j = 0 ∨ j = 1 := by omega
  rcases h2 with rfl | rfl <;> decide
/-! the class's small functions, at once -/
theorem vK_isBetween {x lo hi : Int32} {Q : Int32 → Prop} (h1 : ¬ x < lo → ¬ hi < x → Q 1) (h0 : (x < lo ∨ hi < x) → Q 0) : wK_isBetween x lo hi Q :=
  ⟨fun a => h0 (Or.inl a), fun a => ⟨fun b => h0 (Or.inr b), fun b => h1 a b⟩⟩
theorem vK_between {x lo hi : Int32} {A B : Prop} (h1 : ¬ x < lo → ¬ hi < x → B) (h0 : (x < lo ∨ hi < x) → A) : wK_isBetween x lo hi (fun a => (a = 0 → A) ∧ (¬ a = 0 → B)) :=
  vK_isBetween (fun a b => ⟨fun q => absurd q (by decide), fun _ => h1 a b⟩) (fun a => ⟨fun _ => h0 a, fun q => absurd rfl q⟩)
theorem vK_between' {x lo hi : Int32} {A B : Prop} (h1 : ¬ x < lo → ¬ hi < x → B) (h0 : (x < lo ∨ hi < x) → A) : wK_isBetween x lo hi (fun a => (¬ a = 0 → B) ∧ (a = 0 → A)) :=
  vK_isBetween (fun a b => ⟨fun _ => h1 a b, fun q => absurd q (by decide)⟩) (fun a => ⟨fun q => absurd rfl q, fun _ => h0 a⟩)
/-- in a row of n places, asked as the class does -/
theorem pn_btw {x : Int32} {n : Nat} {hi : Int32} (h : hi = nI (n - 1)) (h0 : 0 < n) (hn : n < 2 ^ 31) (a : ¬ x < 0) (b : ¬ hi < x) : ∃ j, j < n ∧ x = nI j := by
  rcases pn_rng x n hn with q | q | q
  · exact absurd q a
  · exfalso
    apply b
    rw [h]
    rw [Int32.le_iff_toInt_le, nI_toInt hn] at q
    rw [Int32.lt_iff_toInt_lt, nI_toInt (by omega)]
    omega
  · exact q
theorem pn_nbtw {x : Int32} {n : Nat} {hi : Int32} (h : hi = nI (n - 1)) (h0 : 0 < n) (hn : n < 2 ^ 31) (a : x < 0 ∨ hi < x) : ∀ j, j < n → x ≠ nI j := by
  intro j hj e
  subst e
  rcases a with a | a
  · exact nI_pos (by omega) a
  · rw [h] at a
    exact nI_nlt (by omega) (by omega) a

/-! what ties the class's state to the reference's -/
def pQn (k m : mj_St) : Prop := k 0 0 = m 0 0 ∧ ∃ q, 1 ≤ q ∧ q ≤ 8 ∧ m 0 0 = nI q
def pMe (k m : mj_St) : Prop := ∀ a, a < 128 → k 1 a = m 1 a
def pRg (k m : mj_St) : Prop := ∀ u r, u < 6 → r < 8 → k (3 + u + 6) r = m 8 (8 * u + r)
def pT1 (k m : mj_St) (u : Nat) : Prop := k (3 + u) 1 = m 2 u ∧ k (3 + u) 3 = m 4 u ∧ k (3 + u) 4 = m 5 u ∧ k (3 + u) 5 = m 6 u ∧ (∃ b n, m 5 u = nI b ∧ m 6 u = nI n ∧ b + n ≤ 128) ∧
  (m 2 u = 5 → k (3 + u) 2 = m 3 u) ∧ (¬ m 2 u = 5 → k (3 + u) 2 = 0) ∧ (¬ m 2 u = 0 → k (3 + u) 6 = m 7 u) ∧
  ((m 2 u = 2 ∨ m 2 u = 3 ∨ m 2 u = 4) → m 11 u = fdB (k (3 + u) 7) ∧ m 12 u = fdC (k (3 + u) 7)) ∧
  (m 2 u = 2 → (m 13 u = 0 ↔ (fdN (k (3 + u) 7) &&& 1) = 0) ∧ m 14 u = k (3 + u) 8 ∧ (m 15 u = 0 ↔ ¬ fdO (k (3 + u) 7) = 16))
def pTh (k m : mj_St) : Prop := ∀ u, u < 6 → pT1 k m u
/-- whom one must answer: he waits for it, and for nobody else -/
def pCl (m : mj_St) : Prop := (∀ u, u < 6 → ¬ m 2 u = 0 → m 7 u = -1 ∨ ∃ c, c < 6 ∧ m 7 u = nI c ∧ m 2 c = 3) ∧ ∀ u v, u < 6 → v < 6 → ¬ m 2 u = 0 → ¬ m 2 v = 0 → m 7 u = m 7 v → ¬ m 7 u = -1 → u = v
def pFr (m : mj_St) : Prop := ∀ u s, u < 6 → s < 8 → m 2 u = 0 → m 16 (8 * u + s) = 0
def pTp (k m : mj_St) (N : Nat) : Prop := ∃ n, n ≤ N ∧ k 32 1 = nI n ∧ m 0 22 = nI n ∧ ∀ i, i < 16 → k 33 i = m 20 i
def pLn (k : mj_St) (l : List Nat) (el : Nat → List Nat) : Prop := pL k 15 l ∧ ∀ e, e < 4 → pL k (16 + e) (el e)
def pTk (m : mj_St) (N : Nat) : Prop := ∃ d, d ≤ N ∧ m 0 11 = nI d ∧ ∀ u, u < 6 → (m 2 u = 1 ∨ m 2 u = 2 ∨ m 2 u = 4) → ∃ j, j < d ∧ m 9 u = nI j
/-- the ready ones but t, and t ahead of them if it is ready -/
def pMid (m : mj_St) (t : Nat) (tl : List Nat) : Prop := (∀ u, u ∈ tl ↔ u < 6 ∧ u ≠ t ∧ m 2 u = 1) ∧ tl.Pairwise (fun a b => m 9 a < m 9 b) ∧ (m 2 t = 1 → ∀ u, u ∈ tl → m 9 t < m 9 u)
def pEp (m : mj_St) (el : Nat → List Nat) : Prop := ∀ e, e < 4 → pRow m (nI e) (el e)
theorem pT1.of {k m k' m' : mj_St} {u : Nat} (h : pT1 k m u) (hk : k' (3 + u) = k (3 + u)) (h2 : m' 2 u = m 2 u) (h3 : m' 3 u = m 3 u) (h4 : m' 4 u = m 4 u) (h5 : m' 5 u = m 5 u) (h6 : m' 6 u = m 6 u) (h7 : m' 7 u = m 7 u) (h11 : m' 11 u = m 11 u) (h12 : m' 12 u = m 12 u) (h13 : m' 13 u = m 13 u) (h14 : m' 14 u = m 14 u) (h15 : m' 15 u = m 15 u) : pT1 k' m' u := by
  unfold pT1
  rw [hk, h2, h3, h4, h5, h6, h7, h11, h12, h13, h14, h15]
  exact h
theorem pTh.of {k m k' m' : mj_St} (h : pTh k m) (hk : ∀ u, u < 6 → k' (3 + u) = k (3 + u)) (hm : ∀ i, 2 ≤ i → i ≤ 15 → i ≠ 8 → i ≠ 9 → i ≠ 10 → m' i = m i) : pTh k' m' := fun u hu => (h u hu).of (hk u hu) (by rw [hm 2 (by omega) (by omega) (by omega) (by omega) (by omega)]) (by rw [hm 3 (by omega) (by omega) (by omega) (by omega) (by omega)]) (by rw [hm 4 (by omega) (by omega) (by omega) (by omega) (by omega)]) (by rw [hm 5 (by omega) (by omega) (by omega) (by omega) (by omega)]) (by rw [hm 6 (by omega) (by omega) (by omega) (by omega) (by omega)]) (by rw [hm 7 (by omega) (by omega) (by omega) (by omega) (by omega)]) (by rw [hm 11 (by omega) (by omega) (by omega) (by omega) (by omega)]) (by rw [hm 12 (by omega) (by omega) (by omega) (by omega) (by omega)]) (by rw [hm 13 (by omega) (by omega) (by omega) (by omega) (by omega)]) (by rw [hm 14 (by omega) (by omega) (by omega) (by omega) (by omega)]) (by rw [hm 15 (by omega) (by omega) (by omega) (by omega) (by omega)])
theorem pCl.of {m m' : mj_St} (h : pCl m) (h2 : m' 2 = m 2) (h7 : m' 7 = m 7) : pCl m' := by
  unfold pCl
  rw [h2, h7]
  exact h
theorem pFr.of {m m' : mj_St} (h : pFr m) (h2 : m' 2 = m 2) (h16 : m' 16 = m 16) : pFr m' := by
  unfold pFr
  rw [h2, h16]
  exact h
theorem pTp.of {k m k' m' : mj_St} {N : Nat} (h : pTp k m N) (h1 : k' 32 = k 32) (h2 : k' 33 = k 33) (h3 : m' 0 22 = m 0 22) (h4 : m' 20 = m 20) : pTp k' m' N := by
  unfold pTp
  rw [h1, h2, h3, h4]
  exact h
theorem pLn.of {k k' : mj_St} {l : List Nat} {el : Nat → List Nat} (h : pLn k l el) (hk : ∀ i, 15 ≤ i → i < 25 → k' i = k i) : pLn k' l el :=
  ⟨h.1.of (by rw [hk 15 (by omega) (by omega)]) (hk 20 (by omega) (by omega)), fun e he => (h.2 e he).of (by rw [hk (16 + e) (by omega) (by omega)]) (hk (16 + e + 5) (by omega) (by omega))⟩
theorem pTk.of {m m' : mj_St} {N : Nat} (h : pTk m N) (h0 : m' 0 11 = m 0 11) (h2 : m' 2 = m 2) (h9 : m' 9 = m 9) : pTk m' N := by
  unfold pTk
  rw [h0, h2, h9]
  exact h
theorem pMid.of {m m' : mj_St} {t : Nat} {tl : List Nat} (h : pMid m t tl) (h2 : m' 2 = m 2) (h9 : m' 9 = m 9) : pMid m' t tl := by
  unfold pMid
  rw [h2, h9]
  exact h
theorem pRow.of {m m' : mj_St} {e : Int32} {l : List Nat} (h : pRow m e l) (h2 : m' 2 = m 2) (h9 : m' 9 = m 9) (h10 : m' 10 = m 10) : pRow m' e l := by
  unfold pRow pIn
  rw [h2, h9, h10]
  exact h
theorem pEp.of {m m' : mj_St} {el : Nat → List Nat} (h : pEp m el) (h2 : m' 2 = m 2) (h9 : m' 9 = m 9) (h10 : m' 10 = m 10) : pEp m' el := fun e he => (h e he).of h2 h9 h10
theorem pTp.le {k m : mj_St} {N N' : Nat} (h : pTp k m N) (hN : N ≤ N') : pTp k m N' := by
  obtain ⟨n, h1, h2⟩ := h
  exact ⟨n, by omega, h2⟩
theorem pTk.le {m : mj_St} {N N' : Nat} (h : pTk m N) (hN : N ≤ N') : pTk m N' := by
  obtain ⟨n, h1, h2⟩ := h
  exact ⟨n, by omega, h2⟩
/-- a step's own state: t is being run -/
def pS (k m : mj_St) (t : Nat) (tl : List Nat) (el er : Nat → List Nat) (N : Nat) : Prop := pQn k m ∧ pMe k m ∧ pRg k m ∧ pTh k m ∧ pCp k m ∧ pFr m ∧ pTp k m N ∧ pLn k (t :: tl) el ∧ pTk m N ∧ pMid m t tl ∧ pEp m er
theorem pS.le {k m : mj_St} {t : Nat} {tl : List Nat} {el er : Nat → List Nat} {N N' : Nat} (h : pS k m t tl el er N) (hN : N ≤ N') : pS k m t tl el er N' := by
  obtain ⟨a1, a2, a3, a4, a6, a7, a8, a9, a10, a11, a12⟩ := h
  exact ⟨a1, a2, a3, a4, a6, a7, a8.le hN, a9, a10.le hN, a11, a12⟩
/-- the reference's own cells for an instruction's parts may change -/
theorem pS.ofM {k m m' : mj_St} {t : Nat} {tl : List Nat} {el er : Nat → List Nat} {N : Nat} (h : pS k m t tl el er N) (h0 : m' 0 0 = m 0 0) (h11 : m' 0 11 = m 0 11) (h22 : m' 0 22 = m 0 22) (hm : ∀ i, 1 ≤ i → m' i = m i) : pS k m' t tl el er N := by
  obtain ⟨a1, a2, a3, a4, a6, a7, a8, a9, a10, a11, a12⟩ := h
  refine ⟨?_, ?_, ?_, a4.of (fun _ _ => rfl) (fun i h1 _ _ _ _ => hm i (by omega)), a6.of rfl rfl rfl rfl (hm 16 (by omega)) (hm 17 (by omega)) (hm 18 (by omega)) (hm 19 (by omega)), a7.of (hm 2 (by omega)) (hm 16 (by omega)), a8.of rfl rfl h22 (hm 20 (by omega)), a9, a10.of h11 (hm 2 (by omega)) (hm 9 (by omega)), a11.of (hm 2 (by omega)) (hm 9 (by omega)), a12.of (hm 2 (by omega)) (hm 9 (by omega)) (hm 10 (by omega))⟩
  · unfold pQn; rw [h0]; exact a1
  · unfold pMe; rw [hm 1 (by omega)]; exact a2
  · unfold pRg; rw [hm 8 (by omega)]; exact a3
/-- a register gets a value -/
theorem pS.reg {k m : mj_St} {t : Nat} {tl : List Nat} {el er : Nat → List Nat} {N u r : Nat} {v : Int32} (h : pS k m t tl el er N) (hu : u < 6) (hr : r < 8) : pS (mj_up k (3 + u + 6) r v) (mj_up m 8 (8 * u + r) v) t tl el er N := by
  obtain ⟨a1, a2, a3, a4, a6, a7, a8, a9, a10, a11, a12⟩ := h
  have hk : ∀ i, i < 9 ∨ 14 < i → mj_up k (3 + u + 6) r v i = k i := fun i hi => pu_ne _ _ _ (by omega)
  have hm : ∀ i, i ≠ 8 → mj_up m 8 (8 * u + r) v i = m i := fun i hi => pu_ne _ _ _ hi
  refine ⟨?_, ?_, ?_, a4.of (fun w hw => hk _ (by omega)) (fun i _ _ h8 _ _ => hm i h8), a6.of (hk 27 (by omega)) (hk 28 (by omega)) (hk 29 (by omega)) (hk 30 (by omega)) (hm 16 (by omega)) (hm 17 (by omega)) (hm 18 (by omega)) (hm 19 (by omega)), a7.of (hm 2 (by omega)) (hm 16 (by omega)), a8.of (hk 32 (by omega)) (hk 33 (by omega)) (by rw [hm 0 (by omega)]) (hm 20 (by omega)), a9.of (fun i h1 h2 => hk i (by omega)), a10.of (by rw [hm 0 (by omega)]) (hm 2 (by omega)) (hm 9 (by omega)), a11.of (hm 2 (by omega)) (hm 9 (by omega)), a12.of (hm 2 (by omega)) (hm 9 (by omega)) (hm 10 (by omega))⟩
  · unfold pQn; rw [hk 0 (by omega), hm 0 (by omega)]; exact a1
  · unfold pMe; rw [hk 1 (by omega), hm 1 (by omega)]; exact a2
  · intro w s hw hs
    by_cases e : w = u
    · subst e
      rw [pu_eq, pu_eq]
      by_cases e2 : s = r
      · subst e2
        rw [pd_eq, pd_eq]
      · rw [pd_ne _ _ e2, pd_ne _ _ (by omega)]
        exact a3 w s hw hs
    · rw [pu_ne _ _ _ (by omega), pu_eq, pd_ne _ _ (by omega)]
      exact a3 w s hw hs
/-- a word of memory gets a value -/
theorem pS.mem {k m : mj_St} {t : Nat} {tl : List Nat} {el er : Nat → List Nat} {N a : Nat} {v : Int32} (h : pS k m t tl el er N) : pS (mj_up k 1 a v) (mj_up m 1 a v) t tl el er N := by
  obtain ⟨a1, a2, a3, a4, a6, a7, a8, a9, a10, a11, a12⟩ := h
  have hk : ∀ i, i ≠ 1 → mj_up k 1 a v i = k i := fun i hi => pu_ne _ _ _ hi
  have hm : ∀ i, i ≠ 1 → mj_up m 1 a v i = m i := fun i hi => pu_ne _ _ _ hi
  refine ⟨?_, ?_, ?_, a4.of (fun w hw => hk _ (by omega)) (fun i h1 _ _ _ _ => hm i (by omega)), a6.of (hk 27 (by omega)) (hk 28 (by omega)) (hk 29 (by omega)) (hk 30 (by omega)) (hm 16 (by omega)) (hm 17 (by omega)) (hm 18 (by omega)) (hm 19 (by omega)), a7.of (hm 2 (by omega)) (hm 16 (by omega)), a8.of (hk 32 (by omega)) (hk 33 (by omega)) (by rw [hm 0 (by omega)]) (hm 20 (by omega)), a9.of (fun i h1 h2 => hk i (by omega)), a10.of (by rw [hm 0 (by omega)]) (hm 2 (by omega)) (hm 9 (by omega)), a11.of (hm 2 (by omega)) (hm 9 (by omega)), a12.of (hm 2 (by omega)) (hm 9 (by omega)) (hm 10 (by omega))⟩
  · unfold pQn; rw [hk 0 (by omega), hm 0 (by omega)]; exact a1
  · intro b hb
    rw [pu_eq, pu_eq]
    by_cases e : b = a
    · subst e; rw [pd_eq, pd_eq]
    · rw [pd_ne _ _ e, pd_ne _ _ e]; exact a2 b hb
  · intro w s hw hs
    rw [hk _ (by omega), hm _ (by omega)]
    exact a3 w s hw hs
/-- capabilities change, and nothing else -/
theorem pS.cap {k m k' m' : mj_St} {t : Nat} {tl : List Nat} {el er : Nat → List Nat} {N : Nat} (h : pS k m t tl el er N) (hk : ∀ i, i < 27 ∨ 31 < i → k' i = k i) (hm : ∀ i, i < 16 ∨ 19 < i → m' i = m i) (hc : pCp k' m') (hf : pFr m') : pS k' m' t tl el er N := by
  obtain ⟨a1, a2, a3, a4, a6, a7, a8, a9, a10, a11, a12⟩ := h
  refine ⟨?_, ?_, ?_, a4.of (fun w hw => hk _ (by omega)) (fun i _ h1 _ _ _ => hm i (by omega)), hc, hf, a8.of (hk 32 (by omega)) (hk 33 (by omega)) (by rw [hm 0 (by omega)]) (hm 20 (by omega)), a9.of (fun i h1 h2 => hk i (by omega)), a10.of (by rw [hm 0 (by omega)]) (hm 2 (by omega)) (hm 9 (by omega)), a11.of (hm 2 (by omega)) (hm 9 (by omega)), a12.of (hm 2 (by omega)) (hm 9 (by omega)) (hm 10 (by omega))⟩
  · unfold pQn; rw [hk 0 (by omega), hm 0 (by omega)]; exact a1
  · unfold pMe; rw [hk 1 (by omega), hm 1 (by omega)]; exact a2
  · intro w s hw hs
    rw [hk _ (by omega), hm _ (by omega)]
    exact a3 w s hw hs

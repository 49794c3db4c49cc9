/-! the class's lines: a list of threads -/
def pL (k : mj_St) (o : Nat) (l : List Nat) : Prop := k o 1 = nI l.length ∧ l.length ≤ 6 ∧ ∀ i, (h : i < l.length) → k (o + 5) i = nI l[i]
theorem pL.of {k k' : mj_St} {o : Nat} {l : List Nat} (h : pL k o l) (h1 : k' o 1 = k o 1) (h2 : k' (o + 5) = k (o + 5)) : pL k' o l := ⟨h1.trans h.1, h.2.1, fun i hi => by rw [h2]; exact h.2.2 i hi⟩
theorem vN_at {o : Nat} {x : Int32} {k : mj_St} {Q : Int32 → Prop} {l : List Nat} (ho : mk_N o) (hl : pL k o l) (h : ∀ j, (hj : j < l.length) → x = nI j → Q (nI l[j])) (hn : (∀ j, j < l.length → x ≠ nI j) → Q (-1)) : wN_at o x k Q := by
  refine ⟨ho, ?_⟩
  obtain ⟨h1, h2, h3⟩ := hl
  rw [h1]
  by_cases he : l.length = 0
  · rw [he, show nI 0 - 1 = -1 from by decide]
    refine vK_between (fun a b => ?_) (fun _ => hn (fun j hj => by omega))
    exfalso
    rw [Int32.lt_iff_toInt_lt, show (0 : Int32).toInt = 0 from by decide] at a
    rw [Int32.lt_iff_toInt_lt, show (-1 : Int32).toInt = -1 from by decide] at b
    omega
  · have e1 : nI l.length - 1 = nI (l.length - 1) := by
      obtain ⟨n, hn⟩ : ∃ n, l.length = n + 1 := ⟨l.length - 1, by omega⟩
      rw [hn, nI_pred]
      rfl
    rw [e1]
    refine vK_between (fun a b => ?_) (fun a => hn (pn_nbtw rfl (by omega) (by omega) a))
    obtain ⟨j, hj, rfl⟩ := pn_btw (n := l.length) rfl (by omega) (by omega) a b
    refine ⟨vp_in_nI (by omega) (by omega), ?_⟩
    rw [nI_clamp (by omega), h3 j hj]
    exact h j hj rfl
theorem vN_append {o : Nat} {t : Int32} {k : mj_St} {Q : mj_St → Prop} {l : List Nat} (ho : mk_N o) (hl : pL k o l) (h6 : l.length < 6) (h : Q (mj_up (mj_up k (o + 5) l.length t) o 1 (nI (l.length + 1)))) : wN_append o t k Q := by
  obtain ⟨h1, h2, h3⟩ := hl
  refine ⟨ho, fun a => ?_, fun a => ?_⟩
  · exfalso
    rw [h1, show (6 : Int32) = nI 6 from rfl] at a
    exact nI_ge h6 (by decide) a
  · rw [h1]
    refine ⟨vp_in_nI h6 (by decide), ?_⟩
    rintro k3 rfl k4 rfl
    rw [nI_clamp (by omega), pu_ne _ _ _ (show o ≠ o + 5 by omega), h1, nI_1]
    exact h
theorem pL.append {k : mj_St} {o t : Nat} {l : List Nat} (hl : pL k o l) (h6 : l.length < 6) : pL (mj_up (mj_up k (o + 5) l.length (nI t)) o 1 (nI (l.length + 1))) o (l ++ [t]) := by
  obtain ⟨h1, h2, h3⟩ := hl
  refine ⟨?_, ?_, fun i hi => ?_⟩
  · rw [pu_eq, pd_eq, List.length_append, List.length_singleton]
  · rw [List.length_append, List.length_singleton]; omega
  · rw [pu_ne _ _ _ (show o + 5 ≠ o by omega), pu_eq]
    rw [List.length_append, List.length_singleton] at hi
    by_cases e : i = l.length
    · subst e
      rw [pd_eq, List.getElem_append_right (Nat.le_refl _)]
      simp
    · rw [pd_ne _ _ e, List.getElem_append_left (by omega)]
      exact h3 i (by omega)
theorem vN_take_loop {o : Nat} (ho : mk_N o) {Q : mj_St → Prop} {tl : List Nat} (h6 : tl.length < 6) : ∀ (d i : Nat) (k : mj_St), i + d = tl.length → k o 1 = nI tl.length → (∀ j, (hj : j < tl.length) → k (o + 5) (if j < i then j else j + 1) = nI tl[j]) →
    (∀ k', pL k' o tl → (∀ a, a ≠ o + 5 → k' a = k a) → Q k') → wN_takeFirst_20 (d + 1) o (nI i) k Q := by
  intro d
  induction d with
  | zero =>
    intro i k hi h1 h2 h
    rw [wN_takeFirst_20]
    refine ⟨ho, fun _ => ?_, fun a => ?_⟩
    · refine h k ⟨h1, by omega, fun j hj => ?_⟩ (fun _ _ => rfl)
      have := h2 j hj
      rw [if_pos (by omega)] at this
      exact this
    · exfalso
      apply a
      rw [h1]
      exact nI_le (by omega) (by omega)
  | succ d ih =>
    intro i k hi h1 h2 h
    rw [wN_takeFirst_20]
    refine ⟨ho, fun a => ?_, fun a => ?_⟩
    · exfalso
      rw [h1] at a
      exact nI_ge (by omega) (by omega) a
    · rw [nI_1]
      refine ⟨vp_in_nI (by omega) (by decide), vp_in_nI (by omega) (by decide), ?_⟩
      rintro k6 rfl a7 rfl
      rw [nI_clamp (by omega), nI_clamp (by omega)]
      refine ih (i + 1) _ (by omega) (by rw [pu_ne _ _ _ (show o ≠ o + 5 by omega)]; exact h1) (fun j hj => ?_) (fun k' hL hk => h k' hL (fun a ha => by rw [hk a ha, pu_ne _ _ _ ha]))
      rw [pu_eq]
      by_cases e : j = i
      · subst e
        rw [if_pos (by omega), pd_eq]
        have := h2 j hj
        rw [if_neg (by omega)] at this
        exact this
      · by_cases e2 : j < i
        · rw [if_pos (by omega), pd_ne _ _ (by omega)]
          have := h2 j hj
          rw [if_pos e2] at this
          exact this
        · rw [if_neg (by omega), pd_ne _ _ (by omega)]
          have := h2 j hj
          rw [if_neg e2] at this
          exact this
theorem vN_takeFirst {o t : Nat} {k : mj_St} {Q : mj_St → Prop} {tl : List Nat} (ho : mk_N o) (hl : pL k o (t :: tl)) (h : ∀ k', pL k' o tl → (∀ a, a ≠ o → a ≠ o + 5 → k' a = k a) → Q k') : wN_takeFirst o k Q := by
  obtain ⟨h1, h2, h3⟩ := hl
  rw [List.length_cons] at h1 h2
  refine ⟨ho, fun a => ?_, fun a => ?_⟩
  · rintro k3 rfl
    refine ⟨tl.length + 1, ?_⟩
    rw [show (0 : Int32) = nI 0 from rfl]
    refine vN_take_loop ho (by omega) tl.length 0 _ (by omega) (by rw [pu_eq, pd_eq, h1, nI_pred]) (fun j hj => ?_) (fun k' hL hk => h k' hL (fun a ha hb => by rw [hk a hb, pu_ne _ _ _ ha]))
    rw [if_neg (by omega), pu_ne _ _ _ (show o + 5 ≠ o by omega), h3 (j + 1) (by rw [List.length_cons]; omega)]
    simp
  · exfalso
    rw [h1] at a
    exact nI_ne0 (by omega) (by omega) a
/-! the reference's rows: who is in a row, by tickets -/
def pIn (m : mj_St) (e : Int32) (u : Nat) : Bool := if 0 ≤ e then (m 2 u == 2 || m 2 u == 4) && m 10 u == e else m 2 u == 1
def pRow (m : mj_St) (e : Int32) (l : List Nat) : Prop := (∀ u, u ∈ l ↔ u < 6 ∧ pIn m e u = true) ∧ l.Pairwise (fun a b => m 9 a < m 9 b)
theorem vM_isIn {m : mj_St} {e : Int32} {u : Nat} {Q : Int32 → Prop} (hu : u < 6) (h1 : pIn m e u = true → Q 1) (h0 : pIn m e u = false → Q 0) : wM_isIn e (nI u) m Q := by
  have hv : vp_in (nI u) 6 := vp_in_nI hu (by decide)
  have hc : (nI u).toNatClampNeg = u := nI_clamp (by omega)
  have h42 : 0 ≤ e → (m 2 u = 2 ∨ m 2 u = 4) → wM_isIn_42 e (nI u) m Q := by
    intro he hs
    refine ⟨hv, fun a => h0 ?_, fun a => h1 ?_⟩
    · rw [hc] at a
      simp [pIn, he, a]
    · rw [hc] at a
      rcases hs with hs | hs <;> simp [pIn, he, a, hs]
  refine ⟨fun he => ⟨hv, fun a => ?_, fun a => ⟨hv, fun b => ?_, fun b => ?_⟩⟩, fun he => ⟨hv, fun a => ?_, fun a => ?_⟩⟩
  · rw [hc] at a; exact h42 he (Or.inl a)
  · rw [hc] at a b; exact h0 (by simp [pIn, he, a, b])
  · rw [hc] at b; exact h42 he (Or.inr b)
  · rw [hc] at a; exact h0 (by simp [pIn, he, a])
  · rw [hc] at a; exact h1 (by simp [pIn, he, a])
/-- how many of a row come before t, among the first n -/
def pCnt (m : mj_St) (e : Int32) (t n : Nat) : Nat := (List.range n).countP (fun v => pIn m e v && decide (m 9 v < m 9 t))
theorem pCnt_0 (m : mj_St) (e : Int32) (t : Nat) : pCnt m e t 0 = 0 := rfl
theorem pCnt_s (m : mj_St) (e : Int32) (t n : Nat) : pCnt m e t (n + 1) = pCnt m e t n + if pIn m e n && decide (m 9 n < m 9 t) then 1 else 0 := by
  unfold pCnt
  rw [List.range_succ, List.countP_append]
  simp [List.countP_cons]
theorem pCnt_le (m : mj_St) (e : Int32) (t n : Nat) : pCnt m e t n ≤ n := by
  have := List.countP_le_length (p := fun v => pIn m e v && decide (m 9 v < m 9 t)) (l := List.range n)
  rw [List.length_range] at this
  exact this
theorem pn_trans {a b c : Int32} (h : a < b) (h2 : b < c) : a < c := by
  rw [Int32.lt_iff_toInt_lt] at *
  omega
theorem pn_irr {a : Int32} : ¬ a < a := by
  rw [Int32.lt_iff_toInt_lt]
  omega
theorem pn_asym {a b : Int32} (h : a < b) : ¬ b < a := by
  rw [Int32.lt_iff_toInt_lt] at *
  omega
theorem pRow.nodup {m : mj_St} {e : Int32} {l : List Nat} (h : pRow m e l) : l.Nodup := by
  refine List.Pairwise.imp ?_ h.2
  rintro a b hab rfl
  exact pn_irr hab
theorem pCnt_row {m : mj_St} {e : Int32} {l : List Nat} (h : pRow m e l) (i : Nat) (hi : i < l.length) : pCnt m e l[i] 6 = i := by
  have hp : ((List.range 6).filter (pIn m e)).Perm l := by
    rw [List.perm_ext_iff_of_nodup ((List.nodup_range).filter _) h.nodup]
    intro a
    rw [List.mem_filter, List.mem_range, h.1 a]
  have e1 : pCnt m e l[i] 6 = l.countP (fun v => decide (m 9 v < m 9 l[i])) := by
    rw [← hp.countP_eq, List.countP_filter]
    unfold pCnt
    congr 1
    funext v
    exact Bool.and_comm _ _
  rw [e1]
  generalize hx : m 9 l[i] = x
  have h1 : (l.take i).countP (fun v => decide (m 9 v < x)) = i := by
    rw [List.countP_eq_length.mpr]
    · rw [List.length_take]; omega
    · intro a ha
      obtain ⟨j, hj, rfl⟩ := List.getElem_of_mem ha
      rw [List.length_take] at hj
      simp only [List.getElem_take, decide_eq_true_eq]
      rw [← hx]
      exact (List.pairwise_iff_getElem.mp h.2) j i (by omega) hi (by omega)
  have h2 : (l.drop i).countP (fun v => decide (m 9 v < x)) = 0 := by
    rw [List.countP_eq_zero]
    intro a ha
    obtain ⟨j, hj, rfl⟩ := List.getElem_of_mem ha
    rw [List.length_drop] at hj
    simp only [List.getElem_drop, decide_eq_true_eq]
    rw [← hx]
    by_cases e2 : j = 0
    · subst e2
      exact pn_irr
    · exact pn_asym ((List.pairwise_iff_getElem.mp h.2) i (i + j) hi (by omega) (by omega))
  have h3 : l.countP (fun v => decide (m 9 v < x)) = (l.take i).countP (fun v => decide (m 9 v < x)) + (l.drop i).countP (fun v => decide (m 9 v < x)) := by
    rw [← List.countP_append, List.take_append_drop]
  rw [h3, h1, h2, Nat.add_zero]
/-- the inner walk: how many of the row come before t -/
theorem vM_at_in {m : mj_St} {e kk : Int32} {Q : Int32 → Prop} {K : Int32 → Int32 → Int32 → Int32 → Prop} {fo : Int32} {t : Nat} (ht : t < 6) (hK : ∀ a : Int32, a = (if pIn m e t = true ∧ nI (pCnt m e t 6) = kk then nI t else fo) → K e kk a (nI (t + 1))) :
    ∀ (d u : Nat), u + d = 6 → wM_at_18 (d + 1) e kk fo (nI t) (nI (pCnt m e t u)) (nI u) m Q K := by
  have h91 : ∀ a : Int32, a = (if pIn m e t = true ∧ nI (pCnt m e t 6) = kk then nI t else fo) → wM_at_91 e kk (nI t) a m Q K := by
    intro a ha
    rintro a5 rfl
    rw [nI_1]
    exact hK a ha
  have hvt : vp_in (nI t) 6 := vp_in_nI ht (by decide)
  have hct : (nI t).toNatClampNeg = t := nI_clamp (by omega)
  intro d
  induction d with
  | zero =>
    intro u hu
    obtain rfl : u = 6 := by omega
    rw [wM_at_18]
    refine ⟨fun _ => ?_, fun a => absurd (show (6 : Int32) ≤ nI 6 from by decide) a⟩
    refine vM_isIn ht (fun hin => ?_) (fun hin => ?_)
    · refine ⟨fun q => absurd q (by decide), fun _ => ⟨fun q => ?_, fun q => ?_⟩⟩
      · exact h91 _ (by rw [if_neg (fun w => q w.2)])
      · exact h91 _ (by rw [if_pos ⟨hin, q⟩])
    · refine ⟨fun _ => h91 _ (by rw [if_neg (fun w => by rw [hin] at w; exact absurd w.1 (by decide))]), fun q => absurd rfl q⟩
  | succ d ih =>
    intro u hu
    have hu6 : u < 6 := by omega
    have hvu : vp_in (nI u) 6 := vp_in_nI hu6 (by decide)
    have hcu : (nI u).toNatClampNeg = u := nI_clamp (by omega)
    rw [wM_at_18]
    refine ⟨fun a => ?_, fun _ => ?_⟩
    · exfalso
      rw [show (6 : Int32) = nI 6 from rfl] at a
      exact nI_ge hu6 (by decide) a
    have hsame : pCnt m e t (u + 1) = pCnt m e t u → wM_at_59 e kk fo (nI t) (nI (pCnt m e t u)) (nI u) m Q K (fun x1_ x2_ x3_ x4_ x5_ x6_ => wM_at_18 (d + 1) x1_ x2_ x3_ x4_ x5_ x6_ m Q K) := by
      intro hs
      rintro a9 rfl
      rw [nI_1, ← hs]
      exact ih (u + 1) (by omega)
    refine vM_isIn hu6 (fun hin => ?_) (fun hin => ?_)
    · refine ⟨fun q => absurd q (by decide), fun _ => ⟨hvu, hvt, fun q => ?_, fun q => ?_⟩⟩
      · rw [hct, hcu] at q
        refine hsame ?_
        rw [pCnt_s]
        have : ¬ m 9 u < m 9 t := by
          rw [Int32.le_iff_toInt_le] at q
          rw [Int32.lt_iff_toInt_lt]
          omega
        simp [this]
      · rw [hct, hcu] at q
        rintro a9 rfl
        rw [nI_1, nI_1]
        have : m 9 u < m 9 t := by
          rw [Int32.le_iff_toInt_le] at q
          rw [Int32.lt_iff_toInt_lt]
          omega
        have e2 : pCnt m e t u + 1 = pCnt m e t (u + 1) := by
          rw [pCnt_s]
          simp [hin, this]
        rw [e2]
        exact ih (u + 1) (by omega)
    · refine ⟨fun _ => hsame ?_, fun q => absurd rfl q⟩
      rw [pCnt_s]
      simp [hin]
/-- what the walk over the threads has found, below t -/
def pFnd (m : mj_St) (e kk : Int32) : Nat → Int32
  | 0 => -1
  | t + 1 => if pIn m e t = true ∧ nI (pCnt m e t 6) = kk then nI t else pFnd m e kk t
theorem vM_at_out {m : mj_St} {e kk : Int32} {Q : Int32 → Prop} (h : Q (pFnd m e kk 6)) : ∀ (d t : Nat), t + d = 6 → wM_at_5 (d + 1) e kk (pFnd m e kk t) (nI t) m Q := by
  intro d
  induction d with
  | zero =>
    intro t ht
    obtain rfl : t = 6 := by omega
    rw [wM_at_5]
    exact ⟨fun _ => h, fun a => absurd (show (6 : Int32) ≤ nI 6 from by decide) a⟩
  | succ d ih =>
    intro t ht
    rw [wM_at_5]
    refine ⟨fun a => ?_, fun _ => ?_⟩
    · exfalso
      rw [show (6 : Int32) = nI 6 from rfl] at a
      exact nI_ge (by omega) (by decide) a
    · refine ⟨7, ?_⟩
      have := vM_at_in (m := m) (e := e) (kk := kk) (Q := Q) (K := fun x1_ x2_ x3_ x4_ => wM_at_5 (d + 1) x1_ x2_ x3_ x4_ m Q) (fo := pFnd m e kk t) (t := t) (by omega) (fun a ha => by
        have e2 : a = pFnd m e kk (t + 1) := ha
        rw [e2]
        exact ih (t + 1) (by omega)) 6 0 (by omega)
      exact this
theorem pFnd_none {m : mj_St} {e kk : Int32} {l : List Nat} (h : pRow m e l) (hn : ∀ i, i < l.length → kk ≠ nI i) : ∀ t, t ≤ 6 → pFnd m e kk t = -1 := by
  intro t
  induction t with
  | zero => intro _; rfl
  | succ t ih =>
    intro ht
    rw [pFnd, if_neg, ih (by omega)]
    rintro ⟨h1, h2⟩
    obtain ⟨i, hi, rfl⟩ := List.getElem_of_mem ((h.1 t).mpr ⟨by omega, h1⟩)
    rw [pCnt_row h i hi] at h2
    exact hn i hi h2.symm
theorem pFnd_some {m : mj_St} {e kk : Int32} {l : List Nat} (h : pRow m e l) {i : Nat} (hi : i < l.length) (h6 : l.length ≤ 6) (hk : kk = nI i) : ∀ t, t ≤ 6 → pFnd m e kk t = if l[i] < t then nI l[i] else -1 := by
  intro t
  induction t with
  | zero => intro _; simp [pFnd]
  | succ t ih =>
    intro ht
    rw [pFnd]
    by_cases e1 : t = l[i]
    · have hin := ((h.1 l[i]).mp (List.getElem_mem hi)).2
      rw [if_pos ⟨by rw [e1]; exact hin, by rw [e1, pCnt_row h i hi, hk]⟩, if_pos (by omega), e1]
    · rw [if_neg, ih (by omega)]
      · by_cases e2 : l[i] < t
        · rw [if_pos e2, if_pos (by omega)]
        · rw [if_neg e2, if_neg (by omega)]
      · rintro ⟨h1, h2⟩
        obtain ⟨j, hj, hjt⟩ := List.getElem_of_mem ((h.1 t).mpr ⟨by omega, h1⟩)
        rw [← hjt, pCnt_row h j hj, hk, nI_eq (by omega) (by omega)] at h2
        subst h2
        exact e1 hjt.symm
theorem vM_at {m : mj_St} {e kk : Int32} {Q : Int32 → Prop} {l : List Nat} (h : pRow m e l) (h6 : l.length ≤ 6) (hs : ∀ j, (hj : j < l.length) → kk = nI j → Q (nI l[j])) (hn : (∀ j, j < l.length → kk ≠ nI j) → Q (-1)) : wM_at e kk m Q := by
  refine ⟨7, ?_⟩
  have hq : Q (pFnd m e kk 6) := by
    by_cases q : ∃ j, j < l.length ∧ kk = nI j
    · obtain ⟨j, hj, hk⟩ := q
      rw [pFnd_some h hj h6 hk 6 (Nat.le_refl _), if_pos ((h.1 l[j]).mp (List.getElem_mem hj)).1]
      exact hs j hj hk
    · have hn' : ∀ j, j < l.length → kk ≠ nI j := fun j hj hk => q ⟨j, hj, hk⟩
      rw [pFnd_none h hn' 6 (Nat.le_refl _)]
      exact hn hn'
  exact vM_at_out hq 6 0 (by omega)

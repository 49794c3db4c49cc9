/-! a thread is made ready -/
def gRdK (k : mj_St) (u n : Nat) : mj_St := mj_up (mj_up (mj_up k (3 + u) 1 1) 20 n (nI u)) 15 1 (nI (n + 1))
def gRdM (m : mj_St) (u d : Nat) : mj_St := mj_up (mj_up (mj_up m 2 u 1) 9 u (nI d)) 0 11 (nI (d + 1))
theorem vK_makeReady {k : mj_St} {u : Nat} {l : List Nat} {Q : mj_St → Prop} (hu : u < 6) (hl : pL k 15 l) (h6 : l.length < 6) (h : Q (gRdK k u l.length)) : wK_makeReady (nI u) k Q := by
  unfold wK_makeReady
  rw [nI_clamp (by omega)]
  refine ⟨vp_in_nI hu (by decide), ?_⟩
  rintro k2 rfl
  exact vN_append (l := l) (by decide) (hl.of (by rw [pu_ne _ _ _ (by omega)]) (by rw [pu_ne _ _ _ (by omega)])) h6 h
theorem vM_draw {m : mj_St} {u d : Nat} {Q : mj_St → Prop} (hu : u < 6) (hd : m 0 11 = nI d) (h : Q (mj_up (mj_up m 9 u (nI d)) 0 11 (nI (d + 1)))) : wM_draw (nI u) m Q := by
  unfold wM_draw
  rw [nI_clamp (by omega), hd]
  refine ⟨vp_in_nI hu (by decide), ?_⟩
  rintro k1 rfl k2 rfl
  rw [pu_ne _ _ _ (show (0 : Nat) ≠ 9 by omega), hd, nI_1]
  exact h
theorem vM_makeReady {m : mj_St} {u d : Nat} {Q : mj_St → Prop} (hu : u < 6) (hd : m 0 11 = nI d) (h : Q (gRdM m u d)) : wM_makeReady (nI u) m Q := by
  unfold wM_makeReady
  rw [nI_clamp (by omega)]
  refine ⟨vp_in_nI hu (by decide), ?_⟩
  rintro k1 rfl
  exact vM_draw hu (by rw [pu_ne _ _ _ (by omega)]; exact hd) h
theorem gRdM_2 {m : mj_St} {u d : Nat} : gRdM m u d 2 = upd (m 2) u 1 := by
  unfold gRdM
  rw [pu_ne _ _ _ (by omega), pu_ne _ _ _ (by omega), pu_eq]
theorem gRdM_9 {m : mj_St} {u d : Nat} : gRdM m u d 9 = upd (m 9) u (nI d) := by
  unfold gRdM
  rw [pu_ne _ _ _ (by omega), pu_eq, pu_ne _ _ _ (by omega)]
theorem gRdM_0 {m : mj_St} {u d : Nat} : gRdM m u d 0 = upd (m 0) 11 (nI (d + 1)) := by
  unfold gRdM
  rw [pu_eq, pu_ne _ _ _ (by omega), pu_ne _ _ _ (by omega)]
theorem gRdM_ne {m : mj_St} {u d i : Nat} (h0 : i ≠ 0) (h2 : i ≠ 2) (h9 : i ≠ 9) : gRdM m u d i = m i := by
  unfold gRdM
  rw [pu_ne _ _ _ h0, pu_ne _ _ _ h9, pu_ne _ _ _ h2]
theorem gRdK_ne {k : mj_St} {u n i : Nat} (h1 : i ≠ 3 + u) (h2 : i ≠ 20) (h3 : i ≠ 15) : gRdK k u n i = k i := by
  unfold gRdK
  rw [pu_ne _ _ _ h3, pu_ne _ _ _ h2, pu_ne _ _ _ h1]
theorem gRdK_u {k : mj_St} {u n : Nat} (hu : u < 6) : gRdK k u n (3 + u) = upd (k (3 + u)) 1 1 := by
  unfold gRdK
  rw [pu_ne _ _ _ (by omega), pu_ne _ _ _ (by omega), pu_eq]
theorem pLn.ready {k : mj_St} {u : Nat} {l : List Nat} {el : Nat → List Nat} (h : pLn k l el) (hu : u < 6) (h6 : l.length < 6) : pLn (gRdK k u l.length) (l ++ [u]) el := by
  refine ⟨?_, fun e he => (h.2 e he).of (by rw [gRdK_ne (by omega) (by omega) (by omega)]) (by rw [gRdK_ne (by omega) (by omega) (by omega)])⟩
  exact pL.append (k := mj_up k (3 + u) 1 1) (o := 15) (h.1.of (by rw [pu_ne _ _ _ (by omega)]) (by rw [pu_ne _ _ _ (by omega)])) h6
/-- rows when one thread's state and ticket change -/
theorem pRow.drop {m m' : mj_St} {e : Int32} {u : Nat} {l : List Nat} (h : pRow m e (u :: l)) (hin : pIn m' e u = false) (ho : ∀ v, v ≠ u → m' 2 v = m 2 v ∧ m' 9 v = m 9 v ∧ m' 10 v = m 10 v) : pRow m' e l := by
  have hnd := h.nodup
  have hul : u ∉ l := (List.nodup_cons.mp hnd).1
  refine ⟨fun v => ?_, ?_⟩
  · by_cases q : v = u
    · subst q
      exact ⟨fun w => absurd w hul, fun w => by rw [hin] at w; exact absurd w.2 (by decide)⟩
    · have := h.1 v
      rw [List.mem_cons] at this
      obtain ⟨o1, o2, o3⟩ := ho v q
      have e2 : pIn m' e v = pIn m e v := by unfold pIn; rw [o1, o3]
      rw [e2]
      exact ⟨fun w => this.mp (Or.inr w), fun w => (this.mpr w).resolve_left q⟩
  · refine List.Pairwise.imp_of_mem ?_ (List.pairwise_cons.mp h.2).2
    intro a b ha hb hab
    rw [(ho a (fun q => hul (q ▸ ha))).2.1, (ho b (fun q => hul (q ▸ hb))).2.1]
    exact hab
theorem pRow.keep {m m' : mj_St} {e : Int32} {u : Nat} {l : List Nat} (h : pRow m e l) (hin : pIn m' e u = false) (hul : u ∉ l) (ho : ∀ v, v ≠ u → m' 2 v = m 2 v ∧ m' 9 v = m 9 v ∧ m' 10 v = m 10 v) : pRow m' e l := by
  refine ⟨fun v => ?_, ?_⟩
  · by_cases q : v = u
    · subst q
      exact ⟨fun w => absurd w hul, fun w => by rw [hin] at w; exact absurd w.2 (by decide)⟩
    · obtain ⟨o1, o2, o3⟩ := ho v q
      have e2 : pIn m' e v = pIn m e v := by unfold pIn; rw [o1, o3]
      rw [e2]
      exact h.1 v
  · refine List.Pairwise.imp_of_mem ?_ h.2
    intro a b ha hb hab
    rw [(ho a (fun q => hul (q ▸ ha))).2.1, (ho b (fun q => hul (q ▸ hb))).2.1]
    exact hab
theorem pRow.push {m m' : mj_St} {e : Int32} {u : Nat} {l : List Nat} (h : pRow m e l) (hu : u < 6) (hin : pIn m' e u = true) (hul : u ∉ l) (ho : ∀ v, v ≠ u → m' 2 v = m 2 v ∧ m' 9 v = m 9 v ∧ m' 10 v = m 10 v) (hlt : ∀ v, v ∈ l → m 9 v < m' 9 u) : pRow m' e (l ++ [u]) := by
  refine ⟨fun v => ?_, ?_⟩
  · rw [List.mem_append, List.mem_singleton]
    by_cases q : v = u
    · subst q
      exact ⟨fun _ => ⟨hu, hin⟩, fun _ => Or.inr rfl⟩
    · obtain ⟨o1, o2, o3⟩ := ho v q
      have e2 : pIn m' e v = pIn m e v := by unfold pIn; rw [o1, o3]
      rw [e2, ← h.1 v]
      exact ⟨fun w => w.resolve_right q, fun w => Or.inl w⟩
  · rw [List.pairwise_append]
    refine ⟨List.Pairwise.imp_of_mem ?_ h.2, List.pairwise_singleton _ _, fun a ha b hb => ?_⟩
    · intro a b ha hb hab
      rw [(ho a (fun q => hul (q ▸ ha))).2.1, (ho b (fun q => hul (q ▸ hb))).2.1]
      exact hab
    · rw [List.mem_singleton] at hb
      subst hb
      rw [(ho a (fun q => hul (q ▸ ha))).2.1]
      exact hlt a ha
/-- the ready ones when u, not ready, comes to them with a later ticket -/
theorem pMid.push {m m' : mj_St} {t u : Nat} {tl : List Nat} (h : pMid m t tl) (hu : u < 6) (hut : u ≠ t) (hul : ¬ m 2 u = 1) (h1 : m' 2 u = 1) (ho : ∀ v, v ≠ u → m' 2 v = m 2 v ∧ m' 9 v = m 9 v) (hlt : ∀ v, v < 6 → m 2 v = 1 → m 9 v < m' 9 u) (ht : t < 6) : pMid m' t (tl ++ [u]) := by
  have hut' : t ≠ u := fun q => hut q.symm
  have hnl : u ∉ tl := fun q => hul ((h.1 u).mp q).2.2
  refine ⟨fun v => ?_, ?_, fun hts v hv => ?_⟩
  · rw [List.mem_append, List.mem_singleton]
    by_cases q : v = u
    · subst q
      exact ⟨fun _ => ⟨hu, hut, h1⟩, fun _ => Or.inr rfl⟩
    · rw [(ho v q).1, ← h.1 v]
      exact ⟨fun w => w.resolve_right q, fun w => Or.inl w⟩
  · rw [List.pairwise_append]
    refine ⟨List.Pairwise.imp_of_mem ?_ h.2.1, List.pairwise_singleton _ _, fun a ha b hb => ?_⟩
    · intro a b ha hb hab
      rw [(ho a (fun q => hnl (q ▸ ha))).2, (ho b (fun q => hnl (q ▸ hb))).2]
      exact hab
    · rw [List.mem_singleton] at hb
      subst hb
      rw [(ho a (fun q => hnl (q ▸ ha))).2]
      obtain ⟨a1, a2, a3⟩ := (h.1 a).mp ha
      exact hlt a a1 a3
  · rw [(ho t hut').1] at hts
    rw [(ho t hut').2]
    rw [List.mem_append, List.mem_singleton] at hv
    rcases hv with hv | hv
    · rw [(ho v (fun q => hnl (q ▸ hv))).2]
      exact h.2.2 hts v hv
    · subst hv
      exact hlt t ht hts
/-- t's own state and ticket change, and it isn't ready then -/
theorem pMid.own {m m' : mj_St} {t : Nat} {tl : List Nat} (h : pMid m t tl) (h1 : ¬ m' 2 t = 1) (ho : ∀ v, v ≠ t → m' 2 v = m 2 v ∧ m' 9 v = m 9 v) : pMid m' t tl := by
  have hnl : t ∉ tl := fun q => ((h.1 t).mp q).2.1 rfl
  refine ⟨fun v => ?_, ?_, fun hts => absurd hts h1⟩
  · rw [h.1 v]
    by_cases q : v = t
    · subst q
      exact ⟨fun w => absurd rfl w.2.1, fun w => absurd rfl w.2.1⟩
    · rw [(ho v q).1]
  · refine List.Pairwise.imp_of_mem ?_ h.2.1
    intro a b ha hb hab
    rw [(ho a (fun q => hnl (q ▸ ha))).2, (ho b (fun q => hnl (q ▸ hb))).2]
    exact hab
/-- another's state changes, ready neither before nor behind -/
theorem pMid.other {m m' : mj_St} {t u : Nat} {tl : List Nat} (h : pMid m t tl) (hut : u ≠ t) (h0 : ¬ m 2 u = 1) (h1 : ¬ m' 2 u = 1) (ho : ∀ v, v ≠ u → m' 2 v = m 2 v ∧ m' 9 v = m 9 v) : pMid m' t tl := by
  have hnl : u ∉ tl := fun q => h0 ((h.1 u).mp q).2.2
  have hut' : t ≠ u := fun q => hut q.symm
  refine ⟨fun v => ?_, ?_, fun hts v hv => ?_⟩
  · rw [h.1 v]
    by_cases q : v = u
    · subst q
      exact ⟨fun w => absurd w.2.2 h0, fun w => absurd w.2.2 h1⟩
    · rw [(ho v q).1]
  · refine List.Pairwise.imp_of_mem ?_ h.2.1
    intro a b ha hb hab
    rw [(ho a (fun q => hnl (q ▸ ha))).2, (ho b (fun q => hnl (q ▸ hb))).2]
    exact hab
  · rw [(ho t hut').1] at hts
    rw [(ho t hut').2, (ho v (fun q => hnl (q ▸ hv))).2]
    exact h.2.2 hts v hv
/-- a line of distinct threads with one more outside has room -/
theorem pn_room {l : List Nat} {u : Nat} (hn : l.Nodup) (h6 : ∀ v, v ∈ l → v < 6) (hu : u < 6) (hul : u ∉ l) : l.length < 6 := by
  have h1 : (u :: l).Nodup := List.nodup_cons.mpr ⟨hul, hn⟩
  have h2 : (u :: l) ⊆ List.range 6 := fun v hv => List.mem_range.mpr (by
    rcases List.mem_cons.mp hv with rfl | hv
    · exact hu
    · exact h6 v hv)
  have := h1.length_le_of_subset h2
  rw [List.length_cons, List.length_range] at this
  omega
theorem pMid.nodup {m : mj_St} {t : Nat} {tl : List Nat} (h : pMid m t tl) : (t :: tl).Nodup := by
  refine List.nodup_cons.mpr ⟨fun q => ((h.1 t).mp q).2.1 rfl, List.Pairwise.imp ?_ h.2.1⟩
  rintro a b hab rfl
  exact pn_irr hab
theorem pMid.room {m : mj_St} {t u : Nat} {tl : List Nat} (h : pMid m t tl) (ht : t < 6) (hu : u < 6) (hut : u ≠ t) (hul : ¬ m 2 u = 1) : (t :: tl).length < 6 := by
  refine pn_room h.nodup (fun v hv => ?_) hu (fun q => ?_)
  · rcases List.mem_cons.mp hv with rfl | hv
    · exact ht
    · exact ((h.1 v).mp hv).1
  · rcases List.mem_cons.mp q with q | q
    · exact hut q
    · exact hul ((h.1 u).mp q).2.2
theorem pRow.room {m : mj_St} {e : Int32} {l : List Nat} {u : Nat} (h : pRow m e l) (hu : u < 6) (hul : pIn m e u = false) : l.length < 6 :=
  pn_room h.nodup (fun v hv => ((h.1 v).mp hv).1) hu (fun q => by rw [((h.1 u).mp q).2] at hul; cases hul)
theorem pRow.le6 {m : mj_St} {e : Int32} {l : List Nat} (h : pRow m e l) : l.length ≤ 6 := by
  have := h.nodup.length_le_of_subset (l₂ := List.range 6) (fun v hv => List.mem_range.mpr ((h.1 v).mp hv).1)
  rw [List.length_range] at this
  exact this

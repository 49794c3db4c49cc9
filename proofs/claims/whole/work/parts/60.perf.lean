/-! which branch an instruction takes, on both sides -/
theorem vK_perf_8 {t w : Int32} {k : mj_St} {Q : Int32 → mj_St → Prop} (e : w &&& 31 = 8 ∨ w &&& 31 = 9) (h : wK_perform_80 t w k Q) : wK_perform t w k Q := by
  rcases e with e | e <;> simp [wK_perform, wK_opOf, e, h]
theorem vK_perf_14 {t w : Int32} {k : mj_St} {Q : Int32 → mj_St → Prop} (e : w &&& 31 = 14) (h : wK_printBy t w k Q) : wK_perform t w k Q := by
  simp [wK_perform, wK_opOf, e]; exact h
theorem vK_perf_15 {t w : Int32} {k : mj_St} {Q : Int32 → mj_St → Prop} (e : w &&& 31 = 15 ∨ w &&& 31 = 16) (h : wK_sendBy t w k Q) : wK_perform t w k Q := by
  have h' : wK_perform_99 t w k Q := h
  rcases e with e | e <;> simp [wK_perform, wK_opOf, e, h']
theorem vK_perf_17 {t w : Int32} {k : mj_St} {Q : Int32 → mj_St → Prop} (e : w &&& 31 = 17) (h : wK_receiveBy t w k Q) : wK_perform t w k Q := by
  simp [wK_perform, wK_opOf, e]; exact h
theorem vK_perf_18 {t : Nat} {w : Int32} {k : mj_St} {Q : Int32 → mj_St → Prop} (ht : t < 6) (e : w &&& 31 = 18) (h : wK_answerCaller (3 + t) w k Q) : wK_perform (nI t) w k Q := by
  simp [wK_perform, wK_opOf, e]
  refine ⟨vp_in_nI ht (by decide), ?_⟩
  rw [nI_clamp (by omega)]
  exact h
theorem vK_perf_19 {t w : Int32} {k : mj_St} {Q : Int32 → mj_St → Prop} (e : w &&& 31 = 19) (h : wK_mintInto t w k Q) : wK_perform t w k Q := by
  simp [wK_perform, wK_opOf, e]; exact h
theorem vK_perf_20 {t w : Int32} {k : mj_St} {Q : Int32 → mj_St → Prop} (e : w &&& 31 = 20 ∨ w &&& 31 = 21) (h : wK_takeBack t w k Q) : wK_perform t w k Q := by
  have h' : wK_perform_132 t w k Q := h
  rcases e with e | e <;> simp [wK_perform, wK_opOf, e, h']
theorem vK_perf_22 {t w : Int32} {k : mj_St} {Q : Int32 → mj_St → Prop} (e : w &&& 31 = 22) (h : wK_lookIntoSlot t w k Q) : wK_perform t w k Q := by
  simp [wK_perform, wK_opOf, e]; exact h
theorem vK_perf_c {t : Nat} {w : Int32} {k : mj_St} {Q : Int32 → mj_St → Prop} (ht : t < 6) {o : Nat} (ho : o < 32) (e : w &&& 31 = nI o) (hn : ¬ (o = 8 ∨ o = 9 ∨ (14 ≤ o ∧ o ≤ 22))) (h : wK_compute (3 + t) w k Q) : wK_perform (nI t) w k Q := by
  have h' : wK_perform_146 (nI t) w k Q := by
    refine ⟨vp_in_nI ht (by decide), ?_⟩
    rw [nI_clamp (by omega)]
    exact h
  have hc : ∀ c : Nat, c < 32 → c ≠ o → ¬ w &&& 31 = nI c := fun c hc hco q => hco ((nI_eq (by omega) (by omega)).mp (q.symm.trans e))
  unfold wK_perform wK_opOf
  refine ⟨fun q => absurd q (hc 8 (by omega) (by omega)), fun _ => ⟨fun q => absurd q (hc 9 (by omega) (by omega)), fun _ => ⟨fun _ => h', fun _ => ⟨fun _ => h', fun _ => ⟨fun _ => h', fun _ => ⟨fun _ => h', fun _ => ⟨fun q => absurd q (hc 14 (by omega) (by omega)), fun _ => ⟨fun q => absurd q (hc 15 (by omega) (by omega)), fun _ => ⟨fun q => absurd q (hc 16 (by omega) (by omega)), fun _ => ⟨fun q => absurd q (hc 17 (by omega) (by omega)), fun _ => ⟨fun q => absurd q (hc 18 (by omega) (by omega)), fun _ => ⟨fun q => absurd q (hc 19 (by omega) (by omega)), fun _ => ⟨fun q => absurd q (hc 20 (by omega) (by omega)), fun _ => ⟨fun q => absurd q (hc 21 (by omega) (by omega)), fun _ => ⟨fun q => absurd q (hc 22 (by omega) (by omega)), fun _ => h'⟩⟩⟩⟩⟩⟩⟩⟩⟩⟩⟩⟩⟩⟩⟩
/-! the reference's faults -/
theorem vM_lacks {m : mj_St} {t a : Nat} {kd r : Int32} {Q : Int32 → Prop} (ht : t < 6) (ha : a < 8) (h24 : m 0 24 = nI a) (h1 : (m 16 (8 * t + a) = 0 ∨ (0 < kd ∧ ¬ m 16 (8 * t + a) = kd) ∨ ¬ (m 18 (8 * t + a) &&& r) = r) → Q 1) (h0 : ¬ m 16 (8 * t + a) = 0 → (0 < kd → m 16 (8 * t + a) = kd) → (m 18 (8 * t + a) &&& r) = r → Q 0) : wM_lacks (nI t) kd r m Q := by
  have hv : vp_in (nI (8 * t + a)) 48 := vp_in_nI (by omega) (by decide)
  have hk : ¬ kd ≤ 0 ↔ 0 < kd := by
    rw [Int32.le_iff_toInt_le, Int32.lt_iff_toInt_lt]; omega
  unfold wM_lacks
  rw [h24, pn_slot]
  rintro a1 rfl
  rw [nI_clamp (by omega)]
  have h36 : ¬ m 16 (8 * t + a) = 0 → (0 < kd → m 16 (8 * t + a) = kd) → wM_lacks_36 r (nI (8 * t + a)) m Q := by
    intro g1 g2
    unfold wM_lacks_36
    rw [nI_clamp (by omega)]
    exact ⟨hv, fun g3 => h0 g1 g2 g3, fun g3 => h1 (Or.inr (Or.inr g3))⟩
  refine ⟨hv, fun g => h1 (Or.inl g), fun g => ⟨fun g2 => h36 g (fun z => absurd g2 (hk.mpr z)), fun g2 => ⟨hv, fun g3 => h1 (Or.inr (Or.inl ⟨hk.mp g2, g3⟩)), fun g3 => h36 g (fun _ => g3)⟩⟩⟩
theorem vM_fault_0 {t x : Int32} {m : mj_St} {Q : Int32 → Prop} (e : x = 0 ∨ x = 1 ∨ x = 2 ∨ x = 3 ∨ x = 4 ∨ x = 5 ∨ x = 6 ∨ x = 7 ∨ x = 10 ∨ x = 11 ∨ x = 12 ∨ x = 13 ∨ x = 18 ∨ x = 22) (h : Q 0) : wM_faultOf t x m Q := by
  by_cases ho : m 0 27 &&& 1 = 1 <;> rcases e with rfl | rfl | rfl | rfl | rfl | rfl | rfl | rfl | rfl | rfl | rfl | rfl | rfl | rfl <;> simp [wM_faultOf, wM_faultOf_82, wM_faultOf_120, wM_faultOf_125, wM_faultOf_141, wM_faultOf_170, wM_faultOf_175, wM_faultOf_98, wM_faultOf_124, wM_faultOf_174, wM_faultOf_159, ho, h]
theorem vM_fault_3 {t x : Int32} {m : mj_St} {Q : Int32 → Prop} (e : ¬ x ≤ 22) (h : Q 3) : wM_faultOf t x m Q := ⟨fun z => absurd z e, fun _ => h⟩
theorem vM_fault_17 {t : Int32} {m : mj_St} {Q : Int32 → Prop} (h : wM_lacks t 1 2 m (fun a => (¬ a = 0 → Q 4) ∧ (a = 0 → Q 0))) : wM_faultOf t 17 m Q := by
  by_cases ho : m 0 27 &&& 1 = 1 <;> simp [wM_faultOf, wM_faultOf_82, wM_faultOf_120, wM_faultOf_125, wM_faultOf_141, wM_faultOf_170, wM_faultOf_175, wM_faultOf_98, wM_faultOf_124, wM_faultOf_174, wM_faultOf_159, ho] <;> exact h
theorem vM_fault_14 {t : Int32} {m : mj_St} {Q : Int32 → Prop} (h : wM_lacks t 2 1 m (fun a => (¬ a = 0 → Q 4) ∧ (a = 0 → Q 0))) : wM_faultOf t 14 m Q := by
  by_cases ho : m 0 27 &&& 1 = 1 <;> simp [wM_faultOf, wM_faultOf_82, wM_faultOf_120, wM_faultOf_125, wM_faultOf_141, wM_faultOf_170, wM_faultOf_175, wM_faultOf_98, wM_faultOf_124, wM_faultOf_174, wM_faultOf_159, ho] <;> exact h
theorem vM_fault_20 {t x : Int32} {m : mj_St} {Q : Int32 → Prop} (e : x = 20 ∨ x = 21) (h : wM_lacks t 0 0 m (fun a => (a = 0 → Q 0) ∧ (¬ a = 0 → Q 4))) : wM_faultOf t x m Q := by
  by_cases ho : m 0 27 &&& 1 = 1 <;> rcases e with rfl | rfl <;> simp [wM_faultOf, wM_faultOf_82, wM_faultOf_120, wM_faultOf_125, wM_faultOf_141, wM_faultOf_170, wM_faultOf_175, wM_faultOf_98, wM_faultOf_124, wM_faultOf_174, wM_faultOf_159, ho] <;> exact h
theorem vM_fault_19 {t : Int32} {m : mj_St} {Q : Int32 → Prop} (h : wM_lacks t 0 0 m (fun a => (a = 0 → vp_in (8 * t + m 0 25) 48 ∧ (m 16 (8 * t + m 0 25).toNatClampNeg = 0 → Q 0) ∧ (¬ m 16 (8 * t + m 0 25).toNatClampNeg = 0 → Q 5)) ∧ (¬ a = 0 → Q 4))) : wM_faultOf t 19 m Q := by
  by_cases ho : m 0 27 &&& 1 = 1 <;> simp [wM_faultOf, wM_faultOf_82, wM_faultOf_120, wM_faultOf_125, wM_faultOf_141, wM_faultOf_170, wM_faultOf_175, wM_faultOf_98, wM_faultOf_124, wM_faultOf_174, wM_faultOf_159, ho] <;> exact h
theorem vM_fault_15 {t x : Int32} {m : mj_St} {Q : Int32 → Prop} (e : x = 15 ∨ x = 16) (h : wM_lacks t 1 (if (m 0 27 &&& 1) = 1 then 5 else 1) m (fun a => (a = 0 → Q 0) ∧ (¬ a = 0 → Q 4))) : wM_faultOf t x m Q := by
  by_cases ho : m 0 27 &&& 1 = 1
  · rw [if_pos ho] at h
    rcases e with rfl | rfl <;> simp [wM_faultOf, wM_faultOf_82, wM_faultOf_120, wM_faultOf_125, wM_faultOf_141, wM_faultOf_170, wM_faultOf_175, wM_faultOf_98, wM_faultOf_124, wM_faultOf_174, wM_faultOf_159, ho] <;> exact h
  · rw [if_neg ho] at h
    rcases e with rfl | rfl <;> simp [wM_faultOf, wM_faultOf_82, wM_faultOf_120, wM_faultOf_125, wM_faultOf_141, wM_faultOf_170, wM_faultOf_175, wM_faultOf_98, wM_faultOf_124, wM_faultOf_174, wM_faultOf_159, ho] <;> exact h
theorem vM_fault_8 {t x : Int32} {m : mj_St} {Q : Int32 → Prop} (e : x = 8 ∨ x = 9) (h : wM_faultOf_20 t m Q) : wM_faultOf t x m Q := by
  rcases e with rfl | rfl <;> simp [wM_faultOf, h]
/-! the class's counter behind an instruction that doesn't go -/
theorem vK_after {t : Nat} {w : Int32} {k : mj_St} {Q : Int32 → Prop} (ht : t < 6) (h10 : ¬ w &&& 31 = 10) (h11 : ¬ w &&& 31 = 11) (h12 : ¬ w &&& 31 = 12) (h : Q (k (3 + t) 3 + 1)) : wK_counterAfter (3 + t) w k Q := by
  have hT : mk_T (3 + t) := ⟨by omega, by omega⟩
  obtain ⟨a, ha, ea⟩ := fdA_of w
  have ea' : (w >>> (5 &&& 31)) &&& 7 = nI a := ea
  unfold wK_counterAfter wK_fieldA wK_opOf
  rw [ea']
  refine ⟨hT, vp_in_nI ha (by decide), ?_⟩
  rintro a3 rfl
  refine ⟨fun z => absurd z h10, fun _ => ⟨fun _ => ⟨hT, fun _ => ⟨hT, hT, fun _ => h, fun z => absurd rfl z⟩, fun z => absurd z h12⟩, fun z => absurd z h11⟩⟩

/-! the reference's action, instruction by instruction -/
theorem vM_act_0 {m : mj_St} {t a b c : Nat} {Q : mj_St → Prop} (ht : t < 6) (ha : a < 8) (hb : b < 8) (hc : c < 8) (hA : m 0 24 = nI a) (hB : m 0 25 = nI b) (hC : m 0 26 = nI c) (h : Q (mj_up m 2 t 6)) : wM_act (nI t) 0 m Q := by
  have hva : vp_in (nI (8 * t + a)) 48 := vp_in_nI (by omega) (by decide)
  have hvb : vp_in (nI (8 * t + b)) 48 := vp_in_nI (by omega) (by decide)
  have hvc : vp_in (nI (8 * t + c)) 48 := vp_in_nI (by omega) (by decide)
  have hvt : vp_in (nI t) 6 := vp_in_nI ht (by decide)
  have hct : (nI t).toNatClampNeg = t := nI_clamp (by omega)
  have hca : (nI (8 * t + a)).toNatClampNeg = 8 * t + a := nI_clamp (by omega)
  have hcb : (nI (8 * t + b)).toNatClampNeg = 8 * t + b := nI_clamp (by omega)
  have hcc : (nI (8 * t + c)).toNatClampNeg = 8 * t + c := nI_clamp (by omega)
  unfold wM_act
  rw [hA, hB, hC, pn_slot, pn_slot, pn_slot, hcb, hcc]
  rintro a1 rfl
  refine ⟨hvb, ?_⟩
  rintro a2 rfl
  refine ⟨hvc, ?_⟩
  rintro a3 rfl
  refine ⟨hva, ?_⟩
  rintro a4 rfl
  simp
  rw [hct]
  exact ⟨hvt, h⟩
theorem vM_act_1 {m : mj_St} {t a b c : Nat} {Q : mj_St → Prop} (ht : t < 6) (ha : a < 8) (hb : b < 8) (hc : c < 8) (hA : m 0 24 = nI a) (hB : m 0 25 = nI b) (hC : m 0 26 = nI c) (h : Q (mj_up m 8 (8 * t + a) (m 0 27))) : wM_act (nI t) 1 m Q := by
  have hva : vp_in (nI (8 * t + a)) 48 := vp_in_nI (by omega) (by decide)
  have hvb : vp_in (nI (8 * t + b)) 48 := vp_in_nI (by omega) (by decide)
  have hvc : vp_in (nI (8 * t + c)) 48 := vp_in_nI (by omega) (by decide)
  have hvt : vp_in (nI t) 6 := vp_in_nI ht (by decide)
  have hct : (nI t).toNatClampNeg = t := nI_clamp (by omega)
  have hca : (nI (8 * t + a)).toNatClampNeg = 8 * t + a := nI_clamp (by omega)
  have hcb : (nI (8 * t + b)).toNatClampNeg = 8 * t + b := nI_clamp (by omega)
  have hcc : (nI (8 * t + c)).toNatClampNeg = 8 * t + c := nI_clamp (by omega)
  unfold wM_act
  rw [hA, hB, hC, pn_slot, pn_slot, pn_slot, hcb, hcc]
  rintro a1 rfl
  refine ⟨hvb, ?_⟩
  rintro a2 rfl
  refine ⟨hvc, ?_⟩
  rintro a3 rfl
  refine ⟨hva, ?_⟩
  rintro a4 rfl
  simp [wM_result]
  rw [hca]
  exact ⟨hva, h⟩
theorem vM_act_2 {m : mj_St} {t a b c : Nat} {Q : mj_St → Prop} (ht : t < 6) (ha : a < 8) (hb : b < 8) (hc : c < 8) (hA : m 0 24 = nI a) (hB : m 0 25 = nI b) (hC : m 0 26 = nI c) (h : Q (mj_up m 8 (8 * t + a) (m 8 (8 * t + b)))) : wM_act (nI t) 2 m Q := by
  have hva : vp_in (nI (8 * t + a)) 48 := vp_in_nI (by omega) (by decide)
  have hvb : vp_in (nI (8 * t + b)) 48 := vp_in_nI (by omega) (by decide)
  have hvc : vp_in (nI (8 * t + c)) 48 := vp_in_nI (by omega) (by decide)
  have hvt : vp_in (nI t) 6 := vp_in_nI ht (by decide)
  have hct : (nI t).toNatClampNeg = t := nI_clamp (by omega)
  have hca : (nI (8 * t + a)).toNatClampNeg = 8 * t + a := nI_clamp (by omega)
  have hcb : (nI (8 * t + b)).toNatClampNeg = 8 * t + b := nI_clamp (by omega)
  have hcc : (nI (8 * t + c)).toNatClampNeg = 8 * t + c := nI_clamp (by omega)
  unfold wM_act
  rw [hA, hB, hC, pn_slot, pn_slot, pn_slot, hcb, hcc]
  rintro a1 rfl
  refine ⟨hvb, ?_⟩
  rintro a2 rfl
  refine ⟨hvc, ?_⟩
  rintro a3 rfl
  refine ⟨hva, ?_⟩
  rintro a4 rfl
  simp [wM_result]
  rw [hca]
  exact ⟨hva, h⟩
theorem vM_act_3 {m : mj_St} {t a b c : Nat} {Q : mj_St → Prop} (ht : t < 6) (ha : a < 8) (hb : b < 8) (hc : c < 8) (hA : m 0 24 = nI a) (hB : m 0 25 = nI b) (hC : m 0 26 = nI c) (h : Q (mj_up m 8 (8 * t + a) (m 8 (8 * t + b) + m 8 (8 * t + c)))) : wM_act (nI t) 3 m Q := by
  have hva : vp_in (nI (8 * t + a)) 48 := vp_in_nI (by omega) (by decide)
  have hvb : vp_in (nI (8 * t + b)) 48 := vp_in_nI (by omega) (by decide)
  have hvc : vp_in (nI (8 * t + c)) 48 := vp_in_nI (by omega) (by decide)
  have hvt : vp_in (nI t) 6 := vp_in_nI ht (by decide)
  have hct : (nI t).toNatClampNeg = t := nI_clamp (by omega)
  have hca : (nI (8 * t + a)).toNatClampNeg = 8 * t + a := nI_clamp (by omega)
  have hcb : (nI (8 * t + b)).toNatClampNeg = 8 * t + b := nI_clamp (by omega)
  have hcc : (nI (8 * t + c)).toNatClampNeg = 8 * t + c := nI_clamp (by omega)
  unfold wM_act
  rw [hA, hB, hC, pn_slot, pn_slot, pn_slot, hcb, hcc]
  rintro a1 rfl
  refine ⟨hvb, ?_⟩
  rintro a2 rfl
  refine ⟨hvc, ?_⟩
  rintro a3 rfl
  refine ⟨hva, ?_⟩
  rintro a4 rfl
  simp [wM_result]
  rw [hca]
  exact ⟨hva, h⟩
theorem vM_act_4 {m : mj_St} {t a b c : Nat} {Q : mj_St → Prop} (ht : t < 6) (ha : a < 8) (hb : b < 8) (hc : c < 8) (hA : m 0 24 = nI a) (hB : m 0 25 = nI b) (hC : m 0 26 = nI c) (h : Q (mj_up m 8 (8 * t + a) (m 8 (8 * t + b) - m 8 (8 * t + c)))) : wM_act (nI t) 4 m Q := by
  have hva : vp_in (nI (8 * t + a)) 48 := vp_in_nI (by omega) (by decide)
  have hvb : vp_in (nI (8 * t + b)) 48 := vp_in_nI (by omega) (by decide)
  have hvc : vp_in (nI (8 * t + c)) 48 := vp_in_nI (by omega) (by decide)
  have hvt : vp_in (nI t) 6 := vp_in_nI ht (by decide)
  have hct : (nI t).toNatClampNeg = t := nI_clamp (by omega)
  have hca : (nI (8 * t + a)).toNatClampNeg = 8 * t + a := nI_clamp (by omega)
  have hcb : (nI (8 * t + b)).toNatClampNeg = 8 * t + b := nI_clamp (by omega)
  have hcc : (nI (8 * t + c)).toNatClampNeg = 8 * t + c := nI_clamp (by omega)
  unfold wM_act
  rw [hA, hB, hC, pn_slot, pn_slot, pn_slot, hcb, hcc]
  rintro a1 rfl
  refine ⟨hvb, ?_⟩
  rintro a2 rfl
  refine ⟨hvc, ?_⟩
  rintro a3 rfl
  refine ⟨hva, ?_⟩
  rintro a4 rfl
  simp [wM_result]
  rw [hca]
  exact ⟨hva, h⟩
theorem vM_act_5 {m : mj_St} {t a b c : Nat} {Q : mj_St → Prop} (ht : t < 6) (ha : a < 8) (hb : b < 8) (hc : c < 8) (hA : m 0 24 = nI a) (hB : m 0 25 = nI b) (hC : m 0 26 = nI c) (h : Q (mj_up m 8 (8 * t + a) (m 8 (8 * t + b) * m 8 (8 * t + c)))) : wM_act (nI t) 5 m Q := by
  have hva : vp_in (nI (8 * t + a)) 48 := vp_in_nI (by omega) (by decide)
  have hvb : vp_in (nI (8 * t + b)) 48 := vp_in_nI (by omega) (by decide)
  have hvc : vp_in (nI (8 * t + c)) 48 := vp_in_nI (by omega) (by decide)
  have hvt : vp_in (nI t) 6 := vp_in_nI ht (by decide)
  have hct : (nI t).toNatClampNeg = t := nI_clamp (by omega)
  have hca : (nI (8 * t + a)).toNatClampNeg = 8 * t + a := nI_clamp (by omega)
  have hcb : (nI (8 * t + b)).toNatClampNeg = 8 * t + b := nI_clamp (by omega)
  have hcc : (nI (8 * t + c)).toNatClampNeg = 8 * t + c := nI_clamp (by omega)
  unfold wM_act
  rw [hA, hB, hC, pn_slot, pn_slot, pn_slot, hcb, hcc]
  rintro a1 rfl
  refine ⟨hvb, ?_⟩
  rintro a2 rfl
  refine ⟨hvc, ?_⟩
  rintro a3 rfl
  refine ⟨hva, ?_⟩
  rintro a4 rfl
  simp [wM_result]
  rw [hca]
  exact ⟨hva, h⟩
theorem vM_act_6 {m : mj_St} {t a b c : Nat} {Q : mj_St → Prop} (ht : t < 6) (ha : a < 8) (hb : b < 8) (hc : c < 8) (hA : m 0 24 = nI a) (hB : m 0 25 = nI b) (hC : m 0 26 = nI c) (h : Q (mj_up m 8 (8 * t + a) (m 8 (8 * t + b) &&& m 8 (8 * t + c)))) : wM_act (nI t) 6 m Q := by
  have hva : vp_in (nI (8 * t + a)) 48 := vp_in_nI (by omega) (by decide)
  have hvb : vp_in (nI (8 * t + b)) 48 := vp_in_nI (by omega) (by decide)
  have hvc : vp_in (nI (8 * t + c)) 48 := vp_in_nI (by omega) (by decide)
  have hvt : vp_in (nI t) 6 := vp_in_nI ht (by decide)
  have hct : (nI t).toNatClampNeg = t := nI_clamp (by omega)
  have hca : (nI (8 * t + a)).toNatClampNeg = 8 * t + a := nI_clamp (by omega)
  have hcb : (nI (8 * t + b)).toNatClampNeg = 8 * t + b := nI_clamp (by omega)
  have hcc : (nI (8 * t + c)).toNatClampNeg = 8 * t + c := nI_clamp (by omega)
  unfold wM_act
  rw [hA, hB, hC, pn_slot, pn_slot, pn_slot, hcb, hcc]
  rintro a1 rfl
  refine ⟨hvb, ?_⟩
  rintro a2 rfl
  refine ⟨hvc, ?_⟩
  rintro a3 rfl
  refine ⟨hva, ?_⟩
  rintro a4 rfl
  simp [wM_result]
  rw [hca]
  exact ⟨hva, h⟩
theorem vM_act_7 {m : mj_St} {t a b c : Nat} {Q : mj_St → Prop} (ht : t < 6) (ha : a < 8) (hb : b < 8) (hc : c < 8) (hA : m 0 24 = nI a) (hB : m 0 25 = nI b) (hC : m 0 26 = nI c) (h : Q (mj_up m 8 (8 * t + a) (m 8 (8 * t + b) ^^^ m 8 (8 * t + c)))) : wM_act (nI t) 7 m Q := by
  have hva : vp_in (nI (8 * t + a)) 48 := vp_in_nI (by omega) (by decide)
  have hvb : vp_in (nI (8 * t + b)) 48 := vp_in_nI (by omega) (by decide)
  have hvc : vp_in (nI (8 * t + c)) 48 := vp_in_nI (by omega) (by decide)
  have hvt : vp_in (nI t) 6 := vp_in_nI ht (by decide)
  have hct : (nI t).toNatClampNeg = t := nI_clamp (by omega)
  have hca : (nI (8 * t + a)).toNatClampNeg = 8 * t + a := nI_clamp (by omega)
  have hcb : (nI (8 * t + b)).toNatClampNeg = 8 * t + b := nI_clamp (by omega)
  have hcc : (nI (8 * t + c)).toNatClampNeg = 8 * t + c := nI_clamp (by omega)
  unfold wM_act
  rw [hA, hB, hC, pn_slot, pn_slot, pn_slot, hcb, hcc]
  rintro a1 rfl
  refine ⟨hvb, ?_⟩
  rintro a2 rfl
  refine ⟨hvc, ?_⟩
  rintro a3 rfl
  refine ⟨hva, ?_⟩
  rintro a4 rfl
  simp [wM_result]
  rw [hca]
  exact ⟨hva, h⟩
theorem vM_act_8 {m : mj_St} {t a b c : Nat} {Q : mj_St → Prop} (ht : t < 6) (ha : a < 8) (hb : b < 8) (hc : c < 8) (hA : m 0 24 = nI a) (hB : m 0 25 = nI b) (hC : m 0 26 = nI c) (h : vp_in (m 5 t + m 8 (8 * t + b) + m 0 27) 128 ∧ Q (mj_up m 8 (8 * t + a) (m 1 (m 5 t + m 8 (8 * t + b) + m 0 27).toNatClampNeg))) : wM_act (nI t) 8 m Q := by
  have hva : vp_in (nI (8 * t + a)) 48 := vp_in_nI (by omega) (by decide)
  have hvb : vp_in (nI (8 * t + b)) 48 := vp_in_nI (by omega) (by decide)
  have hvc : vp_in (nI (8 * t + c)) 48 := vp_in_nI (by omega) (by decide)
  have hvt : vp_in (nI t) 6 := vp_in_nI ht (by decide)
  have hct : (nI t).toNatClampNeg = t := nI_clamp (by omega)
  have hca : (nI (8 * t + a)).toNatClampNeg = 8 * t + a := nI_clamp (by omega)
  have hcb : (nI (8 * t + b)).toNatClampNeg = 8 * t + b := nI_clamp (by omega)
  have hcc : (nI (8 * t + c)).toNatClampNeg = 8 * t + c := nI_clamp (by omega)
  unfold wM_act
  rw [hA, hB, hC, pn_slot, pn_slot, pn_slot, hcb, hcc]
  rintro a1 rfl
  refine ⟨hvb, ?_⟩
  rintro a2 rfl
  refine ⟨hvc, ?_⟩
  rintro a3 rfl
  refine ⟨hva, ?_⟩
  rintro a4 rfl
  simp
  rw [hct, hca]
  exact ⟨hvt, h.1, hva, h.2⟩
theorem vM_act_9 {m : mj_St} {t a b c : Nat} {Q : mj_St → Prop} (ht : t < 6) (ha : a < 8) (hb : b < 8) (hc : c < 8) (hA : m 0 24 = nI a) (hB : m 0 25 = nI b) (hC : m 0 26 = nI c) (h : vp_in (m 5 t + m 8 (8 * t + b) + m 0 27) 128 ∧ Q (mj_up m 1 (m 5 t + m 8 (8 * t + b) + m 0 27).toNatClampNeg (m 8 (8 * t + a)))) : wM_act (nI t) 9 m Q := by
  have hva : vp_in (nI (8 * t + a)) 48 := vp_in_nI (by omega) (by decide)
  have hvb : vp_in (nI (8 * t + b)) 48 := vp_in_nI (by omega) (by decide)
  have hvc : vp_in (nI (8 * t + c)) 48 := vp_in_nI (by omega) (by decide)
  have hvt : vp_in (nI t) 6 := vp_in_nI ht (by decide)
  have hct : (nI t).toNatClampNeg = t := nI_clamp (by omega)
  have hca : (nI (8 * t + a)).toNatClampNeg = 8 * t + a := nI_clamp (by omega)
  have hcb : (nI (8 * t + b)).toNatClampNeg = 8 * t + b := nI_clamp (by omega)
  have hcc : (nI (8 * t + c)).toNatClampNeg = 8 * t + c := nI_clamp (by omega)
  unfold wM_act
  rw [hA, hB, hC, pn_slot, pn_slot, pn_slot, hcb, hcc]
  rintro a1 rfl
  refine ⟨hvb, ?_⟩
  rintro a2 rfl
  refine ⟨hvc, ?_⟩
  rintro a3 rfl
  refine ⟨hva, ?_⟩
  rintro a4 rfl
  simp
  rw [hct, hca]
  exact ⟨hvt, hva, h.1, h.2⟩
theorem vM_act_10 {m : mj_St} {t a b c : Nat} {Q : mj_St → Prop} (ht : t < 6) (ha : a < 8) (hb : b < 8) (hc : c < 8) (hA : m 0 24 = nI a) (hB : m 0 25 = nI b) (hC : m 0 26 = nI c) (h : wM_move (nI t) 10 m Q) : wM_act (nI t) 10 m Q := by
  have hva : vp_in (nI (8 * t + a)) 48 := vp_in_nI (by omega) (by decide)
  have hvb : vp_in (nI (8 * t + b)) 48 := vp_in_nI (by omega) (by decide)
  have hvc : vp_in (nI (8 * t + c)) 48 := vp_in_nI (by omega) (by decide)
  have hvt : vp_in (nI t) 6 := vp_in_nI ht (by decide)
  have hct : (nI t).toNatClampNeg = t := nI_clamp (by omega)
  have hca : (nI (8 * t + a)).toNatClampNeg = 8 * t + a := nI_clamp (by omega)
  have hcb : (nI (8 * t + b)).toNatClampNeg = 8 * t + b := nI_clamp (by omega)
  have hcc : (nI (8 * t + c)).toNatClampNeg = 8 * t + c := nI_clamp (by omega)
  unfold wM_act
  rw [hA, hB, hC, pn_slot, pn_slot, pn_slot, hcb, hcc]
  rintro a1 rfl
  refine ⟨hvb, ?_⟩
  rintro a2 rfl
  refine ⟨hvc, ?_⟩
  rintro a3 rfl
  refine ⟨hva, ?_⟩
  rintro a4 rfl
  simp
  exact h
theorem vM_act_11 {m : mj_St} {t a b c : Nat} {Q : mj_St → Prop} (ht : t < 6) (ha : a < 8) (hb : b < 8) (hc : c < 8) (hA : m 0 24 = nI a) (hB : m 0 25 = nI b) (hC : m 0 26 = nI c) (h : wM_move (nI t) 11 m Q) : wM_act (nI t) 11 m Q := by
  have hva : vp_in (nI (8 * t + a)) 48 := vp_in_nI (by omega) (by decide)
  have hvb : vp_in (nI (8 * t + b)) 48 := vp_in_nI (by omega) (by decide)
  have hvc : vp_in (nI (8 * t + c)) 48 := vp_in_nI (by omega) (by decide)
  have hvt : vp_in (nI t) 6 := vp_in_nI ht (by decide)
  have hct : (nI t).toNatClampNeg = t := nI_clamp (by omega)
  have hca : (nI (8 * t + a)).toNatClampNeg = 8 * t + a := nI_clamp (by omega)
  have hcb : (nI (8 * t + b)).toNatClampNeg = 8 * t + b := nI_clamp (by omega)
  have hcc : (nI (8 * t + c)).toNatClampNeg = 8 * t + c := nI_clamp (by omega)
  unfold wM_act
  rw [hA, hB, hC, pn_slot, pn_slot, pn_slot, hcb, hcc]
  rintro a1 rfl
  refine ⟨hvb, ?_⟩
  rintro a2 rfl
  refine ⟨hvc, ?_⟩
  rintro a3 rfl
  refine ⟨hva, ?_⟩
  rintro a4 rfl
  simp
  exact h
theorem vM_act_12 {m : mj_St} {t a b c : Nat} {Q : mj_St → Prop} (ht : t < 6) (ha : a < 8) (hb : b < 8) (hc : c < 8) (hA : m 0 24 = nI a) (hB : m 0 25 = nI b) (hC : m 0 26 = nI c) (h : wM_move (nI t) 12 m Q) : wM_act (nI t) 12 m Q := by
  have hva : vp_in (nI (8 * t + a)) 48 := vp_in_nI (by omega) (by decide)
  have hvb : vp_in (nI (8 * t + b)) 48 := vp_in_nI (by omega) (by decide)
  have hvc : vp_in (nI (8 * t + c)) 48 := vp_in_nI (by omega) (by decide)
  have hvt : vp_in (nI t) 6 := vp_in_nI ht (by decide)
  have hct : (nI t).toNatClampNeg = t := nI_clamp (by omega)
  have hca : (nI (8 * t + a)).toNatClampNeg = 8 * t + a := nI_clamp (by omega)
  have hcb : (nI (8 * t + b)).toNatClampNeg = 8 * t + b := nI_clamp (by omega)
  have hcc : (nI (8 * t + c)).toNatClampNeg = 8 * t + c := nI_clamp (by omega)
  unfold wM_act
  rw [hA, hB, hC, pn_slot, pn_slot, pn_slot, hcb, hcc]
  rintro a1 rfl
  refine ⟨hvb, ?_⟩
  rintro a2 rfl
  refine ⟨hvc, ?_⟩
  rintro a3 rfl
  refine ⟨hva, ?_⟩
  rintro a4 rfl
  simp
  exact h
theorem vM_act_13 {m : mj_St} {t a b c : Nat} {Q : mj_St → Prop} (ht : t < 6) (ha : a < 8) (hb : b < 8) (hc : c < 8) (hA : m 0 24 = nI a) (hB : m 0 25 = nI b) (hC : m 0 26 = nI c) (h : Q m) : wM_act (nI t) 13 m Q := by
  have hva : vp_in (nI (8 * t + a)) 48 := vp_in_nI (by omega) (by decide)
  have hvb : vp_in (nI (8 * t + b)) 48 := vp_in_nI (by omega) (by decide)
  have hvc : vp_in (nI (8 * t + c)) 48 := vp_in_nI (by omega) (by decide)
  have hvt : vp_in (nI t) 6 := vp_in_nI ht (by decide)
  have hct : (nI t).toNatClampNeg = t := nI_clamp (by omega)
  have hca : (nI (8 * t + a)).toNatClampNeg = 8 * t + a := nI_clamp (by omega)
  have hcb : (nI (8 * t + b)).toNatClampNeg = 8 * t + b := nI_clamp (by omega)
  have hcc : (nI (8 * t + c)).toNatClampNeg = 8 * t + c := nI_clamp (by omega)
  unfold wM_act
  rw [hA, hB, hC, pn_slot, pn_slot, pn_slot, hcb, hcc]
  rintro a1 rfl
  refine ⟨hvb, ?_⟩
  rintro a2 rfl
  refine ⟨hvc, ?_⟩
  rintro a3 rfl
  refine ⟨hva, ?_⟩
  rintro a4 rfl
  simp
  exact h
theorem vM_act_14 {m : mj_St} {t a b c : Nat} {Q : mj_St → Prop} (ht : t < 6) (ha : a < 8) (hb : b < 8) (hc : c < 8) (hA : m 0 24 = nI a) (hB : m 0 25 = nI b) (hC : m 0 26 = nI c) (h : wM_write (m 8 (8 * t + b)) m Q) : wM_act (nI t) 14 m Q := by
  have hva : vp_in (nI (8 * t + a)) 48 := vp_in_nI (by omega) (by decide)
  have hvb : vp_in (nI (8 * t + b)) 48 := vp_in_nI (by omega) (by decide)
  have hvc : vp_in (nI (8 * t + c)) 48 := vp_in_nI (by omega) (by decide)
  have hvt : vp_in (nI t) 6 := vp_in_nI ht (by decide)
  have hct : (nI t).toNatClampNeg = t := nI_clamp (by omega)
  have hca : (nI (8 * t + a)).toNatClampNeg = 8 * t + a := nI_clamp (by omega)
  have hcb : (nI (8 * t + b)).toNatClampNeg = 8 * t + b := nI_clamp (by omega)
  have hcc : (nI (8 * t + c)).toNatClampNeg = 8 * t + c := nI_clamp (by omega)
  unfold wM_act
  rw [hA, hB, hC, pn_slot, pn_slot, pn_slot, hcb, hcc]
  rintro a1 rfl
  refine ⟨hvb, ?_⟩
  rintro a2 rfl
  refine ⟨hvc, ?_⟩
  rintro a3 rfl
  refine ⟨hva, ?_⟩
  rintro a4 rfl
  simp
  exact h
theorem vM_act_15 {m : mj_St} {t a b c : Nat} {Q : mj_St → Prop} (ht : t < 6) (ha : a < 8) (hb : b < 8) (hc : c < 8) (hA : m 0 24 = nI a) (hB : m 0 25 = nI b) (hC : m 0 26 = nI c) (h : wM_send (nI t) (m 17 (8 * t + a)) 0 m Q) : wM_act (nI t) 15 m Q := by
  have hva : vp_in (nI (8 * t + a)) 48 := vp_in_nI (by omega) (by decide)
  have hvb : vp_in (nI (8 * t + b)) 48 := vp_in_nI (by omega) (by decide)
  have hvc : vp_in (nI (8 * t + c)) 48 := vp_in_nI (by omega) (by decide)
  have hvt : vp_in (nI t) 6 := vp_in_nI ht (by decide)
  have hct : (nI t).toNatClampNeg = t := nI_clamp (by omega)
  have hca : (nI (8 * t + a)).toNatClampNeg = 8 * t + a := nI_clamp (by omega)
  have hcb : (nI (8 * t + b)).toNatClampNeg = 8 * t + b := nI_clamp (by omega)
  have hcc : (nI (8 * t + c)).toNatClampNeg = 8 * t + c := nI_clamp (by omega)
  unfold wM_act
  rw [hA, hB, hC, pn_slot, pn_slot, pn_slot, hcb, hcc]
  rintro a1 rfl
  refine ⟨hvb, ?_⟩
  rintro a2 rfl
  refine ⟨hvc, ?_⟩
  rintro a3 rfl
  refine ⟨hva, ?_⟩
  rintro a4 rfl
  simp [wM_act_199, wM_act_214]
  rw [hca]
  exact h
theorem vM_act_16 {m : mj_St} {t a b c : Nat} {Q : mj_St → Prop} (ht : t < 6) (ha : a < 8) (hb : b < 8) (hc : c < 8) (hA : m 0 24 = nI a) (hB : m 0 25 = nI b) (hC : m 0 26 = nI c) (h : wM_send (nI t) (m 17 (8 * t + a)) 1 m Q) : wM_act (nI t) 16 m Q := by
  have hva : vp_in (nI (8 * t + a)) 48 := vp_in_nI (by omega) (by decide)
  have hvb : vp_in (nI (8 * t + b)) 48 := vp_in_nI (by omega) (by decide)
  have hvc : vp_in (nI (8 * t + c)) 48 := vp_in_nI (by omega) (by decide)
  have hvt : vp_in (nI t) 6 := vp_in_nI ht (by decide)
  have hct : (nI t).toNatClampNeg = t := nI_clamp (by omega)
  have hca : (nI (8 * t + a)).toNatClampNeg = 8 * t + a := nI_clamp (by omega)
  have hcb : (nI (8 * t + b)).toNatClampNeg = 8 * t + b := nI_clamp (by omega)
  have hcc : (nI (8 * t + c)).toNatClampNeg = 8 * t + c := nI_clamp (by omega)
  unfold wM_act
  rw [hA, hB, hC, pn_slot, pn_slot, pn_slot, hcb, hcc]
  rintro a1 rfl
  refine ⟨hvb, ?_⟩
  rintro a2 rfl
  refine ⟨hvc, ?_⟩
  rintro a3 rfl
  refine ⟨hva, ?_⟩
  rintro a4 rfl
  simp [wM_act_199, wM_act_214]
  rw [hca]
  exact h
theorem vM_act_17 {m : mj_St} {t a b c : Nat} {Q : mj_St → Prop} (ht : t < 6) (ha : a < 8) (hb : b < 8) (hc : c < 8) (hA : m 0 24 = nI a) (hB : m 0 25 = nI b) (hC : m 0 26 = nI c) (h : wM_receive (nI t) (m 17 (8 * t + a)) m Q) : wM_act (nI t) 17 m Q := by
  have hva : vp_in (nI (8 * t + a)) 48 := vp_in_nI (by omega) (by decide)
  have hvb : vp_in (nI (8 * t + b)) 48 := vp_in_nI (by omega) (by decide)
  have hvc : vp_in (nI (8 * t + c)) 48 := vp_in_nI (by omega) (by decide)
  have hvt : vp_in (nI t) 6 := vp_in_nI ht (by decide)
  have hct : (nI t).toNatClampNeg = t := nI_clamp (by omega)
  have hca : (nI (8 * t + a)).toNatClampNeg = 8 * t + a := nI_clamp (by omega)
  have hcb : (nI (8 * t + b)).toNatClampNeg = 8 * t + b := nI_clamp (by omega)
  have hcc : (nI (8 * t + c)).toNatClampNeg = 8 * t + c := nI_clamp (by omega)
  unfold wM_act
  rw [hA, hB, hC, pn_slot, pn_slot, pn_slot, hcb, hcc]
  rintro a1 rfl
  refine ⟨hvb, ?_⟩
  rintro a2 rfl
  refine ⟨hvc, ?_⟩
  rintro a3 rfl
  refine ⟨hva, ?_⟩
  rintro a4 rfl
  simp
  rw [hca]
  exact h
theorem vM_act_18 {m : mj_St} {t a b c : Nat} {Q : mj_St → Prop} (ht : t < 6) (ha : a < 8) (hb : b < 8) (hc : c < 8) (hA : m 0 24 = nI a) (hB : m 0 25 = nI b) (hC : m 0 26 = nI c) (h : wM_answer (nI t) m Q) : wM_act (nI t) 18 m Q := by
  have hva : vp_in (nI (8 * t + a)) 48 := vp_in_nI (by omega) (by decide)
  have hvb : vp_in (nI (8 * t + b)) 48 := vp_in_nI (by omega) (by decide)
  have hvc : vp_in (nI (8 * t + c)) 48 := vp_in_nI (by omega) (by decide)
  have hvt : vp_in (nI t) 6 := vp_in_nI ht (by decide)
  have hct : (nI t).toNatClampNeg = t := nI_clamp (by omega)
  have hca : (nI (8 * t + a)).toNatClampNeg = 8 * t + a := nI_clamp (by omega)
  have hcb : (nI (8 * t + b)).toNatClampNeg = 8 * t + b := nI_clamp (by omega)
  have hcc : (nI (8 * t + c)).toNatClampNeg = 8 * t + c := nI_clamp (by omega)
  unfold wM_act
  rw [hA, hB, hC, pn_slot, pn_slot, pn_slot, hcb, hcc]
  rintro a1 rfl
  refine ⟨hvb, ?_⟩
  rintro a2 rfl
  refine ⟨hvc, ?_⟩
  rintro a3 rfl
  refine ⟨hva, ?_⟩
  rintro a4 rfl
  simp
  exact h
theorem vM_act_19 {m : mj_St} {t a b c : Nat} {Q : mj_St → Prop} (ht : t < 6) (ha : a < 8) (hb : b < 8) (hc : c < 8) (hA : m 0 24 = nI a) (hB : m 0 25 = nI b) (hC : m 0 26 = nI c) (h : wM_place (nI (8 * t + b)) (nI (8 * t + a)) (m 18 (8 * t + a) &&& m 0 27) m Q) : wM_act (nI t) 19 m Q := by
  have hva : vp_in (nI (8 * t + a)) 48 := vp_in_nI (by omega) (by decide)
  have hvb : vp_in (nI (8 * t + b)) 48 := vp_in_nI (by omega) (by decide)
  have hvc : vp_in (nI (8 * t + c)) 48 := vp_in_nI (by omega) (by decide)
  have hvt : vp_in (nI t) 6 := vp_in_nI ht (by decide)
  have hct : (nI t).toNatClampNeg = t := nI_clamp (by omega)
  have hca : (nI (8 * t + a)).toNatClampNeg = 8 * t + a := nI_clamp (by omega)
  have hcb : (nI (8 * t + b)).toNatClampNeg = 8 * t + b := nI_clamp (by omega)
  have hcc : (nI (8 * t + c)).toNatClampNeg = 8 * t + c := nI_clamp (by omega)
  unfold wM_act
  rw [hA, hB, hC, pn_slot, pn_slot, pn_slot, hcb, hcc]
  rintro a1 rfl
  refine ⟨hvb, ?_⟩
  rintro a2 rfl
  refine ⟨hvc, ?_⟩
  rintro a3 rfl
  refine ⟨hva, ?_⟩
  rintro a4 rfl
  simp
  rw [hca]
  exact ⟨hva, h⟩
theorem vM_act_20 {m : mj_St} {t a b c : Nat} {Q : mj_St → Prop} (ht : t < 6) (ha : a < 8) (hb : b < 8) (hc : c < 8) (hA : m 0 24 = nI a) (hB : m 0 25 = nI b) (hC : m 0 26 = nI c) (h : wM_remove (nI (8 * t + a)) m Q) : wM_act (nI t) 20 m Q := by
  have hva : vp_in (nI (8 * t + a)) 48 := vp_in_nI (by omega) (by decide)
  have hvb : vp_in (nI (8 * t + b)) 48 := vp_in_nI (by omega) (by decide)
  have hvc : vp_in (nI (8 * t + c)) 48 := vp_in_nI (by omega) (by decide)
  have hvt : vp_in (nI t) 6 := vp_in_nI ht (by decide)
  have hct : (nI t).toNatClampNeg = t := nI_clamp (by omega)
  have hca : (nI (8 * t + a)).toNatClampNeg = 8 * t + a := nI_clamp (by omega)
  have hcb : (nI (8 * t + b)).toNatClampNeg = 8 * t + b := nI_clamp (by omega)
  have hcc : (nI (8 * t + c)).toNatClampNeg = 8 * t + c := nI_clamp (by omega)
  unfold wM_act
  rw [hA, hB, hC, pn_slot, pn_slot, pn_slot, hcb, hcc]
  rintro a1 rfl
  refine ⟨hvb, ?_⟩
  rintro a2 rfl
  refine ⟨hvc, ?_⟩
  rintro a3 rfl
  refine ⟨hva, ?_⟩
  rintro a4 rfl
  simp
  exact h
theorem vM_act_21 {m : mj_St} {t a b c : Nat} {Q : mj_St → Prop} (ht : t < 6) (ha : a < 8) (hb : b < 8) (hc : c < 8) (hA : m 0 24 = nI a) (hB : m 0 25 = nI b) (hC : m 0 26 = nI c) (h : wM_revoke (nI (8 * t + a)) m Q) : wM_act (nI t) 21 m Q := by
  have hva : vp_in (nI (8 * t + a)) 48 := vp_in_nI (by omega) (by decide)
  have hvb : vp_in (nI (8 * t + b)) 48 := vp_in_nI (by omega) (by decide)
  have hvc : vp_in (nI (8 * t + c)) 48 := vp_in_nI (by omega) (by decide)
  have hvt : vp_in (nI t) 6 := vp_in_nI ht (by decide)
  have hct : (nI t).toNatClampNeg = t := nI_clamp (by omega)
  have hca : (nI (8 * t + a)).toNatClampNeg = 8 * t + a := nI_clamp (by omega)
  have hcb : (nI (8 * t + b)).toNatClampNeg = 8 * t + b := nI_clamp (by omega)
  have hcc : (nI (8 * t + c)).toNatClampNeg = 8 * t + c := nI_clamp (by omega)
  unfold wM_act
  rw [hA, hB, hC, pn_slot, pn_slot, pn_slot, hcb, hcc]
  rintro a1 rfl
  refine ⟨hvb, ?_⟩
  rintro a2 rfl
  refine ⟨hvc, ?_⟩
  rintro a3 rfl
  refine ⟨hva, ?_⟩
  rintro a4 rfl
  simp
  exact h
theorem vM_act_22 {m : mj_St} {t a b c : Nat} {Q : mj_St → Prop} (ht : t < 6) (ha : a < 8) (hb : b < 8) (hc : c < 8) (hA : m 0 24 = nI a) (hB : m 0 25 = nI b) (hC : m 0 26 = nI c) (h : (m 16 (8 * t + b) = 0 → Q (mj_up m 8 (8 * t + a) 0)) ∧ (¬ m 16 (8 * t + b) = 0 → Q (mj_up m 8 (8 * t + a) 1))) : wM_act (nI t) 22 m Q := by
  have hva : vp_in (nI (8 * t + a)) 48 := vp_in_nI (by omega) (by decide)
  have hvb : vp_in (nI (8 * t + b)) 48 := vp_in_nI (by omega) (by decide)
  have hvc : vp_in (nI (8 * t + c)) 48 := vp_in_nI (by omega) (by decide)
  have hvt : vp_in (nI t) 6 := vp_in_nI ht (by decide)
  have hct : (nI t).toNatClampNeg = t := nI_clamp (by omega)
  have hca : (nI (8 * t + a)).toNatClampNeg = 8 * t + a := nI_clamp (by omega)
  have hcb : (nI (8 * t + b)).toNatClampNeg = 8 * t + b := nI_clamp (by omega)
  have hcc : (nI (8 * t + c)).toNatClampNeg = 8 * t + c := nI_clamp (by omega)
  unfold wM_act
  rw [hA, hB, hC, pn_slot, pn_slot, pn_slot, hcb, hcc]
  rintro a1 rfl
  refine ⟨hvb, ?_⟩
  rintro a2 rfl
  refine ⟨hvc, ?_⟩
  rintro a3 rfl
  refine ⟨hva, ?_⟩
  rintro a4 rfl
  simp
  rw [hca]
  exact ⟨hvb, fun z => ⟨hva, h.1 z⟩, fun z => ⟨hva, h.2 z⟩⟩

/-! the script's first cell -/
set_option maxRecDepth 100000 in
set_option maxHeartbeats 8000000 in
theorem mL_cell (l : Launch) (b L : Nat) (xs : Nat → Int32) (hL : L < 2 ^ 31) : Met l yL_cell (Cond.code yL_cell cL_cell 2 (some .int) :: mj_all) ({ frames := 0, cells := 0, slots := 0, locals := 0 }) (va_Pc [.ref b, .int 0] (fun U => va_X b L xs U U.heap ∧ b < U.heap.size)) (va_Qi (fun (r : Int32) (_ : Unit) => r = if L = 0 then 0 else xs 0) (fun _ _ => True) (fun _ => False)) 0 0 (fun _ => False) := by
  refine Met.ofW (cc := cL_cell) (maxL := 2) (ret := some .int) (by decide) rfl ?_
  intro p e s m args below meth c s₁ B hml hv
  obtain ⟨rfl, hX, hbl⟩ := hv
  have hx := B.exec
  have hb := B.bytes
  have hr := B.returns
  have hlocks := B.notSynchronized
  have hS : va_S (fun _ : Nat => False) s.heap s.heap [] := va_S.rf
  have hl := lv_entry ([.ref b, .int 0]) (n := 2) (Nat.le_of_ble_eq_true rfl)
  rw [lg_entry_eq]
  generalize (lg_sl ([.ref b, .int 0]) ++ List.replicate (2 - (lg_sl ([.ref b, .int 0])).length) Slot.unset).toArray = ls at hl ⊢
  have hl : lv_has ls 2 [(0, .ref b), (1, .int 0)] := hl
  refine lv_iload_n hx hb dL_cell_0 rfl (lv_at hl 1 rfl) ?_
  refine lv_aload_n hx hb dL_cell_1 rfl (lv_at hl 0 rfl) ?_
  refine va_slen hx hb hX hbl (fun h => h) hS dL_cell_2 ?_
  refine lv_icmp_ge (tgt := 12) hx hb dL_cell_3 (by decide) (fun z => ?_) (fun z => ?_)
  · have h0 : L = 0 := by
      by_cases h : L = 0
      · exact h
      · exact absurd z (nI_nle (n := L) (by omega) hL)
    refine lv_iconst (v := 0) hx hb dL_cell_12 (by decide) ?_
    exact W.iret hx hb hr (fun t ht hW => ⟨⟨0, (), rfl, by rw [if_pos h0], trivial⟩, hS.F ht⟩) hS.2.2 dL_cell_13
  · have h0 : ¬ L = 0 := fun h => z (by rw [h]; decide)
    refine lv_aload_n hx hb dL_cell_6 rfl (lv_at hl 0 rfl) ?_
    refine lv_iload_n hx hb dL_cell_7 rfl (lv_at hl 1 rfl) ?_
    refine va_sld hx hb hX hbl (fun h => h) hS (vp_in_nI (n := 0) (N := L) (by omega) hL) dL_cell_8 ?_
    refine lv_goto (tgt := 13) hx hb dL_cell_9 (by decide) ?_
    exact W.iret hx hb hr (fun t ht hW => ⟨⟨_, (), rfl, by rw [if_neg h0]; rfl, trivial⟩, hS.F ht⟩) hS.2.2 dL_cell_13
/-! the first state -/
def mi_k0 (q : Int32) : mj_St := fun i => if i = 0 then (fun j => if j = 0 then q else 0) else if 3 ≤ i ∧ i < 9 then (fun j => if j = 6 then -1 else 0) else fun _ => 0
def mi_m0 (q : Int32) : mj_St := fun i => if i = 0 then (fun j => if j = 0 then q else 0) else fun _ => 0
theorem mi_m0_o {q : Int32} {i : Nat} (j : Nat) (h : i ≠ 0) : mi_m0 q i j = 0 := by
  unfold mi_m0; rw [if_neg h]
theorem mi_m0_0 {q : Int32} {j : Nat} (h : j ≠ 0) : mi_m0 q 0 j = 0 := by
  unfold mi_m0; rw [if_pos rfl, if_neg h]
theorem mi_k0_o {q : Int32} {i : Nat} (j : Nat) (h : i ≠ 0) (h2 : i < 3 ∨ 9 ≤ i) : mi_k0 q i j = 0 := by
  unfold mi_k0; rw [if_neg h, if_neg (by omega)]
theorem mi_k0_0 {q : Int32} {j : Nat} (h : j ≠ 0) : mi_k0 q 0 j = 0 := by
  unfold mi_k0; rw [if_pos rfl, if_neg h]
theorem mi_k0_t {q : Int32} {u j : Nat} (hu : u < 6) (h : j ≠ 6) : mi_k0 q (3 + u) j = 0 := by
  unfold mi_k0; rw [if_neg (by omega), if_pos (by omega), if_neg h]
theorem mi_start {q : Int32} (hq : ∃ j, 1 ≤ j ∧ j ≤ 8 ∧ q = nI j) : pA (mi_k0 q) (mi_m0 q) [] (fun _ => []) 0 := by
  obtain ⟨j, j1, j2, rfl⟩ := hq
  have n0 : nI 0 = 0 := nI_0
  refine ⟨⟨rfl, j, j1, j2, rfl⟩, fun a ha => ?_, fun u r hu hr => ?_, fun u hu => ?_, ⟨fun p hp => ?_, fun _ => 0, fun p hp hk => ?_, fun p hp => (by decide : 0 < 48)⟩, fun u s hu hs _ => mi_m0_o _ (by omega), ⟨0, Nat.le_refl _, ?_, ?_, fun i hi => ?_⟩, ⟨⟨?_, by simp, fun i hi => absurd hi (by simp)⟩, fun e he => ⟨?_, by simp, fun i hi => absurd hi (by simp)⟩⟩, ⟨0, Nat.le_refl _, ?_, fun u hu hs => ?_⟩, ⟨fun u => ?_, List.Pairwise.nil⟩, fun e he => ⟨fun u => ?_, List.Pairwise.nil⟩, ⟨fun u hu hz => ?_, fun u v hu hv hz => ?_⟩, 0, j, ?_, ?_, rfl, by omega, j2⟩
  · rw [mi_k0_o _ (by omega) (by omega), mi_m0_o _ (by omega)]
  · rw [mi_k0_o _ (by omega) (by omega), mi_m0_o _ (by omega)]
  · have hz : mi_m0 (nI j) 2 u = 0 := mi_m0_o _ (by omega)
    unfold pT1
    rw [hz, mi_k0_t hu (by omega), mi_k0_t hu (by omega), mi_k0_t hu (by omega), mi_k0_t hu (by omega), mi_k0_t hu (by omega), mi_m0_o _ (by omega), mi_m0_o _ (by omega), mi_m0_o _ (by omega)]
    exact ⟨rfl, rfl, rfl, rfl, ⟨0, 0, n0.symm, n0.symm, by omega⟩, fun z => absurd z (by decide), fun _ => rfl, fun z => absurd rfl z, fun z => absurd z (by decide), fun z => absurd z (by decide)⟩
  · have hz : mi_m0 (nI j) 16 p = 0 := mi_m0_o _ (by omega)
    rw [hz, mi_k0_o _ (by omega) (by omega)]
    exact ⟨rfl, Or.inl rfl, fun z => absurd rfl z⟩
  · exact absurd (mi_m0_o _ (by omega)) hk
  · rw [mi_k0_o _ (by omega) (by omega), n0]
  · rw [mi_m0_0 (by omega), n0]
  · rw [mi_k0_o _ (by omega) (by omega), mi_m0_o _ (by omega)]
  · rw [mi_k0_o _ (by omega) (by omega)]; exact n0.symm
  · rw [mi_k0_o _ (by omega) (by omega)]; exact n0.symm
  · rw [mi_m0_0 (by omega), n0]
  · rw [mi_m0_o _ (by omega)] at hs; exact absurd hs (by decide)
  · rw [pIn_m1, mi_m0_o _ (by omega)]
    exact ⟨fun z => absurd z (by simp), fun z => absurd z.2 (by decide)⟩
  · refine ⟨fun z => absurd z (by simp), fun z => ?_⟩
    have := z.2
    unfold pIn at this
    rw [if_pos (nI_pos' (by omega)), mi_m0_o _ (by omega)] at this
    simp at this
  · exact absurd (mi_m0_o _ (by omega)) hz
  · exact absurd (mi_m0_o _ (by omega)) hz
  · rw [mi_k0_0 (by omega), n0]
  · rw [mi_m0_0 (by omega), n0]
theorem mi_q_of (x : Int32) : ∃ j, 1 ≤ j ∧ j ≤ 8 ∧ mi_q x = nI j := by
  unfold mi_q
  by_cases h1 : 1 ≤ x
  · rw [if_pos h1]
    by_cases h8 : x ≤ 8
    · rw [if_pos h8]
      have e1 : (1 : Int32).toInt = 1 := by decide
      have e8 : (8 : Int32).toInt = 8 := by decide
      rw [Int32.le_iff_toInt_le] at h1 h8
      refine ⟨x.toInt.toNat, by omega, by omega, ?_⟩
      apply Int32.toInt_inj.mp
      rw [nI_toInt (by omega)]
      omega
    · rw [if_neg h8]; exact ⟨8, by omega, by omega, rfl⟩
  · rw [if_neg h1]; exact ⟨1, by omega, by omega, rfl⟩
/-! the made worlds are the numbered ones -/
theorem mi_arrV {cA : ClassId} {n : Nat} {f g : Nat → Value} (h : ∀ j, j < n → f j = g j) : arrV cA n f = arrV cA n g := by
  unfold arrV
  congr 1
  apply congrArg
  funext j
  exact h j.val j.isLt
theorem mi_arr {D : va_G} {cl : List vw_C} {H : Heap} {a n : Nat} {cA : ClassId} {f g : Nat → Option Nat} (h : va_at D cl (a, .inl (cA, n, .inr (.inr (.inr (.inr f))))) H) (e : ∀ j, j < n → f j = g j) : va_at D cl (a, .inl (cA, n, .inr (.inr (.inr (.inr g))))) H := by
  have h1 : H[a]? = some (vp_cell cA (n, .inr (.inr (.inr (.inr f))))) := h
  show H[a]? = some (vp_cell cA (n, .inr (.inr (.inr (.inr g)))))
  rw [h1, vp_cell_q, vp_cell_q, mi_arrV (fun j hj => by rw [e j hj])]
theorem mi_D {A : Nat → Prop} {ws ws' : va_W} (h : va_D A ws) (e : ws'.map Prod.fst = ws.map Prod.fst) : va_D A ws' := by
  have g : ∀ (i : Nat) (p : Nat × va_E), ws'[i]? = some p → ∃ p', ws[i]? = some p' ∧ p'.1 = p.1 := by
    intro i p hp
    have h1 : (ws'.map Prod.fst)[i]? = some p.1 := by rw [List.getElem?_map, hp]; rfl
    rw [e, List.getElem?_map] at h1
    cases hq : ws[i]? with
    | none => rw [hq] at h1; cases h1
    | some p' =>
      rw [hq] at h1
      exact ⟨p', rfl, Option.some.inj h1⟩
  refine ⟨fun i j p q hi hj hpq => ?_, fun k q hk => ?_⟩
  · obtain ⟨p', a1, a2⟩ := g i p hi
    obtain ⟨q', b1, b2⟩ := g j q hj
    exact h.1 i j p' q' a1 b1 (by rw [a2, b2, hpq])
  · obtain ⟨q', b1, b2⟩ := g k q hk
    rw [← b2]
    exact h.2 k q' b1
set_option maxRecDepth 100000 in
set_option maxHeartbeats 8000000 in
theorem xK_congr {ca : Nat → ClassId} {a ad : Nat → Nat} {q : Int32} (h : ∀ i, i < 34 → ad i = a i) : xK ca ad q = xK ca a q := by
  unfold xK
  rw [h 0 (by omega), h 1 (by omega), h 2 (by omega), h 3 (by omega), h 4 (by omega), h 5 (by omega), h 6 (by omega), h 7 (by omega), h 8 (by omega), h 9 (by omega), h 10 (by omega), h 11 (by omega), h 12 (by omega), h 13 (by omega), h 14 (by omega), h 15 (by omega), h 16 (by omega), h 17 (by omega), h 18 (by omega), h 19 (by omega), h 20 (by omega), h 21 (by omega), h 22 (by omega), h 23 (by omega), h 24 (by omega), h 25 (by omega), h 26 (by omega), h 27 (by omega), h 28 (by omega), h 29 (by omega), h 30 (by omega), h 31 (by omega), h 32 (by omega), h 33 (by omega)]
set_option maxRecDepth 100000 in
set_option maxHeartbeats 8000000 in
theorem xM_congr {ca : Nat → ClassId} {a ad : Nat → Nat} {q : Int32} (h : ∀ i, i < 21 → ad i = a i) : xM ca ad q = xM ca a q := by
  unfold xM
  rw [h 0 (by omega), h 1 (by omega), h 2 (by omega), h 3 (by omega), h 4 (by omega), h 5 (by omega), h 6 (by omega), h 7 (by omega), h 8 (by omega), h 9 (by omega), h 10 (by omega), h 11 (by omega), h 12 (by omega), h 13 (by omega), h 14 (by omega), h 15 (by omega), h 16 (by omega), h 17 (by omega), h 18 (by omega), h 19 (by omega), h 20 (by omega)]
set_option maxRecDepth 100000 in
set_option maxHeartbeats 8000000 in
theorem mi_wK {D : va_G} {ca : Nat → ClassId} {ad : Nat → Nat} {q : Int32} {H : Heap} (hP : va_P D mj_cl (xK ca ad q) H) : ∀ i, i < 34 → va_at D mj_cl (ad i, mk_cK ca ad i (mi_k0 q i)) H := by
  intro i hi
  match i, hi with
  | 0, _ => exact hP 0 _ rfl
  | 1, _ => exact hP 1 _ rfl
  | 2, _ => exact mi_arr (hP 2 _ rfl) (fun j hj => by
      match j, hj with
      | 0, _ => rfl
      | 1, _ => rfl
      | 2, _ => rfl
      | 3, _ => rfl
      | 4, _ => rfl
      | 5, _ => rfl
      | n + 6, h => exact absurd h (by omega))
  | 3, _ => exact hP 3 _ rfl
  | 4, _ => exact hP 4 _ rfl
  | 5, _ => exact hP 5 _ rfl
  | 6, _ => exact hP 6 _ rfl
  | 7, _ => exact hP 7 _ rfl
  | 8, _ => exact hP 8 _ rfl
  | 9, _ => exact hP 9 _ rfl
  | 10, _ => exact hP 10 _ rfl
  | 11, _ => exact hP 11 _ rfl
  | 12, _ => exact hP 12 _ rfl
  | 13, _ => exact hP 13 _ rfl
  | 14, _ => exact hP 14 _ rfl
  | 15, _ => exact hP 15 _ rfl
  | 16, _ => exact hP 16 _ rfl
  | 17, _ => exact hP 17 _ rfl
  | 18, _ => exact hP 18 _ rfl
  | 19, _ => exact hP 19 _ rfl
  | 20, _ => exact hP 20 _ rfl
  | 21, _ => exact hP 21 _ rfl
  | 22, _ => exact hP 22 _ rfl
  | 23, _ => exact hP 23 _ rfl
  | 24, _ => exact hP 24 _ rfl
  | 25, _ => exact mi_arr (hP 25 _ rfl) (fun j hj => by
      match j, hj with
      | 0, _ => rfl
      | 1, _ => rfl
      | 2, _ => rfl
      | 3, _ => rfl
      | n + 4, h => exact absurd h (by omega))
  | 26, _ => exact hP 26 _ rfl
  | 27, _ => exact hP 27 _ rfl
  | 28, _ => exact hP 28 _ rfl
  | 29, _ => exact hP 29 _ rfl
  | 30, _ => exact hP 30 _ rfl
  | 31, _ => exact hP 31 _ rfl
  | 32, _ => exact hP 32 _ rfl
  | 33, _ => exact hP 33 _ rfl
  | n + 34, h => exact absurd h (by omega)
set_option maxRecDepth 100000 in
set_option maxHeartbeats 8000000 in
theorem mi_wM {D : va_G} {ca : Nat → ClassId} {ad : Nat → Nat} {q : Int32} {H : Heap} (hP : va_P D mj_cl (xM ca (fun i => ad (34 + i)) q) H) : ∀ i, i < 21 → va_at D mj_cl (ad (34 + i), mk_cM ca ad i (mi_m0 q i)) H := by
  intro i hi
  match i, hi with
  | 0, _ => exact hP 0 _ rfl
  | 1, _ => exact hP 1 _ rfl
  | 2, _ => exact hP 2 _ rfl
  | 3, _ => exact hP 3 _ rfl
  | 4, _ => exact hP 4 _ rfl
  | 5, _ => exact hP 5 _ rfl
  | 6, _ => exact hP 6 _ rfl
  | 7, _ => exact hP 7 _ rfl
  | 8, _ => exact hP 8 _ rfl
  | 9, _ => exact hP 9 _ rfl
  | 10, _ => exact hP 10 _ rfl
  | 11, _ => exact hP 11 _ rfl
  | 12, _ => exact hP 12 _ rfl
  | 13, _ => exact hP 13 _ rfl
  | 14, _ => exact hP 14 _ rfl
  | 15, _ => exact hP 15 _ rfl
  | 16, _ => exact hP 16 _ rfl
  | 17, _ => exact hP 17 _ rfl
  | 18, _ => exact hP 18 _ rfl
  | 19, _ => exact hP 19 _ rfl
  | 20, _ => exact hP 20 _ rfl
  | n + 21, h => exact absurd h (by omega)
set_option maxRecDepth 100000 in
set_option maxHeartbeats 8000000 in
theorem mi_world {D : va_G} {ca : Nat → ClassId} {ad : Nat → Nat} {q : Int32} {H : Heap} (h1 : va_P D mj_cl (xK ca ad q) H) (h2 : va_P D mj_cl (xM ca (fun i => ad (34 + i)) q) H) : va_P D mj_cl (mk_wl ca ad (mi_k0 q, mi_m0 q)) H := by
  intro k x hx
  rw [mk_at] at hx
  by_cases a : k < 34
  · rw [if_pos a] at hx
    cases hx
    exact mi_wK h1 k a
  · rw [if_neg a] at hx
    by_cases b : k < 55
    · rw [if_pos b] at hx
      cases hx
      have := mi_wM h2 (k - 34) (by omega)
      rw [show 34 + (k - 34) = k from by omega] at this
      exact this
    · rw [if_neg b] at hx
      cases hx
set_option maxRecDepth 100000 in
set_option maxHeartbeats 8000000 in
theorem mi_fst {ca : Nat → ClassId} {ad : Nat → Nat} {q : Int32} (x : mj_X) : (mk_wl ca ad x).map Prod.fst = (xK ca ad q ++ xM ca (fun i => ad (34 + i)) q).map Prod.fst := by
  unfold mk_wl
  rw [List.map_append, List.map_append, List.map_map, List.map_map]
  rfl

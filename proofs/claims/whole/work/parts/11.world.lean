/-! the numbered cells: of the class 0 (the object), 1 memory, 2 tasks, 3..8 the tasks, 9..14 their registers, 15 the ready line, 16..19 the endpoints' lines, 20..24 the lines' threads, 25 the endpoints' lines' row, 26 grants, 27..31 kinds, objects, rights, parents, doomed, 32 tape, 33 latest; of the reference 34 (the object), 35.. its rows in the order of their fields; 55 the script -/
abbrev mj_E : Type := Launch × va_G × (Nat → ClassId) × (Nat → Nat)
abbrev mk_T (i : Nat) : Prop := 3 ≤ i ∧ i < 9
abbrev mk_N (i : Nat) : Prop := 15 ≤ i ∧ i < 20
def mk_cK (ca : Nat → ClassId) (ad : Nat → Nat) (i : Nat) (f : Nat → Int32) : va_E :=
  if i = 0 then .inr (0, [.int (f 0), .ref (ad 1), .ref (ad 2), .ref (ad 15), .ref (ad 25), .ref (ad 26), .ref (ad 32), .int (f 7)])
  else if i = 1 then .inl (ca 0, 128, .inl f)
  else if i = 2 then .inl (ca 2, 6, .inr (.inr (.inr (.inr (fun j => some (ad (3 + j)))))))
  else if i < 9 then .inr (1, [.ref (ad (i + 6)), .int (f 1), .int (f 2), .int (f 3), .int (f 4), .int (f 5), .int (f 6), .int (f 7), .int (f 8)])
  else if i < 15 then .inl (ca 0, 8, .inl f)
  else if i < 20 then .inr (2, [.ref (ad (i + 5)), .int (f 1)])
  else if i < 25 then .inl (ca 0, 6, .inl f)
  else if i = 25 then .inl (ca 3, 4, .inr (.inr (.inr (.inr (fun j => some (ad (16 + j)))))))
  else if i = 26 then .inr (3, [.ref (ad 27), .ref (ad 28), .ref (ad 29), .ref (ad 30), .ref (ad 31)])
  else if i < 31 then .inl (ca 0, 48, .inl f)
  else if i = 31 then .inl (ca 1, 48, .inl f)
  else if i = 32 then .inr (4, [.ref (ad 33), .int (f 1)])
  else .inl (ca 0, 16, .inl f)
def mk_cM (ca : Nat → ClassId) (ad : Nat → Nat) (i : Nat) (f : Nat → Int32) : va_E := match i with
  | 0 => .inr (5, [.int (f 0), .ref (ad 35), .ref (ad 36), .ref (ad 37), .ref (ad 38), .ref (ad 39), .ref (ad 40), .ref (ad 41), .ref (ad 42), .ref (ad 43), .ref (ad 44), .int (f 11), .int (f 12), .ref (ad 45), .ref (ad 46), .ref (ad 47), .ref (ad 48), .ref (ad 49), .ref (ad 50), .ref (ad 51), .ref (ad 52), .ref (ad 53), .int (f 22), .ref (ad 54), .int (f 24), .int (f 25), .int (f 26), .int (f 27), .int (f 28)])
  | 1 => .inl (ca 0, 128, .inl f)
  | 2 => .inl (ca 0, 6, .inl f)
  | 3 => .inl (ca 0, 6, .inl f)
  | 4 => .inl (ca 0, 6, .inl f)
  | 5 => .inl (ca 0, 6, .inl f)
  | 6 => .inl (ca 0, 6, .inl f)
  | 7 => .inl (ca 0, 6, .inl f)
  | 8 => .inl (ca 0, 48, .inl f)
  | 9 => .inl (ca 0, 6, .inl f)
  | 10 => .inl (ca 0, 6, .inl f)
  | 11 => .inl (ca 0, 6, .inl f)
  | 12 => .inl (ca 0, 6, .inl f)
  | 13 => .inl (ca 1, 6, .inl f)
  | 14 => .inl (ca 0, 6, .inl f)
  | 15 => .inl (ca 1, 6, .inl f)
  | 16 => .inl (ca 0, 48, .inl f)
  | 17 => .inl (ca 0, 48, .inl f)
  | 18 => .inl (ca 0, 48, .inl f)
  | 19 => .inl (ca 0, 48, .inl f)
  | _ => .inl (ca 0, 16, .inl f)
def mk_wl (ca : Nat → ClassId) (ad : Nat → Nat) (x : mj_X) : va_W := (List.range 34).map (fun i => (ad i, mk_cK ca ad i (x.1 i))) ++ (List.range 21).map (fun i => (ad (34 + i), mk_cM ca ad i (x.2 i)))
def mk_v (E : mj_E) : mj_V := (E.1, E.2.1, mj_cl, [(E.2.2.1 0, .int), (E.2.2.1 1, .boolean), (E.2.2.1 2, .object "GrantKernel$Task"), (E.2.2.1 3, .object "GrantKernel$Line")], mj_nw, E.2.2.2, mk_wl E.2.2.1 E.2.2.2, fun q => ∃ i, i < 55 ∧ E.2.2.2 i = q)
theorem mk_atK {ca : Nat → ClassId} {ad : Nat → Nat} {k mm : mj_St} {i : Nat} (hi : i < 34) : (mk_wl ca ad (k, mm))[i]? = some (ad i, mk_cK ca ad i (k i)) := by
  unfold mk_wl
  rw [List.getElem?_append_left (by simp; exact hi), List.getElem?_map, List.getElem?_range hi]
  rfl
theorem mk_atM {ca : Nat → ClassId} {ad : Nat → Nat} {k mm : mj_St} {i : Nat} (hi : i < 21) : (mk_wl ca ad (k, mm))[34 + i]? = some (ad (34 + i), mk_cM ca ad i (mm i)) := by
  unfold mk_wl
  rw [List.getElem?_append_right (by simp), List.getElem?_map]
  have : 34 + i - (List.map (fun i => (ad i, mk_cK ca ad i ((k, mm).1 i))) (List.range 34)).length = i := by simp
  rw [this, List.getElem?_range hi]
  rfl
theorem mk_len {ca : Nat → ClassId} {ad : Nat → Nat} {x : mj_X} : (mk_wl ca ad x).length = 55 := by simp [mk_wl]
theorem mk_none {ca : Nat → ClassId} {ad : Nat → Nat} {x : mj_X} {i : Nat} (hi : 55 ≤ i) : (mk_wl ca ad x)[i]? = none := List.getElem?_eq_none (by rw [mk_len]; exact hi)
theorem mk_at {ca : Nat → ClassId} {ad : Nat → Nat} {k mm : mj_St} (i : Nat) : (mk_wl ca ad (k, mm))[i]? = if i < 34 then some (ad i, mk_cK ca ad i (k i)) else if i < 55 then some (ad i, mk_cM ca ad (i - 34) (mm (i - 34))) else none := by
  by_cases h1 : i < 34
  · rw [if_pos h1, mk_atK h1]
  · rw [if_neg h1]
    by_cases h2 : i < 55
    · rw [if_pos h2]
      obtain ⟨j, rfl⟩ : ∃ j, i = 34 + j := ⟨i - 34, by omega⟩
      rw [mk_atM (by omega), Nat.add_sub_cancel_left]
    · rw [if_neg h2]
      exact mk_none (by omega)
theorem mk_setK {ca : Nat → ClassId} {ad : Nat → Nat} {k mm : mj_St} {i j : Nat} {a : Int32} {e : va_E} (hi : i < 34) (he : e = mk_cK ca ad i (upd (k i) j a)) : (mk_wl ca ad (k, mm)).set i (ad i, e) = mk_wl ca ad (mj_up k i j a, mm) := by
  apply List.ext_getElem?
  intro n
  rw [List.getElem?_set, mk_len, mk_at, mk_at]
  by_cases h : i = n
  · subst h
    rw [if_pos rfl, if_pos (by omega), if_pos hi, he]
    simp [mj_up]
  · rw [if_neg h]
    have h2 : ¬ n = i := fun q => h q.symm
    simp [mj_up, h2]
theorem mk_setM {ca : Nat → ClassId} {ad : Nat → Nat} {k mm : mj_St} {i j : Nat} {a : Int32} {e : va_E} (hi : i < 21) (he : e = mk_cM ca ad i (upd (k i) j a)) : (mk_wl ca ad (mm, k)).set (34 + i) (ad (34 + i), e) = mk_wl ca ad (mm, mj_up k i j a) := by
  apply List.ext_getElem?
  intro n
  rw [List.getElem?_set, mk_len, mk_at, mk_at]
  by_cases h : 34 + i = n
  · subst h
    rw [if_pos rfl, if_pos (by omega), if_neg (by omega), if_pos (by omega), he, Nat.add_sub_cancel_left]
    simp [mj_up]
  · rw [if_neg h]
    by_cases h3 : n < 34
    · simp [h3]
    · have h2 : ¬ n - 34 = i := by omega
      simp [mj_up, h2]
theorem mj_sub2 {v : mj_V} {r : mj_R} {pc : Nat} {L l : List (Nat × Value)} {S : List Value} {x : mj_X} (h : mj_G v r pc l S x) (hs : mj_sb L l) : mj_G v r pc L S x := mj_sub hs h
section MK
variable {E : mj_E} {k mm : mj_St}
theorem e_GK  : ((mk_v E).2.2.2.2.2.2.1 (k, mm))[0]? = some (((mk_v E).2.2.2.2.2.1 0), .inr (0, [.int (k 0 0), .ref (E.2.2.2 1), .ref (E.2.2.2 2), .ref (E.2.2.2 15), .ref (E.2.2.2 25), .ref (E.2.2.2 26), .ref (E.2.2.2 32), .int (k 0 7)])) := mk_atK (by decide)
theorem e_Grants  : ((mk_v E).2.2.2.2.2.2.1 (k, mm))[26]? = some (((mk_v E).2.2.2.2.2.1 26), .inr (3, [.ref (E.2.2.2 27), .ref (E.2.2.2 28), .ref (E.2.2.2 29), .ref (E.2.2.2 30), .ref (E.2.2.2 31)])) := mk_atK (by decide)
theorem e_Tape  : ((mk_v E).2.2.2.2.2.2.1 (k, mm))[32]? = some (((mk_v E).2.2.2.2.2.1 32), .inr (4, [.ref (E.2.2.2 33), .int (k 32 1)])) := mk_atK (by decide)
theorem e_Task {i : Nat} (h : mk_T i) : ((mk_v E).2.2.2.2.2.2.1 (k, mm))[i]? = some (((mk_v E).2.2.2.2.2.1 i), .inr (1, [.ref (E.2.2.2 (i + 6)), .int (k i 1), .int (k i 2), .int (k i 3), .int (k i 4), .int (k i 5), .int (k i 6), .int (k i 7), .int (k i 8)])) := (mk_atK (by omega)).trans (by rw [mk_cK, if_neg (by omega), if_neg (by omega), if_neg (by omega), if_pos (by omega)]; rfl)
theorem e_Line {i : Nat} (h : mk_N i) : ((mk_v E).2.2.2.2.2.2.1 (k, mm))[i]? = some (((mk_v E).2.2.2.2.2.1 i), .inr (2, [.ref (E.2.2.2 (i + 5)), .int (k i 1)])) := (mk_atK (by omega)).trans (by rw [mk_cK, if_neg (by omega), if_neg (by omega), if_neg (by omega), if_neg (by omega), if_neg (by omega), if_pos (by omega)]; rfl)
theorem e_regs {i : Nat} (h : mk_T i) : ((mk_v E).2.2.2.2.2.2.1 (k, mm))[(i + 6)]? = some (((mk_v E).2.2.2.2.2.1 (i + 6)), .inl (E.2.2.1 0, 8, .inl (k (i + 6)))) := (mk_atK (by omega)).trans (by rw [mk_cK, if_neg (by omega), if_neg (by omega), if_neg (by omega), if_neg (by omega), if_pos (by omega)]; rfl)
theorem e_threads {i : Nat} (h : mk_N i) : ((mk_v E).2.2.2.2.2.2.1 (k, mm))[(i + 5)]? = some (((mk_v E).2.2.2.2.2.1 (i + 5)), .inl (E.2.2.1 0, 6, .inl (k (i + 5)))) := (mk_atK (by omega)).trans (by rw [mk_cK, if_neg (by omega), if_neg (by omega), if_neg (by omega), if_neg (by omega), if_neg (by omega), if_neg (by omega), if_pos (by omega)]; rfl)
theorem e_memory  : ((mk_v E).2.2.2.2.2.2.1 (k, mm))[1]? = some (((mk_v E).2.2.2.2.2.1 1), .inl (E.2.2.1 0, 128, .inl (k 1))) := mk_atK (by decide)
theorem s_memory {j : Nat} {a : Int32} : List.set ((mk_v E).2.2.2.2.2.2.1 (k, mm)) 1 (((mk_v E).2.2.2.2.2.1 1), .inl (E.2.2.1 0, 128, .inl (upd (k 1) j a))) = ((mk_v E).2.2.2.2.2.2.1 (mj_up k 1 j a, mm)) := mk_setK (by decide) rfl
theorem e_kinds  : ((mk_v E).2.2.2.2.2.2.1 (k, mm))[27]? = some (((mk_v E).2.2.2.2.2.1 27), .inl (E.2.2.1 0, 48, .inl (k 27))) := mk_atK (by decide)
theorem s_kinds {j : Nat} {a : Int32} : List.set ((mk_v E).2.2.2.2.2.2.1 (k, mm)) 27 (((mk_v E).2.2.2.2.2.1 27), .inl (E.2.2.1 0, 48, .inl (upd (k 27) j a))) = ((mk_v E).2.2.2.2.2.2.1 (mj_up k 27 j a, mm)) := mk_setK (by decide) rfl
theorem e_objects  : ((mk_v E).2.2.2.2.2.2.1 (k, mm))[28]? = some (((mk_v E).2.2.2.2.2.1 28), .inl (E.2.2.1 0, 48, .inl (k 28))) := mk_atK (by decide)
theorem s_objects {j : Nat} {a : Int32} : List.set ((mk_v E).2.2.2.2.2.2.1 (k, mm)) 28 (((mk_v E).2.2.2.2.2.1 28), .inl (E.2.2.1 0, 48, .inl (upd (k 28) j a))) = ((mk_v E).2.2.2.2.2.2.1 (mj_up k 28 j a, mm)) := mk_setK (by decide) rfl
theorem e_rights  : ((mk_v E).2.2.2.2.2.2.1 (k, mm))[29]? = some (((mk_v E).2.2.2.2.2.1 29), .inl (E.2.2.1 0, 48, .inl (k 29))) := mk_atK (by decide)
theorem s_rights {j : Nat} {a : Int32} : List.set ((mk_v E).2.2.2.2.2.2.1 (k, mm)) 29 (((mk_v E).2.2.2.2.2.1 29), .inl (E.2.2.1 0, 48, .inl (upd (k 29) j a))) = ((mk_v E).2.2.2.2.2.2.1 (mj_up k 29 j a, mm)) := mk_setK (by decide) rfl
theorem e_parents  : ((mk_v E).2.2.2.2.2.2.1 (k, mm))[30]? = some (((mk_v E).2.2.2.2.2.1 30), .inl (E.2.2.1 0, 48, .inl (k 30))) := mk_atK (by decide)
theorem s_parents {j : Nat} {a : Int32} : List.set ((mk_v E).2.2.2.2.2.2.1 (k, mm)) 30 (((mk_v E).2.2.2.2.2.1 30), .inl (E.2.2.1 0, 48, .inl (upd (k 30) j a))) = ((mk_v E).2.2.2.2.2.2.1 (mj_up k 30 j a, mm)) := mk_setK (by decide) rfl
theorem e_doomed  : ((mk_v E).2.2.2.2.2.2.1 (k, mm))[31]? = some (((mk_v E).2.2.2.2.2.1 31), .inl (E.2.2.1 1, 48, .inl (k 31))) := mk_atK (by decide)
theorem s_doomed {j : Nat} {a : Int32} : List.set ((mk_v E).2.2.2.2.2.2.1 (k, mm)) 31 (((mk_v E).2.2.2.2.2.1 31), .inl (E.2.2.1 1, 48, .inl (upd (k 31) j a))) = ((mk_v E).2.2.2.2.2.2.1 (mj_up k 31 j a, mm)) := mk_setK (by decide) rfl
theorem e_latest  : ((mk_v E).2.2.2.2.2.2.1 (k, mm))[33]? = some (((mk_v E).2.2.2.2.2.1 33), .inl (E.2.2.1 0, 16, .inl (k 33))) := mk_atK (by decide)
theorem s_latest {j : Nat} {a : Int32} : List.set ((mk_v E).2.2.2.2.2.2.1 (k, mm)) 33 (((mk_v E).2.2.2.2.2.1 33), .inl (E.2.2.1 0, 16, .inl (upd (k 33) j a))) = ((mk_v E).2.2.2.2.2.2.1 (mj_up k 33 j a, mm)) := mk_setK (by decide) rfl
theorem e_tasks  : ((mk_v E).2.2.2.2.2.2.1 (k, mm))[2]? = some (((mk_v E).2.2.2.2.2.1 2), .inl (E.2.2.1 2, 6, .inr (.inr (.inr (.inr (fun j => some (E.2.2.2 (3 + j)))))))) := mk_atK (by decide)
theorem e_lines  : ((mk_v E).2.2.2.2.2.2.1 (k, mm))[25]? = some (((mk_v E).2.2.2.2.2.1 25), .inl (E.2.2.1 3, 4, .inr (.inr (.inr (.inr (fun j => some (E.2.2.2 (16 + j)))))))) := mk_atK (by decide)
theorem s_regs {i j : Nat} {a : Int32} (h : mk_T i) : List.set ((mk_v E).2.2.2.2.2.2.1 (k, mm)) (i + 6) (((mk_v E).2.2.2.2.2.1 (i + 6)), .inl (E.2.2.1 0, 8, .inl (upd (k (i + 6)) j a))) = ((mk_v E).2.2.2.2.2.2.1 (mj_up k (i + 6) j a, mm)) := mk_setK (by omega) (by rw [mk_cK, if_neg (by omega), if_neg (by omega), if_neg (by omega), if_neg (by omega), if_pos (by omega)])
theorem s_threads {i j : Nat} {a : Int32} (h : mk_N i) : List.set ((mk_v E).2.2.2.2.2.2.1 (k, mm)) (i + 5) (((mk_v E).2.2.2.2.2.1 (i + 5)), .inl (E.2.2.1 0, 6, .inl (upd (k (i + 5)) j a))) = ((mk_v E).2.2.2.2.2.2.1 (mj_up k (i + 5) j a, mm)) := mk_setK (by omega) (by rw [mk_cK, if_neg (by omega), if_neg (by omega), if_neg (by omega), if_neg (by omega), if_neg (by omega), if_neg (by omega), if_pos (by omega)])
theorem s_GK_7  {a : Int32} : List.set ((mk_v E).2.2.2.2.2.2.1 (k, mm)) 0 (((mk_v E).2.2.2.2.2.1 0), .inr (0, List.set [.int (k 0 0), .ref (E.2.2.2 1), .ref (E.2.2.2 2), .ref (E.2.2.2 15), .ref (E.2.2.2 25), .ref (E.2.2.2 26), .ref (E.2.2.2 32), .int (k 0 7)] 7 (.int a))) = ((mk_v E).2.2.2.2.2.2.1 (mj_up k 0 7 a, mm)) := mk_setK (by decide) rfl
theorem s_Tape_1  {a : Int32} : List.set ((mk_v E).2.2.2.2.2.2.1 (k, mm)) 32 (((mk_v E).2.2.2.2.2.1 32), .inr (4, List.set [.ref (E.2.2.2 33), .int (k 32 1)] 1 (.int a))) = ((mk_v E).2.2.2.2.2.2.1 (mj_up k 32 1 a, mm)) := mk_setK (by decide) rfl
theorem s_Task_1 {i : Nat} (h : mk_T i) {a : Int32} : List.set ((mk_v E).2.2.2.2.2.2.1 (k, mm)) i (((mk_v E).2.2.2.2.2.1 i), .inr (1, List.set [.ref (E.2.2.2 (i + 6)), .int (k i 1), .int (k i 2), .int (k i 3), .int (k i 4), .int (k i 5), .int (k i 6), .int (k i 7), .int (k i 8)] 1 (.int a))) = ((mk_v E).2.2.2.2.2.2.1 (mj_up k i 1 a, mm)) := mk_setK (by omega) (by rw [mk_cK, if_neg (by omega), if_neg (by omega), if_neg (by omega), if_pos (by omega)]; rfl)
theorem s_Task_2 {i : Nat} (h : mk_T i) {a : Int32} : List.set ((mk_v E).2.2.2.2.2.2.1 (k, mm)) i (((mk_v E).2.2.2.2.2.1 i), .inr (1, List.set [.ref (E.2.2.2 (i + 6)), .int (k i 1), .int (k i 2), .int (k i 3), .int (k i 4), .int (k i 5), .int (k i 6), .int (k i 7), .int (k i 8)] 2 (.int a))) = ((mk_v E).2.2.2.2.2.2.1 (mj_up k i 2 a, mm)) := mk_setK (by omega) (by rw [mk_cK, if_neg (by omega), if_neg (by omega), if_neg (by omega), if_pos (by omega)]; rfl)
theorem s_Task_3 {i : Nat} (h : mk_T i) {a : Int32} : List.set ((mk_v E).2.2.2.2.2.2.1 (k, mm)) i (((mk_v E).2.2.2.2.2.1 i), .inr (1, List.set [.ref (E.2.2.2 (i + 6)), .int (k i 1), .int (k i 2), .int (k i 3), .int (k i 4), .int (k i 5), .int (k i 6), .int (k i 7), .int (k i 8)] 3 (.int a))) = ((mk_v E).2.2.2.2.2.2.1 (mj_up k i 3 a, mm)) := mk_setK (by omega) (by rw [mk_cK, if_neg (by omega), if_neg (by omega), if_neg (by omega), if_pos (by omega)]; rfl)
theorem s_Task_4 {i : Nat} (h : mk_T i) {a : Int32} : List.set ((mk_v E).2.2.2.2.2.2.1 (k, mm)) i (((mk_v E).2.2.2.2.2.1 i), .inr (1, List.set [.ref (E.2.2.2 (i + 6)), .int (k i 1), .int (k i 2), .int (k i 3), .int (k i 4), .int (k i 5), .int (k i 6), .int (k i 7), .int (k i 8)] 4 (.int a))) = ((mk_v E).2.2.2.2.2.2.1 (mj_up k i 4 a, mm)) := mk_setK (by omega) (by rw [mk_cK, if_neg (by omega), if_neg (by omega), if_neg (by omega), if_pos (by omega)]; rfl)
theorem s_Task_5 {i : Nat} (h : mk_T i) {a : Int32} : List.set ((mk_v E).2.2.2.2.2.2.1 (k, mm)) i (((mk_v E).2.2.2.2.2.1 i), .inr (1, List.set [.ref (E.2.2.2 (i + 6)), .int (k i 1), .int (k i 2), .int (k i 3), .int (k i 4), .int (k i 5), .int (k i 6), .int (k i 7), .int (k i 8)] 5 (.int a))) = ((mk_v E).2.2.2.2.2.2.1 (mj_up k i 5 a, mm)) := mk_setK (by omega) (by rw [mk_cK, if_neg (by omega), if_neg (by omega), if_neg (by omega), if_pos (by omega)]; rfl)
theorem s_Task_6 {i : Nat} (h : mk_T i) {a : Int32} : List.set ((mk_v E).2.2.2.2.2.2.1 (k, mm)) i (((mk_v E).2.2.2.2.2.1 i), .inr (1, List.set [.ref (E.2.2.2 (i + 6)), .int (k i 1), .int (k i 2), .int (k i 3), .int (k i 4), .int (k i 5), .int (k i 6), .int (k i 7), .int (k i 8)] 6 (.int a))) = ((mk_v E).2.2.2.2.2.2.1 (mj_up k i 6 a, mm)) := mk_setK (by omega) (by rw [mk_cK, if_neg (by omega), if_neg (by omega), if_neg (by omega), if_pos (by omega)]; rfl)
theorem s_Task_7 {i : Nat} (h : mk_T i) {a : Int32} : List.set ((mk_v E).2.2.2.2.2.2.1 (k, mm)) i (((mk_v E).2.2.2.2.2.1 i), .inr (1, List.set [.ref (E.2.2.2 (i + 6)), .int (k i 1), .int (k i 2), .int (k i 3), .int (k i 4), .int (k i 5), .int (k i 6), .int (k i 7), .int (k i 8)] 7 (.int a))) = ((mk_v E).2.2.2.2.2.2.1 (mj_up k i 7 a, mm)) := mk_setK (by omega) (by rw [mk_cK, if_neg (by omega), if_neg (by omega), if_neg (by omega), if_pos (by omega)]; rfl)
theorem s_Task_8 {i : Nat} (h : mk_T i) {a : Int32} : List.set ((mk_v E).2.2.2.2.2.2.1 (k, mm)) i (((mk_v E).2.2.2.2.2.1 i), .inr (1, List.set [.ref (E.2.2.2 (i + 6)), .int (k i 1), .int (k i 2), .int (k i 3), .int (k i 4), .int (k i 5), .int (k i 6), .int (k i 7), .int (k i 8)] 8 (.int a))) = ((mk_v E).2.2.2.2.2.2.1 (mj_up k i 8 a, mm)) := mk_setK (by omega) (by rw [mk_cK, if_neg (by omega), if_neg (by omega), if_neg (by omega), if_pos (by omega)]; rfl)
theorem s_Line_1 {i : Nat} (h : mk_N i) {a : Int32} : List.set ((mk_v E).2.2.2.2.2.2.1 (k, mm)) i (((mk_v E).2.2.2.2.2.1 i), .inr (2, List.set [.ref (E.2.2.2 (i + 5)), .int (k i 1)] 1 (.int a))) = ((mk_v E).2.2.2.2.2.2.1 (mj_up k i 1 a, mm)) := mk_setK (by omega) (by rw [mk_cK, if_neg (by omega), if_neg (by omega), if_neg (by omega), if_neg (by omega), if_neg (by omega), if_pos (by omega)]; rfl)
theorem e_Model  : ((mk_v E).2.2.2.2.2.2.1 (mm, k))[34]? = some (((mk_v E).2.2.2.2.2.1 34), .inr (5, [.int (k 0 0), .ref (E.2.2.2 35), .ref (E.2.2.2 36), .ref (E.2.2.2 37), .ref (E.2.2.2 38), .ref (E.2.2.2 39), .ref (E.2.2.2 40), .ref (E.2.2.2 41), .ref (E.2.2.2 42), .ref (E.2.2.2 43), .ref (E.2.2.2 44), .int (k 0 11), .int (k 0 12), .ref (E.2.2.2 45), .ref (E.2.2.2 46), .ref (E.2.2.2 47), .ref (E.2.2.2 48), .ref (E.2.2.2 49), .ref (E.2.2.2 50), .ref (E.2.2.2 51), .ref (E.2.2.2 52), .ref (E.2.2.2 53), .int (k 0 22), .ref (E.2.2.2 54), .int (k 0 24), .int (k 0 25), .int (k 0 26), .int (k 0 27), .int (k 0 28)])) := mk_atM (i := 0) (by decide)
theorem s_Model_11 {a : Int32} : List.set ((mk_v E).2.2.2.2.2.2.1 (mm, k)) 34 (((mk_v E).2.2.2.2.2.1 34), .inr (5, List.set [.int (k 0 0), .ref (E.2.2.2 35), .ref (E.2.2.2 36), .ref (E.2.2.2 37), .ref (E.2.2.2 38), .ref (E.2.2.2 39), .ref (E.2.2.2 40), .ref (E.2.2.2 41), .ref (E.2.2.2 42), .ref (E.2.2.2 43), .ref (E.2.2.2 44), .int (k 0 11), .int (k 0 12), .ref (E.2.2.2 45), .ref (E.2.2.2 46), .ref (E.2.2.2 47), .ref (E.2.2.2 48), .ref (E.2.2.2 49), .ref (E.2.2.2 50), .ref (E.2.2.2 51), .ref (E.2.2.2 52), .ref (E.2.2.2 53), .int (k 0 22), .ref (E.2.2.2 54), .int (k 0 24), .int (k 0 25), .int (k 0 26), .int (k 0 27), .int (k 0 28)] 11 (.int a))) = ((mk_v E).2.2.2.2.2.2.1 (mm, mj_up k 0 11 a)) := mk_setM (i := 0) (by decide) rfl
theorem s_Model_12 {a : Int32} : List.set ((mk_v E).2.2.2.2.2.2.1 (mm, k)) 34 (((mk_v E).2.2.2.2.2.1 34), .inr (5, List.set [.int (k 0 0), .ref (E.2.2.2 35), .ref (E.2.2.2 36), .ref (E.2.2.2 37), .ref (E.2.2.2 38), .ref (E.2.2.2 39), .ref (E.2.2.2 40), .ref (E.2.2.2 41), .ref (E.2.2.2 42), .ref (E.2.2.2 43), .ref (E.2.2.2 44), .int (k 0 11), .int (k 0 12), .ref (E.2.2.2 45), .ref (E.2.2.2 46), .ref (E.2.2.2 47), .ref (E.2.2.2 48), .ref (E.2.2.2 49), .ref (E.2.2.2 50), .ref (E.2.2.2 51), .ref (E.2.2.2 52), .ref (E.2.2.2 53), .int (k 0 22), .ref (E.2.2.2 54), .int (k 0 24), .int (k 0 25), .int (k 0 26), .int (k 0 27), .int (k 0 28)] 12 (.int a))) = ((mk_v E).2.2.2.2.2.2.1 (mm, mj_up k 0 12 a)) := mk_setM (i := 0) (by decide) rfl
theorem s_Model_22 {a : Int32} : List.set ((mk_v E).2.2.2.2.2.2.1 (mm, k)) 34 (((mk_v E).2.2.2.2.2.1 34), .inr (5, List.set [.int (k 0 0), .ref (E.2.2.2 35), .ref (E.2.2.2 36), .ref (E.2.2.2 37), .ref (E.2.2.2 38), .ref (E.2.2.2 39), .ref (E.2.2.2 40), .ref (E.2.2.2 41), .ref (E.2.2.2 42), .ref (E.2.2.2 43), .ref (E.2.2.2 44), .int (k 0 11), .int (k 0 12), .ref (E.2.2.2 45), .ref (E.2.2.2 46), .ref (E.2.2.2 47), .ref (E.2.2.2 48), .ref (E.2.2.2 49), .ref (E.2.2.2 50), .ref (E.2.2.2 51), .ref (E.2.2.2 52), .ref (E.2.2.2 53), .int (k 0 22), .ref (E.2.2.2 54), .int (k 0 24), .int (k 0 25), .int (k 0 26), .int (k 0 27), .int (k 0 28)] 22 (.int a))) = ((mk_v E).2.2.2.2.2.2.1 (mm, mj_up k 0 22 a)) := mk_setM (i := 0) (by decide) rfl
theorem s_Model_24 {a : Int32} : List.set ((mk_v E).2.2.2.2.2.2.1 (mm, k)) 34 (((mk_v E).2.2.2.2.2.1 34), .inr (5, List.set [.int (k 0 0), .ref (E.2.2.2 35), .ref (E.2.2.2 36), .ref (E.2.2.2 37), .ref (E.2.2.2 38), .ref (E.2.2.2 39), .ref (E.2.2.2 40), .ref (E.2.2.2 41), .ref (E.2.2.2 42), .ref (E.2.2.2 43), .ref (E.2.2.2 44), .int (k 0 11), .int (k 0 12), .ref (E.2.2.2 45), .ref (E.2.2.2 46), .ref (E.2.2.2 47), .ref (E.2.2.2 48), .ref (E.2.2.2 49), .ref (E.2.2.2 50), .ref (E.2.2.2 51), .ref (E.2.2.2 52), .ref (E.2.2.2 53), .int (k 0 22), .ref (E.2.2.2 54), .int (k 0 24), .int (k 0 25), .int (k 0 26), .int (k 0 27), .int (k 0 28)] 24 (.int a))) = ((mk_v E).2.2.2.2.2.2.1 (mm, mj_up k 0 24 a)) := mk_setM (i := 0) (by decide) rfl
theorem s_Model_25 {a : Int32} : List.set ((mk_v E).2.2.2.2.2.2.1 (mm, k)) 34 (((mk_v E).2.2.2.2.2.1 34), .inr (5, List.set [.int (k 0 0), .ref (E.2.2.2 35), .ref (E.2.2.2 36), .ref (E.2.2.2 37), .ref (E.2.2.2 38), .ref (E.2.2.2 39), .ref (E.2.2.2 40), .ref (E.2.2.2 41), .ref (E.2.2.2 42), .ref (E.2.2.2 43), .ref (E.2.2.2 44), .int (k 0 11), .int (k 0 12), .ref (E.2.2.2 45), .ref (E.2.2.2 46), .ref (E.2.2.2 47), .ref (E.2.2.2 48), .ref (E.2.2.2 49), .ref (E.2.2.2 50), .ref (E.2.2.2 51), .ref (E.2.2.2 52), .ref (E.2.2.2 53), .int (k 0 22), .ref (E.2.2.2 54), .int (k 0 24), .int (k 0 25), .int (k 0 26), .int (k 0 27), .int (k 0 28)] 25 (.int a))) = ((mk_v E).2.2.2.2.2.2.1 (mm, mj_up k 0 25 a)) := mk_setM (i := 0) (by decide) rfl
theorem s_Model_26 {a : Int32} : List.set ((mk_v E).2.2.2.2.2.2.1 (mm, k)) 34 (((mk_v E).2.2.2.2.2.1 34), .inr (5, List.set [.int (k 0 0), .ref (E.2.2.2 35), .ref (E.2.2.2 36), .ref (E.2.2.2 37), .ref (E.2.2.2 38), .ref (E.2.2.2 39), .ref (E.2.2.2 40), .ref (E.2.2.2 41), .ref (E.2.2.2 42), .ref (E.2.2.2 43), .ref (E.2.2.2 44), .int (k 0 11), .int (k 0 12), .ref (E.2.2.2 45), .ref (E.2.2.2 46), .ref (E.2.2.2 47), .ref (E.2.2.2 48), .ref (E.2.2.2 49), .ref (E.2.2.2 50), .ref (E.2.2.2 51), .ref (E.2.2.2 52), .ref (E.2.2.2 53), .int (k 0 22), .ref (E.2.2.2 54), .int (k 0 24), .int (k 0 25), .int (k 0 26), .int (k 0 27), .int (k 0 28)] 26 (.int a))) = ((mk_v E).2.2.2.2.2.2.1 (mm, mj_up k 0 26 a)) := mk_setM (i := 0) (by decide) rfl
theorem s_Model_27 {a : Int32} : List.set ((mk_v E).2.2.2.2.2.2.1 (mm, k)) 34 (((mk_v E).2.2.2.2.2.1 34), .inr (5, List.set [.int (k 0 0), .ref (E.2.2.2 35), .ref (E.2.2.2 36), .ref (E.2.2.2 37), .ref (E.2.2.2 38), .ref (E.2.2.2 39), .ref (E.2.2.2 40), .ref (E.2.2.2 41), .ref (E.2.2.2 42), .ref (E.2.2.2 43), .ref (E.2.2.2 44), .int (k 0 11), .int (k 0 12), .ref (E.2.2.2 45), .ref (E.2.2.2 46), .ref (E.2.2.2 47), .ref (E.2.2.2 48), .ref (E.2.2.2 49), .ref (E.2.2.2 50), .ref (E.2.2.2 51), .ref (E.2.2.2 52), .ref (E.2.2.2 53), .int (k 0 22), .ref (E.2.2.2 54), .int (k 0 24), .int (k 0 25), .int (k 0 26), .int (k 0 27), .int (k 0 28)] 27 (.int a))) = ((mk_v E).2.2.2.2.2.2.1 (mm, mj_up k 0 27 a)) := mk_setM (i := 0) (by decide) rfl
theorem s_Model_28 {a : Int32} : List.set ((mk_v E).2.2.2.2.2.2.1 (mm, k)) 34 (((mk_v E).2.2.2.2.2.1 34), .inr (5, List.set [.int (k 0 0), .ref (E.2.2.2 35), .ref (E.2.2.2 36), .ref (E.2.2.2 37), .ref (E.2.2.2 38), .ref (E.2.2.2 39), .ref (E.2.2.2 40), .ref (E.2.2.2 41), .ref (E.2.2.2 42), .ref (E.2.2.2 43), .ref (E.2.2.2 44), .int (k 0 11), .int (k 0 12), .ref (E.2.2.2 45), .ref (E.2.2.2 46), .ref (E.2.2.2 47), .ref (E.2.2.2 48), .ref (E.2.2.2 49), .ref (E.2.2.2 50), .ref (E.2.2.2 51), .ref (E.2.2.2 52), .ref (E.2.2.2 53), .int (k 0 22), .ref (E.2.2.2 54), .int (k 0 24), .int (k 0 25), .int (k 0 26), .int (k 0 27), .int (k 0 28)] 28 (.int a))) = ((mk_v E).2.2.2.2.2.2.1 (mm, mj_up k 0 28 a)) := mk_setM (i := 0) (by decide) rfl
theorem e_m_memory  : ((mk_v E).2.2.2.2.2.2.1 (mm, k))[35]? = some (((mk_v E).2.2.2.2.2.1 35), .inl (E.2.2.1 0, 128, .inl (k 1))) := mk_atM (i := 1) (by decide)
theorem s_m_memory {j : Nat} {a : Int32} : List.set ((mk_v E).2.2.2.2.2.2.1 (mm, k)) 35 (((mk_v E).2.2.2.2.2.1 35), .inl (E.2.2.1 0, 128, .inl (upd (k 1) j a))) = ((mk_v E).2.2.2.2.2.2.1 (mm, mj_up k 1 j a)) := mk_setM (i := 1) (by decide) rfl
theorem e_m_states  : ((mk_v E).2.2.2.2.2.2.1 (mm, k))[36]? = some (((mk_v E).2.2.2.2.2.1 36), .inl (E.2.2.1 0, 6, .inl (k 2))) := mk_atM (i := 2) (by decide)
theorem s_m_states {j : Nat} {a : Int32} : List.set ((mk_v E).2.2.2.2.2.2.1 (mm, k)) 36 (((mk_v E).2.2.2.2.2.1 36), .inl (E.2.2.1 0, 6, .inl (upd (k 2) j a))) = ((mk_v E).2.2.2.2.2.2.1 (mm, mj_up k 2 j a)) := mk_setM (i := 2) (by decide) rfl
theorem e_m_faults  : ((mk_v E).2.2.2.2.2.2.1 (mm, k))[37]? = some (((mk_v E).2.2.2.2.2.1 37), .inl (E.2.2.1 0, 6, .inl (k 3))) := mk_atM (i := 3) (by decide)
theorem s_m_faults {j : Nat} {a : Int32} : List.set ((mk_v E).2.2.2.2.2.2.1 (mm, k)) 37 (((mk_v E).2.2.2.2.2.1 37), .inl (E.2.2.1 0, 6, .inl (upd (k 3) j a))) = ((mk_v E).2.2.2.2.2.2.1 (mm, mj_up k 3 j a)) := mk_setM (i := 3) (by decide) rfl
theorem e_m_counters  : ((mk_v E).2.2.2.2.2.2.1 (mm, k))[38]? = some (((mk_v E).2.2.2.2.2.1 38), .inl (E.2.2.1 0, 6, .inl (k 4))) := mk_atM (i := 4) (by decide)
theorem s_m_counters {j : Nat} {a : Int32} : List.set ((mk_v E).2.2.2.2.2.2.1 (mm, k)) 38 (((mk_v E).2.2.2.2.2.1 38), .inl (E.2.2.1 0, 6, .inl (upd (k 4) j a))) = ((mk_v E).2.2.2.2.2.2.1 (mm, mj_up k 4 j a)) := mk_setM (i := 4) (by decide) rfl
theorem e_m_bases  : ((mk_v E).2.2.2.2.2.2.1 (mm, k))[39]? = some (((mk_v E).2.2.2.2.2.1 39), .inl (E.2.2.1 0, 6, .inl (k 5))) := mk_atM (i := 5) (by decide)
theorem s_m_bases {j : Nat} {a : Int32} : List.set ((mk_v E).2.2.2.2.2.2.1 (mm, k)) 39 (((mk_v E).2.2.2.2.2.1 39), .inl (E.2.2.1 0, 6, .inl (upd (k 5) j a))) = ((mk_v E).2.2.2.2.2.2.1 (mm, mj_up k 5 j a)) := mk_setM (i := 5) (by decide) rfl
theorem e_m_lengths  : ((mk_v E).2.2.2.2.2.2.1 (mm, k))[40]? = some (((mk_v E).2.2.2.2.2.1 40), .inl (E.2.2.1 0, 6, .inl (k 6))) := mk_atM (i := 6) (by decide)
theorem s_m_lengths {j : Nat} {a : Int32} : List.set ((mk_v E).2.2.2.2.2.2.1 (mm, k)) 40 (((mk_v E).2.2.2.2.2.1 40), .inl (E.2.2.1 0, 6, .inl (upd (k 6) j a))) = ((mk_v E).2.2.2.2.2.2.1 (mm, mj_up k 6 j a)) := mk_setM (i := 6) (by decide) rfl
theorem e_m_callers  : ((mk_v E).2.2.2.2.2.2.1 (mm, k))[41]? = some (((mk_v E).2.2.2.2.2.1 41), .inl (E.2.2.1 0, 6, .inl (k 7))) := mk_atM (i := 7) (by decide)
theorem s_m_callers {j : Nat} {a : Int32} : List.set ((mk_v E).2.2.2.2.2.2.1 (mm, k)) 41 (((mk_v E).2.2.2.2.2.1 41), .inl (E.2.2.1 0, 6, .inl (upd (k 7) j a))) = ((mk_v E).2.2.2.2.2.2.1 (mm, mj_up k 7 j a)) := mk_setM (i := 7) (by decide) rfl
theorem e_m_registers  : ((mk_v E).2.2.2.2.2.2.1 (mm, k))[42]? = some (((mk_v E).2.2.2.2.2.1 42), .inl (E.2.2.1 0, 48, .inl (k 8))) := mk_atM (i := 8) (by decide)
theorem s_m_registers {j : Nat} {a : Int32} : List.set ((mk_v E).2.2.2.2.2.2.1 (mm, k)) 42 (((mk_v E).2.2.2.2.2.1 42), .inl (E.2.2.1 0, 48, .inl (upd (k 8) j a))) = ((mk_v E).2.2.2.2.2.2.1 (mm, mj_up k 8 j a)) := mk_setM (i := 8) (by decide) rfl
theorem e_m_tickets  : ((mk_v E).2.2.2.2.2.2.1 (mm, k))[43]? = some (((mk_v E).2.2.2.2.2.1 43), .inl (E.2.2.1 0, 6, .inl (k 9))) := mk_atM (i := 9) (by decide)
theorem s_m_tickets {j : Nat} {a : Int32} : List.set ((mk_v E).2.2.2.2.2.2.1 (mm, k)) 43 (((mk_v E).2.2.2.2.2.1 43), .inl (E.2.2.1 0, 6, .inl (upd (k 9) j a))) = ((mk_v E).2.2.2.2.2.2.1 (mm, mj_up k 9 j a)) := mk_setM (i := 9) (by decide) rfl
theorem e_m_places  : ((mk_v E).2.2.2.2.2.2.1 (mm, k))[44]? = some (((mk_v E).2.2.2.2.2.1 44), .inl (E.2.2.1 0, 6, .inl (k 10))) := mk_atM (i := 10) (by decide)
theorem s_m_places {j : Nat} {a : Int32} : List.set ((mk_v E).2.2.2.2.2.2.1 (mm, k)) 44 (((mk_v E).2.2.2.2.2.1 44), .inl (E.2.2.1 0, 6, .inl (upd (k 10) j a))) = ((mk_v E).2.2.2.2.2.2.1 (mm, mj_up k 10 j a)) := mk_setM (i := 10) (by decide) rfl
theorem e_m_saidB  : ((mk_v E).2.2.2.2.2.2.1 (mm, k))[45]? = some (((mk_v E).2.2.2.2.2.1 45), .inl (E.2.2.1 0, 6, .inl (k 11))) := mk_atM (i := 11) (by decide)
theorem s_m_saidB {j : Nat} {a : Int32} : List.set ((mk_v E).2.2.2.2.2.2.1 (mm, k)) 45 (((mk_v E).2.2.2.2.2.1 45), .inl (E.2.2.1 0, 6, .inl (upd (k 11) j a))) = ((mk_v E).2.2.2.2.2.2.1 (mm, mj_up k 11 j a)) := mk_setM (i := 11) (by decide) rfl
theorem e_m_saidC  : ((mk_v E).2.2.2.2.2.2.1 (mm, k))[46]? = some (((mk_v E).2.2.2.2.2.1 46), .inl (E.2.2.1 0, 6, .inl (k 12))) := mk_atM (i := 12) (by decide)
theorem s_m_saidC {j : Nat} {a : Int32} : List.set ((mk_v E).2.2.2.2.2.2.1 (mm, k)) 46 (((mk_v E).2.2.2.2.2.1 46), .inl (E.2.2.1 0, 6, .inl (upd (k 12) j a))) = ((mk_v E).2.2.2.2.2.2.1 (mm, mj_up k 12 j a)) := mk_setM (i := 12) (by decide) rfl
theorem e_m_grants  : ((mk_v E).2.2.2.2.2.2.1 (mm, k))[47]? = some (((mk_v E).2.2.2.2.2.1 47), .inl (E.2.2.1 1, 6, .inl (k 13))) := mk_atM (i := 13) (by decide)
theorem s_m_grants {j : Nat} {a : Int32} : List.set ((mk_v E).2.2.2.2.2.2.1 (mm, k)) 47 (((mk_v E).2.2.2.2.2.1 47), .inl (E.2.2.1 1, 6, .inl (upd (k 13) j a))) = ((mk_v E).2.2.2.2.2.2.1 (mm, mj_up k 13 j a)) := mk_setM (i := 13) (by decide) rfl
theorem e_m_words  : ((mk_v E).2.2.2.2.2.2.1 (mm, k))[48]? = some (((mk_v E).2.2.2.2.2.1 48), .inl (E.2.2.1 0, 6, .inl (k 14))) := mk_atM (i := 14) (by decide)
theorem s_m_words {j : Nat} {a : Int32} : List.set ((mk_v E).2.2.2.2.2.2.1 (mm, k)) 48 (((mk_v E).2.2.2.2.2.1 48), .inl (E.2.2.1 0, 6, .inl (upd (k 14) j a))) = ((mk_v E).2.2.2.2.2.2.1 (mm, mj_up k 14 j a)) := mk_setM (i := 14) (by decide) rfl
theorem e_m_calls  : ((mk_v E).2.2.2.2.2.2.1 (mm, k))[49]? = some (((mk_v E).2.2.2.2.2.1 49), .inl (E.2.2.1 1, 6, .inl (k 15))) := mk_atM (i := 15) (by decide)
theorem s_m_calls {j : Nat} {a : Int32} : List.set ((mk_v E).2.2.2.2.2.2.1 (mm, k)) 49 (((mk_v E).2.2.2.2.2.1 49), .inl (E.2.2.1 1, 6, .inl (upd (k 15) j a))) = ((mk_v E).2.2.2.2.2.2.1 (mm, mj_up k 15 j a)) := mk_setM (i := 15) (by decide) rfl
theorem e_m_kinds  : ((mk_v E).2.2.2.2.2.2.1 (mm, k))[50]? = some (((mk_v E).2.2.2.2.2.1 50), .inl (E.2.2.1 0, 48, .inl (k 16))) := mk_atM (i := 16) (by decide)
theorem s_m_kinds {j : Nat} {a : Int32} : List.set ((mk_v E).2.2.2.2.2.2.1 (mm, k)) 50 (((mk_v E).2.2.2.2.2.1 50), .inl (E.2.2.1 0, 48, .inl (upd (k 16) j a))) = ((mk_v E).2.2.2.2.2.2.1 (mm, mj_up k 16 j a)) := mk_setM (i := 16) (by decide) rfl
theorem e_m_objects  : ((mk_v E).2.2.2.2.2.2.1 (mm, k))[51]? = some (((mk_v E).2.2.2.2.2.1 51), .inl (E.2.2.1 0, 48, .inl (k 17))) := mk_atM (i := 17) (by decide)
theorem s_m_objects {j : Nat} {a : Int32} : List.set ((mk_v E).2.2.2.2.2.2.1 (mm, k)) 51 (((mk_v E).2.2.2.2.2.1 51), .inl (E.2.2.1 0, 48, .inl (upd (k 17) j a))) = ((mk_v E).2.2.2.2.2.2.1 (mm, mj_up k 17 j a)) := mk_setM (i := 17) (by decide) rfl
theorem e_m_rights  : ((mk_v E).2.2.2.2.2.2.1 (mm, k))[52]? = some (((mk_v E).2.2.2.2.2.1 52), .inl (E.2.2.1 0, 48, .inl (k 18))) := mk_atM (i := 18) (by decide)
theorem s_m_rights {j : Nat} {a : Int32} : List.set ((mk_v E).2.2.2.2.2.2.1 (mm, k)) 52 (((mk_v E).2.2.2.2.2.1 52), .inl (E.2.2.1 0, 48, .inl (upd (k 18) j a))) = ((mk_v E).2.2.2.2.2.2.1 (mm, mj_up k 18 j a)) := mk_setM (i := 18) (by decide) rfl
theorem e_m_parents  : ((mk_v E).2.2.2.2.2.2.1 (mm, k))[53]? = some (((mk_v E).2.2.2.2.2.1 53), .inl (E.2.2.1 0, 48, .inl (k 19))) := mk_atM (i := 19) (by decide)
theorem s_m_parents {j : Nat} {a : Int32} : List.set ((mk_v E).2.2.2.2.2.2.1 (mm, k)) 53 (((mk_v E).2.2.2.2.2.1 53), .inl (E.2.2.1 0, 48, .inl (upd (k 19) j a))) = ((mk_v E).2.2.2.2.2.2.1 (mm, mj_up k 19 j a)) := mk_setM (i := 19) (by decide) rfl
theorem e_m_prints  : ((mk_v E).2.2.2.2.2.2.1 (mm, k))[54]? = some (((mk_v E).2.2.2.2.2.1 54), .inl (E.2.2.1 0, 16, .inl (k 20))) := mk_atM (i := 20) (by decide)
theorem s_m_prints {j : Nat} {a : Int32} : List.set ((mk_v E).2.2.2.2.2.2.1 (mm, k)) 54 (((mk_v E).2.2.2.2.2.1 54), .inl (E.2.2.1 0, 16, .inl (upd (k 20) j a))) = ((mk_v E).2.2.2.2.2.2.1 (mm, mj_up k 20 j a)) := mk_setM (i := 20) (by decide) rfl
end MK
theorem mk_isT {j : Int32} (h : vp_in j 6) : mk_T (3 + j.toNatClampNeg) := by
  have : j.toNatClampNeg < 6 := Nat.not_le.mp fun q => h (Or.inr q)
  omega
theorem mk_isN {j : Int32} (h : vp_in j 4) : mk_N (16 + j.toNatClampNeg) := by
  have : j.toNatClampNeg < 4 := Nat.not_le.mp fun q => h (Or.inr q)
  omega

/-! names: classes, fields, methods, the words that hold of the tables -/
abbrev RK : String := "GrantKernel"
def FK : u_T := fun k => match k with
  | 0 => ("GrantKernel", "quantum", "I", true)
  | 1 => ("GrantKernel", "memory", "[I", true)
  | 2 => ("GrantKernel", "tasks", "[LGrantKernel$Task;", true)
  | 3 => ("GrantKernel", "readyLine", "LGrantKernel$Line;", true)
  | 4 => ("GrantKernel", "endpointLines", "[LGrantKernel$Line;", true)
  | 5 => ("GrantKernel", "grants", "LGrantKernel$Grants;", true)
  | 6 => ("GrantKernel", "tape", "LGrantKernel$Tape;", true)
  | _ => ("GrantKernel", "ranInARow", "I", false)
def tyK : Nat → FieldType := fun k => match k with
  | 0 => .int
  | 1 => .array .int
  | 2 => .array (.object "GrantKernel$Task")
  | 3 => .object "GrantKernel$Line"
  | 4 => .array (.object "GrantKernel$Line")
  | 5 => .object "GrantKernel$Grants"
  | 6 => .object "GrantKernel$Tape"
  | _ => .int
theorem nmK : ∀ a, a < 8 → ∀ b, b < 8 → a ≠ b → (FK a).2.1 ≠ (FK b).2.1 := by decide +kernel
theorem okK : ∀ k, k < 8 → parseFieldDescriptor (FK k).2.2.1 = some (tyK k) := by decide +kernel
abbrev RT : String := "GrantKernel$Task"
def FT : u_T := fun k => match k with
  | 0 => ("GrantKernel$Task", "registers", "[I", true)
  | 1 => ("GrantKernel$Task", "state", "I", false)
  | 2 => ("GrantKernel$Task", "fault", "I", false)
  | 3 => ("GrantKernel$Task", "counter", "I", false)
  | 4 => ("GrantKernel$Task", "base", "I", false)
  | 5 => ("GrantKernel$Task", "length", "I", false)
  | 6 => ("GrantKernel$Task", "caller", "I", false)
  | 7 => ("GrantKernel$Task", "request", "I", false)
  | _ => ("GrantKernel$Task", "word", "I", false)
def tyT : Nat → FieldType := fun k => match k with
  | 0 => .array .int
  | 1 => .int
  | 2 => .int
  | 3 => .int
  | 4 => .int
  | 5 => .int
  | 6 => .int
  | 7 => .int
  | _ => .int
theorem nmT : ∀ a, a < 9 → ∀ b, b < 9 → a ≠ b → (FT a).2.1 ≠ (FT b).2.1 := by decide +kernel
theorem okT : ∀ k, k < 9 → parseFieldDescriptor (FT k).2.2.1 = some (tyT k) := by decide +kernel
abbrev RN : String := "GrantKernel$Line"
def FN : u_T := fun k => match k with
  | 0 => ("GrantKernel$Line", "threads", "[I", true)
  | _ => ("GrantKernel$Line", "size", "I", false)
def tyN : Nat → FieldType := fun k => match k with
  | 0 => .array .int
  | _ => .int
theorem nmN : ∀ a, a < 2 → ∀ b, b < 2 → a ≠ b → (FN a).2.1 ≠ (FN b).2.1 := by decide +kernel
theorem okN : ∀ k, k < 2 → parseFieldDescriptor (FN k).2.2.1 = some (tyN k) := by decide +kernel
abbrev RG : String := "GrantKernel$Grants"
def FG : u_T := fun k => match k with
  | 0 => ("GrantKernel$Grants", "kinds", "[I", true)
  | 1 => ("GrantKernel$Grants", "objects", "[I", true)
  | 2 => ("GrantKernel$Grants", "rights", "[I", true)
  | 3 => ("GrantKernel$Grants", "parents", "[I", true)
  | _ => ("GrantKernel$Grants", "doomed", "[Z", true)
def tyG : Nat → FieldType := fun k => match k with
  | 0 => .array .int
  | 1 => .array .int
  | 2 => .array .int
  | 3 => .array .int
  | _ => .array .boolean
theorem nmG : ∀ a, a < 5 → ∀ b, b < 5 → a ≠ b → (FG a).2.1 ≠ (FG b).2.1 := by decide +kernel
theorem okG : ∀ k, k < 5 → parseFieldDescriptor (FG k).2.2.1 = some (tyG k) := by decide +kernel
abbrev RP : String := "GrantKernel$Tape"
def FP : u_T := fun k => match k with
  | 0 => ("GrantKernel$Tape", "latest", "[I", true)
  | _ => ("GrantKernel$Tape", "total", "I", false)
def tyP : Nat → FieldType := fun k => match k with
  | 0 => .array .int
  | _ => .int
theorem nmP : ∀ a, a < 2 → ∀ b, b < 2 → a ≠ b → (FP a).2.1 ≠ (FP b).2.1 := by decide +kernel
theorem okP : ∀ k, k < 2 → parseFieldDescriptor (FP k).2.2.1 = some (tyP k) := by decide +kernel
abbrev RM : String := "GrantKernelModel"
def FM : u_T := fun k => match k with
  | 0 => ("GrantKernelModel", "quantum", "I", true)
  | 1 => ("GrantKernelModel", "memory", "[I", true)
  | 2 => ("GrantKernelModel", "states", "[I", true)
  | 3 => ("GrantKernelModel", "faults", "[I", true)
  | 4 => ("GrantKernelModel", "counters", "[I", true)
  | 5 => ("GrantKernelModel", "bases", "[I", true)
  | 6 => ("GrantKernelModel", "lengths", "[I", true)
  | 7 => ("GrantKernelModel", "callers", "[I", true)
  | 8 => ("GrantKernelModel", "registers", "[I", true)
  | 9 => ("GrantKernelModel", "tickets", "[I", true)
  | 10 => ("GrantKernelModel", "places", "[I", true)
  | 11 => ("GrantKernelModel", "drawn", "I", false)
  | 12 => ("GrantKernelModel", "ran", "I", false)
  | 13 => ("GrantKernelModel", "saidB", "[I", true)
  | 14 => ("GrantKernelModel", "saidC", "[I", true)
  | 15 => ("GrantKernelModel", "grants", "[Z", true)
  | 16 => ("GrantKernelModel", "words", "[I", true)
  | 17 => ("GrantKernelModel", "calls", "[Z", true)
  | 18 => ("GrantKernelModel", "kinds", "[I", true)
  | 19 => ("GrantKernelModel", "objects", "[I", true)
  | 20 => ("GrantKernelModel", "rights", "[I", true)
  | 21 => ("GrantKernelModel", "parents", "[I", true)
  | 22 => ("GrantKernelModel", "printed", "I", false)
  | 23 => ("GrantKernelModel", "prints", "[I", true)
  | 24 => ("GrantKernelModel", "fieldA", "I", false)
  | 25 => ("GrantKernelModel", "fieldB", "I", false)
  | 26 => ("GrantKernelModel", "fieldC", "I", false)
  | 27 => ("GrantKernelModel", "fieldN", "I", false)
  | _ => ("GrantKernelModel", "next", "I", false)
def tyM : Nat → FieldType := fun k => match k with
  | 0 => .int
  | 1 => .array .int
  | 2 => .array .int
  | 3 => .array .int
  | 4 => .array .int
  | 5 => .array .int
  | 6 => .array .int
  | 7 => .array .int
  | 8 => .array .int
  | 9 => .array .int
  | 10 => .array .int
  | 11 => .int
  | 12 => .int
  | 13 => .array .int
  | 14 => .array .int
  | 15 => .array .boolean
  | 16 => .array .int
  | 17 => .array .boolean
  | 18 => .array .int
  | 19 => .array .int
  | 20 => .array .int
  | 21 => .array .int
  | 22 => .int
  | 23 => .array .int
  | 24 => .int
  | 25 => .int
  | 26 => .int
  | 27 => .int
  | _ => .int
theorem nmM : ∀ a, a < 29 → ∀ b, b < 29 → a ≠ b → (FM a).2.1 ≠ (FM b).2.1 := by decide +kernel
theorem okM : ∀ k, k < 29 → parseFieldDescriptor (FM k).2.2.1 = some (tyM k) := by decide +kernel
abbrev RL : String := "GrantKernelLaw"
abbrev mj_cl : List vw_C := [(RK, FK, 8), (RT, FT, 9), (RN, FN, 2), (RG, FG, 5), (RP, FP, 2), (RM, FM, 29)]
def mj_all : List Cond := lw_tbl.filter goodWord
theorem mj_mem (i : Nat) {w : Cond} (h : tables_1[i]? = some w) (hg : goodWord w = true) : w ∈ mj_all := List.mem_filter.mpr ⟨List.mem_append_right _ (List.mem_of_getElem? h), hg⟩
theorem mj_mems (i : Nat) {w : Cond} (h : (k2_sels lw_privs)[i]? = some w) (hg : goodWord w = true) : w ∈ mj_all := List.mem_filter.mpr ⟨List.mem_append_left _ (List.mem_of_getElem? h), hg⟩
theorem mj_all_tbl {w : Cond} (h : w ∈ mj_all) : w ∈ lw_tbl := (List.mem_filter.mp h).1
theorem mj_good {ws : List Cond} (h : ∀ w ∈ ws, w ∈ mj_all) : GoodIn mj_all ws := fun w hw => ⟨h w hw, good_of_word (List.mem_filter.mp (h w hw)).2⟩
theorem mj_goodT {ws : List Cond} (h : ∀ w ∈ ws, w ∈ mj_all) : GoodIn lw_tbl ws := fun w hw => ⟨mj_all_tbl (h w hw), good_of_word (List.mem_filter.mp (h w hw)).2⟩
def mj_nw : List Cond := [.methodLinkNest "GrantKernel" 21 ⟨"GrantKernel$Line","<init>","()V"⟩ "GrantKernel", .methodLinkNest "GrantKernel" 32 ⟨"GrantKernel$Grants","<init>","()V"⟩ "GrantKernel", .methodLinkNest "GrantKernel" 39 ⟨"GrantKernel$Tape","<init>","()V"⟩ "GrantKernel", .methodLinkNest "GrantKernel" 57 ⟨"GrantKernel$Task","<init>","()V"⟩ "GrantKernel", .methodLinkNest "GrantKernel$Line" 19 ⟨"GrantKernel","isBetween","(III)Z"⟩ "GrantKernel", .methodLinkNest "GrantKernel$Tape" 19 ⟨"GrantKernel","isBetween","(III)Z"⟩ "GrantKernel"]
theorem inK_all : ∀ w ∈ u_ws RK FK 8, w ∈ mj_all := by
  intro w hw
  obtain ⟨k, hk, rfl⟩ := List.mem_map.mp hw
  have hk := List.mem_range.mp hk
  match k, hk with
  | 0, _ => exact mj_mem 122 (by decide +kernel) rfl
  | 1, _ => exact mj_mem 124 (by decide +kernel) rfl
  | 2, _ => exact mj_mem 126 (by decide +kernel) rfl
  | 3, _ => exact mj_mem 128 (by decide +kernel) rfl
  | 4, _ => exact mj_mem 130 (by decide +kernel) rfl
  | 5, _ => exact mj_mem 132 (by decide +kernel) rfl
  | 6, _ => exact mj_mem 134 (by decide +kernel) rfl
  | 7, _ => exact mj_mem 136 (by decide +kernel) rfl
theorem inT_all : ∀ w ∈ u_ws RT FT 9, w ∈ mj_all := by
  intro w hw
  obtain ⟨k, hk, rfl⟩ := List.mem_map.mp hw
  have hk := List.mem_range.mp hk
  match k, hk with
  | 0, _ => exact mj_mem 95 (by decide +kernel) rfl
  | 1, _ => exact mj_mem 97 (by decide +kernel) rfl
  | 2, _ => exact mj_mem 99 (by decide +kernel) rfl
  | 3, _ => exact mj_mem 101 (by decide +kernel) rfl
  | 4, _ => exact mj_mem 103 (by decide +kernel) rfl
  | 5, _ => exact mj_mem 105 (by decide +kernel) rfl
  | 6, _ => exact mj_mem 107 (by decide +kernel) rfl
  | 7, _ => exact mj_mem 109 (by decide +kernel) rfl
  | 8, _ => exact mj_mem 111 (by decide +kernel) rfl
theorem inN_all : ∀ w ∈ u_ws RN FN 2, w ∈ mj_all := by
  intro w hw
  obtain ⟨k, hk, rfl⟩ := List.mem_map.mp hw
  have hk := List.mem_range.mp hk
  match k, hk with
  | 0, _ => exact mj_mem 26 (by decide +kernel) rfl
  | 1, _ => exact mj_mem 28 (by decide +kernel) rfl
theorem inG_all : ∀ w ∈ u_ws RG FG 5, w ∈ mj_all := by
  intro w hw
  obtain ⟨k, hk, rfl⟩ := List.mem_map.mp hw
  have hk := List.mem_range.mp hk
  match k, hk with
  | 0, _ => exact mj_mem 44 (by decide +kernel) rfl
  | 1, _ => exact mj_mem 46 (by decide +kernel) rfl
  | 2, _ => exact mj_mem 48 (by decide +kernel) rfl
  | 3, _ => exact mj_mem 50 (by decide +kernel) rfl
  | 4, _ => exact mj_mem 52 (by decide +kernel) rfl
theorem inP_all : ∀ w ∈ u_ws RP FP 2, w ∈ mj_all := by
  intro w hw
  obtain ⟨k, hk, rfl⟩ := List.mem_map.mp hw
  have hk := List.mem_range.mp hk
  match k, hk with
  | 0, _ => exact mj_mem 64 (by decide +kernel) rfl
  | 1, _ => exact mj_mem 66 (by decide +kernel) rfl
theorem inM_all : ∀ w ∈ u_ws RM FM 29, w ∈ mj_all := by
  intro w hw
  obtain ⟨k, hk, rfl⟩ := List.mem_map.mp hw
  have hk := List.mem_range.mp hk
  match k, hk with
  | 0, _ => exact mj_mem 433 (by decide +kernel) rfl
  | 1, _ => exact mj_mem 435 (by decide +kernel) rfl
  | 2, _ => exact mj_mem 437 (by decide +kernel) rfl
  | 3, _ => exact mj_mem 439 (by decide +kernel) rfl
  | 4, _ => exact mj_mem 441 (by decide +kernel) rfl
  | 5, _ => exact mj_mem 443 (by decide +kernel) rfl
  | 6, _ => exact mj_mem 445 (by decide +kernel) rfl
  | 7, _ => exact mj_mem 447 (by decide +kernel) rfl
  | 8, _ => exact mj_mem 449 (by decide +kernel) rfl
  | 9, _ => exact mj_mem 451 (by decide +kernel) rfl
  | 10, _ => exact mj_mem 453 (by decide +kernel) rfl
  | 11, _ => exact mj_mem 455 (by decide +kernel) rfl
  | 12, _ => exact mj_mem 457 (by decide +kernel) rfl
  | 13, _ => exact mj_mem 459 (by decide +kernel) rfl
  | 14, _ => exact mj_mem 461 (by decide +kernel) rfl
  | 15, _ => exact mj_mem 463 (by decide +kernel) rfl
  | 16, _ => exact mj_mem 465 (by decide +kernel) rfl
  | 17, _ => exact mj_mem 467 (by decide +kernel) rfl
  | 18, _ => exact mj_mem 469 (by decide +kernel) rfl
  | 19, _ => exact mj_mem 471 (by decide +kernel) rfl
  | 20, _ => exact mj_mem 473 (by decide +kernel) rfl
  | 21, _ => exact mj_mem 475 (by decide +kernel) rfl
  | 22, _ => exact mj_mem 477 (by decide +kernel) rfl
  | 23, _ => exact mj_mem 479 (by decide +kernel) rfl
  | 24, _ => exact mj_mem 481 (by decide +kernel) rfl
  | 25, _ => exact mj_mem 483 (by decide +kernel) rfl
  | 26, _ => exact mj_mem 485 (by decide +kernel) rfl
  | 27, _ => exact mj_mem 487 (by decide +kernel) rfl
  | 28, _ => exact mj_mem 489 (by decide +kernel) rfl
  | k + 29, h => exact absurd h (by omega)
theorem l_G_9 : Cond.fieldLink RG 9 "GrantKernel$Grants" "kinds" "[I" ∈ mj_all := (mj_mem 39 (by decide +kernel) rfl)
theorem l_G_15 : Cond.fieldLink RG 15 "GrantKernel$Grants" "objects" "[I" ∈ mj_all := (mj_mem 40 (by decide +kernel) rfl)
theorem l_G_18 : Cond.fieldLink RG 18 "GrantKernel$Grants" "rights" "[I" ∈ mj_all := (mj_mem 41 (by decide +kernel) rfl)
theorem l_G_21 : Cond.fieldLink RG 21 "GrantKernel$Grants" "parents" "[I" ∈ mj_all := (mj_mem 42 (by decide +kernel) rfl)
theorem l_G_24 : Cond.fieldLink RG 24 "GrantKernel$Grants" "doomed" "[Z" ∈ mj_all := (mj_mem 43 (by decide +kernel) rfl)
theorem l_K_9 : Cond.fieldLink RK 9 "GrantKernel" "memory" "[I" ∈ mj_all := (mj_mem 115 (by decide +kernel) rfl)
theorem l_K_15 : Cond.fieldLink RK 15 "GrantKernel" "tasks" "[LGrantKernel$Task;" ∈ mj_all := (mj_mem 116 (by decide +kernel) rfl)
theorem l_K_22 : Cond.fieldLink RK 22 "GrantKernel" "readyLine" "LGrantKernel$Line;" ∈ mj_all := (mj_mem 117 (by decide +kernel) rfl)
theorem l_K_26 : Cond.fieldLink RK 26 "GrantKernel" "endpointLines" "[LGrantKernel$Line;" ∈ mj_all := (mj_mem 118 (by decide +kernel) rfl)
theorem l_K_33 : Cond.fieldLink RK 33 "GrantKernel" "grants" "LGrantKernel$Grants;" ∈ mj_all := (mj_mem 119 (by decide +kernel) rfl)
theorem l_K_40 : Cond.fieldLink RK 40 "GrantKernel" "tape" "LGrantKernel$Tape;" ∈ mj_all := (mj_mem 120 (by decide +kernel) rfl)
theorem l_K_53 : Cond.fieldLink RK 53 "GrantKernel" "quantum" "I" ∈ mj_all := (mj_mem 114 (by decide +kernel) rfl)
theorem l_K_78 : Cond.fieldLink RK 78 "GrantKernel$Task" "registers" "[I" ∈ mj_all := (mj_mem 81 (by decide +kernel) rfl)
theorem l_K_96 : Cond.fieldLink RK 96 "GrantKernel$Task" "state" "I" ∈ mj_all := (mj_mem 83 (by decide +kernel) rfl)
theorem l_K_115 : Cond.fieldLink RK 115 "GrantKernel$Task" "fault" "I" ∈ mj_all := (mj_mem 85 (by decide +kernel) rfl)
theorem l_K_118 : Cond.fieldLink RK 118 "GrantKernel$Task" "counter" "I" ∈ mj_all := (mj_mem 87 (by decide +kernel) rfl)
theorem l_K_121 : Cond.fieldLink RK 121 "GrantKernel$Task" "caller" "I" ∈ mj_all := (mj_mem 92 (by decide +kernel) rfl)
theorem l_K_149 : Cond.fieldLink RK 149 "GrantKernel$Task" "base" "I" ∈ mj_all := (mj_mem 89 (by decide +kernel) rfl)
theorem l_K_166 : Cond.fieldLink RK 166 "GrantKernel" "ranInARow" "I" ∈ mj_all := (mj_mem 121 (by decide +kernel) rfl)
theorem l_K_215 : Cond.fieldLink RK 215 "GrantKernel$Task" "request" "I" ∈ mj_all := (mj_mem 93 (by decide +kernel) rfl)
theorem l_K_218 : Cond.fieldLink RK 218 "GrantKernel$Task" "word" "I" ∈ mj_all := (mj_mem 94 (by decide +kernel) rfl)
theorem l_M_7 : Cond.fieldLink RM 7 "GrantKernelModel" "memory" "[I" ∈ mj_all := (mj_mem 405 (by decide +kernel) rfl)
theorem l_M_13 : Cond.fieldLink RM 13 "GrantKernelModel" "states" "[I" ∈ mj_all := (mj_mem 406 (by decide +kernel) rfl)
theorem l_M_16 : Cond.fieldLink RM 16 "GrantKernelModel" "faults" "[I" ∈ mj_all := (mj_mem 407 (by decide +kernel) rfl)
theorem l_M_19 : Cond.fieldLink RM 19 "GrantKernelModel" "counters" "[I" ∈ mj_all := (mj_mem 408 (by decide +kernel) rfl)
theorem l_M_22 : Cond.fieldLink RM 22 "GrantKernelModel" "bases" "[I" ∈ mj_all := (mj_mem 409 (by decide +kernel) rfl)
theorem l_M_25 : Cond.fieldLink RM 25 "GrantKernelModel" "lengths" "[I" ∈ mj_all := (mj_mem 410 (by decide +kernel) rfl)
theorem l_M_28 : Cond.fieldLink RM 28 "GrantKernelModel" "callers" "[I" ∈ mj_all := (mj_mem 411 (by decide +kernel) rfl)
theorem l_M_31 : Cond.fieldLink RM 31 "GrantKernelModel" "registers" "[I" ∈ mj_all := (mj_mem 412 (by decide +kernel) rfl)
theorem l_M_34 : Cond.fieldLink RM 34 "GrantKernelModel" "tickets" "[I" ∈ mj_all := (mj_mem 413 (by decide +kernel) rfl)
theorem l_M_37 : Cond.fieldLink RM 37 "GrantKernelModel" "places" "[I" ∈ mj_all := (mj_mem 414 (by decide +kernel) rfl)
theorem l_M_40 : Cond.fieldLink RM 40 "GrantKernelModel" "saidB" "[I" ∈ mj_all := (mj_mem 417 (by decide +kernel) rfl)
theorem l_M_43 : Cond.fieldLink RM 43 "GrantKernelModel" "saidC" "[I" ∈ mj_all := (mj_mem 418 (by decide +kernel) rfl)
theorem l_M_46 : Cond.fieldLink RM 46 "GrantKernelModel" "grants" "[Z" ∈ mj_all := (mj_mem 419 (by decide +kernel) rfl)
theorem l_M_50 : Cond.fieldLink RM 50 "GrantKernelModel" "words" "[I" ∈ mj_all := (mj_mem 420 (by decide +kernel) rfl)
theorem l_M_53 : Cond.fieldLink RM 53 "GrantKernelModel" "calls" "[Z" ∈ mj_all := (mj_mem 421 (by decide +kernel) rfl)
theorem l_M_56 : Cond.fieldLink RM 56 "GrantKernelModel" "kinds" "[I" ∈ mj_all := (mj_mem 422 (by decide +kernel) rfl)
theorem l_M_59 : Cond.fieldLink RM 59 "GrantKernelModel" "objects" "[I" ∈ mj_all := (mj_mem 423 (by decide +kernel) rfl)
theorem l_M_62 : Cond.fieldLink RM 62 "GrantKernelModel" "rights" "[I" ∈ mj_all := (mj_mem 424 (by decide +kernel) rfl)
theorem l_M_65 : Cond.fieldLink RM 65 "GrantKernelModel" "parents" "[I" ∈ mj_all := (mj_mem 425 (by decide +kernel) rfl)
theorem l_M_68 : Cond.fieldLink RM 68 "GrantKernelModel" "prints" "[I" ∈ mj_all := (mj_mem 427 (by decide +kernel) rfl)
theorem l_M_71 : Cond.fieldLink RM 71 "GrantKernelModel" "quantum" "I" ∈ mj_all := (mj_mem 404 (by decide +kernel) rfl)
theorem l_M_79 : Cond.fieldLink RM 79 "GrantKernelModel" "drawn" "I" ∈ mj_all := (mj_mem 415 (by decide +kernel) rfl)
theorem l_M_113 : Cond.fieldLink RM 113 "GrantKernelModel" "fieldB" "I" ∈ mj_all := (mj_mem 429 (by decide +kernel) rfl)
theorem l_M_116 : Cond.fieldLink RM 116 "GrantKernelModel" "fieldC" "I" ∈ mj_all := (mj_mem 430 (by decide +kernel) rfl)
theorem l_M_119 : Cond.fieldLink RM 119 "GrantKernelModel" "fieldN" "I" ∈ mj_all := (mj_mem 431 (by decide +kernel) rfl)
theorem l_M_139 : Cond.fieldLink RM 139 "GrantKernelModel" "printed" "I" ∈ mj_all := (mj_mem 426 (by decide +kernel) rfl)
theorem l_M_142 : Cond.fieldLink RM 142 "GrantKernelModel" "fieldA" "I" ∈ mj_all := (mj_mem 428 (by decide +kernel) rfl)
theorem l_M_149 : Cond.fieldLink RM 149 "GrantKernelModel" "next" "I" ∈ mj_all := (mj_mem 432 (by decide +kernel) rfl)
theorem l_M_184 : Cond.fieldLink RM 184 "GrantKernelModel" "ran" "I" ∈ mj_all := (mj_mem 416 (by decide +kernel) rfl)
theorem l_N_9 : Cond.fieldLink RN 9 "GrantKernel$Line" "threads" "[I" ∈ mj_all := (mj_mem 24 (by decide +kernel) rfl)
theorem l_N_15 : Cond.fieldLink RN 15 "GrantKernel$Line" "size" "I" ∈ mj_all := (mj_mem 25 (by decide +kernel) rfl)
theorem l_P_9 : Cond.fieldLink RP 9 "GrantKernel$Tape" "latest" "[I" ∈ mj_all := (mj_mem 62 (by decide +kernel) rfl)
theorem l_P_15 : Cond.fieldLink RP 15 "GrantKernel$Tape" "total" "I" ∈ mj_all := (mj_mem 63 (by decide +kernel) rfl)
theorem l_T_9 : Cond.fieldLink RT 9 "GrantKernel$Task" "registers" "[I" ∈ mj_all := (mj_mem 80 (by decide +kernel) rfl)
theorem l_T_15 : Cond.fieldLink RT 15 "GrantKernel$Task" "state" "I" ∈ mj_all := (mj_mem 82 (by decide +kernel) rfl)
theorem l_T_19 : Cond.fieldLink RT 19 "GrantKernel$Task" "fault" "I" ∈ mj_all := (mj_mem 84 (by decide +kernel) rfl)
theorem l_T_22 : Cond.fieldLink RT 22 "GrantKernel$Task" "caller" "I" ∈ mj_all := (mj_mem 91 (by decide +kernel) rfl)
theorem l_T_25 : Cond.fieldLink RT 25 "GrantKernel$Task" "counter" "I" ∈ mj_all := (mj_mem 86 (by decide +kernel) rfl)
theorem l_T_28 : Cond.fieldLink RT 28 "GrantKernel$Task" "base" "I" ∈ mj_all := (mj_mem 88 (by decide +kernel) rfl)
theorem l_T_31 : Cond.fieldLink RT 31 "GrantKernel$Task" "length" "I" ∈ mj_all := (mj_mem 90 (by decide +kernel) rfl)
def yK_init : MethodName := ⟨RK, "<init>", "(I)V"⟩
abbrev cK_init : ByteArray := prog_1_method_1_code
def yN_init : MethodName := ⟨RN, "<init>", "()V"⟩
abbrev cN_init : ByteArray := prog_3_method_1_code
def yG_init : MethodName := ⟨RG, "<init>", "()V"⟩
abbrev cG_init : ByteArray := prog_2_method_1_code
def yP_init : MethodName := ⟨RP, "<init>", "()V"⟩
abbrev cP_init : ByteArray := prog_4_method_1_code
def yT_init : MethodName := ⟨RT, "<init>", "()V"⟩
abbrev cT_init : ByteArray := prog_5_method_1_code
def yK_poke : MethodName := ⟨RK, "poke", "(II)Z"⟩
abbrev cK_poke : ByteArray := prog_1_method_2_code
def yK_isBetween : MethodName := ⟨RK, "isBetween", "(III)Z"⟩
abbrev cK_isBetween : ByteArray := prog_1_method_19_code
def yK_peek : MethodName := ⟨RK, "peek", "(I)I"⟩
abbrev cK_peek : ByteArray := prog_1_method_3_code
def yK_spawn : MethodName := ⟨RK, "spawn", "(III)I"⟩
abbrev cK_spawn : ByteArray := prog_1_method_4_code
def yK_leastFree : MethodName := ⟨RK, "leastFree", "()I"⟩
abbrev cK_leastFree : ByteArray := prog_1_method_30_code
def yT_begin : MethodName := ⟨RT, "begin", "(III)V"⟩
abbrev cT_begin : ByteArray := prog_5_method_2_code
def yK_makeReady : MethodName := ⟨RK, "makeReady", "(I)V"⟩
abbrev cK_makeReady : ByteArray := prog_1_method_31_code
def yN_append : MethodName := ⟨RN, "append", "(I)V"⟩
abbrev cN_append : ByteArray := prog_3_method_3_code
def yK_put : MethodName := ⟨RK, "put", "(III)Z"⟩
abbrev cK_put : ByteArray := prog_1_method_5_code
def yK_usedTask : MethodName := ⟨RK, "usedTask", "(I)LGrantKernel$Task;"⟩
abbrev cK_usedTask : ByteArray := prog_1_method_29_code
def yK_give : MethodName := ⟨RK, "give", "(IIIII)Z"⟩
abbrev cK_give : ByteArray := prog_1_method_6_code
def yK_placeOf : MethodName := ⟨RK, "placeOf", "(II)I"⟩
abbrev cK_placeOf : ByteArray := prog_1_method_21_code
def yK_slotPlace : MethodName := ⟨RK, "slotPlace", "(II)I"⟩
abbrev cK_slotPlace : ByteArray := prog_1_method_22_code
def yG_holds : MethodName := ⟨RG, "holds", "(I)Z"⟩
abbrev cG_holds : ByteArray := prog_2_method_2_code
def yK_isObjectOfKind : MethodName := ⟨RK, "isObjectOfKind", "(II)Z"⟩
abbrev cK_isObjectOfKind : ByteArray := prog_1_method_20_code
def yG_fill : MethodName := ⟨RG, "fill", "(IIIII)V"⟩
abbrev cG_fill : ByteArray := prog_2_method_6_code
def yK_reap : MethodName := ⟨RK, "reap", "(I)Z"⟩
abbrev cK_reap : ByteArray := prog_1_method_7_code
def yT_end : MethodName := ⟨RT, "end", "()V"⟩
abbrev cT_end : ByteArray := prog_5_method_4_code
def yG_removeAt : MethodName := ⟨RG, "removeAt", "(I)V"⟩
abbrev cG_removeAt : ByteArray := prog_2_method_9_code
def yG_empty : MethodName := ⟨RG, "empty", "(I)V"⟩
abbrev cG_empty : ByteArray := prog_2_method_7_code
def yK_step : MethodName := ⟨RK, "step", "(I)I"⟩
abbrev cK_step : ByteArray := prog_1_method_8_code
def yN_at : MethodName := ⟨RN, "at", "(I)I"⟩
abbrev cN_at : ByteArray := prog_3_method_2_code
def yK_runFirst : MethodName := ⟨RK, "runFirst", "(I)V"⟩
abbrev cK_runFirst : ByteArray := prog_1_method_32_code
def yT_isGood : MethodName := ⟨RT, "isGood", "(J)Z"⟩
abbrev cT_isGood : ByteArray := prog_5_method_5_code
def yT_fail : MethodName := ⟨RT, "fail", "(I)V"⟩
abbrev cT_fail : ByteArray := prog_5_method_3_code
def yK_perform : MethodName := ⟨RK, "perform", "(II)I"⟩
abbrev cK_perform : ByteArray := prog_1_method_35_code
def yK_opOf : MethodName := ⟨RK, "opOf", "(I)I"⟩
abbrev cK_opOf : ByteArray := prog_1_method_23_code
def yK_access : MethodName := ⟨RK, "access", "(LGrantKernel$Task;I)I"⟩
abbrev cK_access : ByteArray := prog_1_method_37_code
def yK_fieldB : MethodName := ⟨RK, "fieldB", "(I)I"⟩
abbrev cK_fieldB : ByteArray := prog_1_method_25_code
def yK_numberOf : MethodName := ⟨RK, "numberOf", "(I)I"⟩
abbrev cK_numberOf : ByteArray := prog_1_method_27_code
def yK_fieldA : MethodName := ⟨RK, "fieldA", "(I)I"⟩
abbrev cK_fieldA : ByteArray := prog_1_method_24_code
def yK_printBy : MethodName := ⟨RK, "printBy", "(II)I"⟩
abbrev cK_printBy : ByteArray := prog_1_method_38_code
def yG_allows : MethodName := ⟨RG, "allows", "(III)Z"⟩
abbrev cG_allows : ByteArray := prog_2_method_4_code
def yP_append : MethodName := ⟨RP, "append", "(I)V"⟩
abbrev cP_append : ByteArray := prog_4_method_2_code
def yK_sendBy : MethodName := ⟨RK, "sendBy", "(II)I"⟩
abbrev cK_sendBy : ByteArray := prog_1_method_39_code
def yK_isNumberOdd : MethodName := ⟨RK, "isNumberOdd", "(I)Z"⟩
abbrev cK_isNumberOdd : ByteArray := prog_1_method_28_code
def yG_objectAt : MethodName := ⟨RG, "objectAt", "(I)I"⟩
abbrev cG_objectAt : ByteArray := prog_2_method_3_code
def yK_takeWaiting : MethodName := ⟨RK, "takeWaiting", "(LGrantKernel$Line;I)I"⟩
abbrev cK_takeWaiting : ByteArray := prog_1_method_41_code
def yN_takeFirst : MethodName := ⟨RN, "takeFirst", "()V"⟩
abbrev cN_takeFirst : ByteArray := prog_3_method_4_code
def yK_pass : MethodName := ⟨RK, "pass", "(II)V"⟩
abbrev cK_pass : ByteArray := prog_1_method_42_code
def yK_fieldC : MethodName := ⟨RK, "fieldC", "(I)I"⟩
abbrev cK_fieldC : ByteArray := prog_1_method_26_code
def yG_derive : MethodName := ⟨RG, "derive", "(III)V"⟩
abbrev cG_derive : ByteArray := prog_2_method_8_code
def yK_receiveBy : MethodName := ⟨RK, "receiveBy", "(II)I"⟩
abbrev cK_receiveBy : ByteArray := prog_1_method_40_code
def yK_answerCaller : MethodName := ⟨RK, "answerCaller", "(LGrantKernel$Task;I)I"⟩
abbrev cK_answerCaller : ByteArray := prog_1_method_43_code
def yK_mintInto : MethodName := ⟨RK, "mintInto", "(II)I"⟩
abbrev cK_mintInto : ByteArray := prog_1_method_44_code
def yK_takeBack : MethodName := ⟨RK, "takeBack", "(II)I"⟩
abbrev cK_takeBack : ByteArray := prog_1_method_45_code
def yG_revokeBelow : MethodName := ⟨RG, "revokeBelow", "(I)V"⟩
abbrev cG_revokeBelow : ByteArray := prog_2_method_11_code
def yG_isBelow : MethodName := ⟨RG, "isBelow", "(II)Z"⟩
abbrev cG_isBelow : ByteArray := prog_2_method_12_code
def yK_lookIntoSlot : MethodName := ⟨RK, "lookIntoSlot", "(II)I"⟩
abbrev cK_lookIntoSlot : ByteArray := prog_1_method_46_code
def yK_compute : MethodName := ⟨RK, "compute", "(LGrantKernel$Task;I)I"⟩
abbrev cK_compute : ByteArray := prog_1_method_36_code
def yK_counterAfter : MethodName := ⟨RK, "counterAfter", "(LGrantKernel$Task;I)I"⟩
abbrev cK_counterAfter : ByteArray := prog_1_method_34_code
def yK_settleFirst : MethodName := ⟨RK, "settleFirst", "(IZ)V"⟩
abbrev cK_settleFirst : ByteArray := prog_1_method_33_code
def yK_state : MethodName := ⟨RK, "state", "(I)I"⟩
abbrev cK_state : ByteArray := prog_1_method_9_code
def yK_fault : MethodName := ⟨RK, "fault", "(I)I"⟩
abbrev cK_fault : ByteArray := prog_1_method_10_code
def yK_register : MethodName := ⟨RK, "register", "(II)I"⟩
abbrev cK_register : ByteArray := prog_1_method_11_code
def yK_counter : MethodName := ⟨RK, "counter", "(I)I"⟩
abbrev cK_counter : ByteArray := prog_1_method_12_code
def yK_caller : MethodName := ⟨RK, "caller", "(I)I"⟩
abbrev cK_caller : ByteArray := prog_1_method_13_code
def yK_capability : MethodName := ⟨RK, "capability", "(III)I"⟩
abbrev cK_capability : ByteArray := prog_1_method_14_code
def yG_partOf : MethodName := ⟨RG, "partOf", "(II)I"⟩
abbrev cG_partOf : ByteArray := prog_2_method_5_code
def yK_descendants : MethodName := ⟨RK, "descendants", "(II)I"⟩
abbrev cK_descendants : ByteArray := prog_1_method_15_code
def yG_countBelow : MethodName := ⟨RG, "countBelow", "(I)I"⟩
abbrev cG_countBelow : ByteArray := prog_2_method_10_code
def yK_inRow : MethodName := ⟨RK, "inRow", "(II)I"⟩
abbrev cK_inRow : ByteArray := prog_1_method_16_code
def yK_printed : MethodName := ⟨RK, "printed", "()I"⟩
abbrev cK_printed : ByteArray := prog_1_method_17_code
def yP_count : MethodName := ⟨RP, "count", "()I"⟩
abbrev cP_count : ByteArray := prog_4_method_3_code
def yK_print : MethodName := ⟨RK, "print", "(I)I"⟩
abbrev cK_print : ByteArray := prog_1_method_18_code
def yP_backFromLatest : MethodName := ⟨RP, "backFromLatest", "(I)I"⟩
abbrev cP_backFromLatest : ByteArray := prog_4_method_4_code
def yM_init : MethodName := ⟨RM, "<init>", "(I)V"⟩
abbrev cM_init : ByteArray := prog_7_method_1_code
def yM_poke : MethodName := ⟨RM, "poke", "(II)Z"⟩
abbrev cM_poke : ByteArray := prog_7_method_15_code
def yM_peek : MethodName := ⟨RM, "peek", "(I)I"⟩
abbrev cM_peek : ByteArray := prog_7_method_16_code
def yM_spawn : MethodName := ⟨RM, "spawn", "(III)I"⟩
abbrev cM_spawn : ByteArray := prog_7_method_17_code
def yM_makeReady : MethodName := ⟨RM, "makeReady", "(I)V"⟩
abbrev cM_makeReady : ByteArray := prog_7_method_6_code
def yM_draw : MethodName := ⟨RM, "draw", "(I)V"⟩
abbrev cM_draw : ByteArray := prog_7_method_5_code
def yM_put : MethodName := ⟨RM, "put", "(III)Z"⟩
abbrev cM_put : ByteArray := prog_7_method_18_code
def yM_isThere : MethodName := ⟨RM, "isThere", "(I)Z"⟩
abbrev cM_isThere : ByteArray := prog_7_method_4_code
def yM_isThread : MethodName := ⟨RM, "isThread", "(I)Z"⟩
abbrev cM_isThread : ByteArray := prog_7_method_2_code
def yM_isEight : MethodName := ⟨RM, "isEight", "(I)Z"⟩
abbrev cM_isEight : ByteArray := prog_7_method_3_code
def yM_give : MethodName := ⟨RM, "give", "(IIIII)Z"⟩
abbrev cM_give : ByteArray := prog_7_method_19_code
def yM_reap : MethodName := ⟨RM, "reap", "(I)Z"⟩
abbrev cM_reap : ByteArray := prog_7_method_20_code
def yM_remove : MethodName := ⟨RM, "remove", "(I)V"⟩
abbrev cM_remove : ByteArray := prog_7_method_10_code
def yM_step : MethodName := ⟨RM, "step", "(I)I"⟩
abbrev cM_step : ByteArray := prog_7_method_36_code
def yM_at : MethodName := ⟨RM, "at", "(II)I"⟩
abbrev cM_at : ByteArray := prog_7_method_8_code
def yM_isIn : MethodName := ⟨RM, "isIn", "(II)Z"⟩
abbrev cM_isIn : ByteArray := prog_7_method_7_code
def yM_oneStep : MethodName := ⟨RM, "oneStep", "(I)V"⟩
abbrev cM_oneStep : ByteArray := prog_7_method_35_code
def yM_execute : MethodName := ⟨RM, "execute", "(I)V"⟩
abbrev cM_execute : ByteArray := prog_7_method_34_code
def yM_fail : MethodName := ⟨RM, "fail", "(II)V"⟩
abbrev cM_fail : ByteArray := prog_7_method_33_code
def yM_faultOf : MethodName := ⟨RM, "faultOf", "(II)I"⟩
abbrev cM_faultOf : ByteArray := prog_7_method_29_code
def yM_lacks : MethodName := ⟨RM, "lacks", "(III)Z"⟩
abbrev cM_lacks : ByteArray := prog_7_method_28_code
def yM_act : MethodName := ⟨RM, "act", "(II)V"⟩
abbrev cM_act : ByteArray := prog_7_method_32_code
def yM_result : MethodName := ⟨RM, "result", "(III)I"⟩
abbrev cM_result : ByteArray := prog_7_method_30_code
def yM_move : MethodName := ⟨RM, "move", "(II)V"⟩
abbrev cM_move : ByteArray := prog_7_method_31_code
def yM_write : MethodName := ⟨RM, "write", "(I)V"⟩
abbrev cM_write : ByteArray := prog_7_method_27_code
def yM_send : MethodName := ⟨RM, "send", "(IIZ)V"⟩
abbrev cM_send : ByteArray := prog_7_method_24_code
def yM_say : MethodName := ⟨RM, "say", "(I)V"⟩
abbrev cM_say : ByteArray := prog_7_method_21_code
def yM_firstAt : MethodName := ⟨RM, "firstAt", "(II)I"⟩
abbrev cM_firstAt : ByteArray := prog_7_method_9_code
def yM_queue : MethodName := ⟨RM, "queue", "(III)V"⟩
abbrev cM_queue : ByteArray := prog_7_method_23_code
def yM_pass : MethodName := ⟨RM, "pass", "(II)V"⟩
abbrev cM_pass : ByteArray := prog_7_method_22_code
def yM_place : MethodName := ⟨RM, "place", "(III)V"⟩
abbrev cM_place : ByteArray := prog_7_method_14_code
def yM_receive : MethodName := ⟨RM, "receive", "(II)V"⟩
abbrev cM_receive : ByteArray := prog_7_method_25_code
def yM_answer : MethodName := ⟨RM, "answer", "(I)V"⟩
abbrev cM_answer : ByteArray := prog_7_method_26_code
def yM_revoke : MethodName := ⟨RM, "revoke", "(I)V"⟩
abbrev cM_revoke : ByteArray := prog_7_method_13_code
def yM_countBelow : MethodName := ⟨RM, "countBelow", "(I)I"⟩
abbrev cM_countBelow : ByteArray := prog_7_method_12_code
def yM_descends : MethodName := ⟨RM, "descends", "(II)Z"⟩
abbrev cM_descends : ByteArray := prog_7_method_11_code
def yM_state : MethodName := ⟨RM, "state", "(I)I"⟩
abbrev cM_state : ByteArray := prog_7_method_37_code
def yM_fault : MethodName := ⟨RM, "fault", "(I)I"⟩
abbrev cM_fault : ByteArray := prog_7_method_38_code
def yM_register : MethodName := ⟨RM, "register", "(II)I"⟩
abbrev cM_register : ByteArray := prog_7_method_39_code
def yM_counter : MethodName := ⟨RM, "counter", "(I)I"⟩
abbrev cM_counter : ByteArray := prog_7_method_40_code
def yM_caller : MethodName := ⟨RM, "caller", "(I)I"⟩
abbrev cM_caller : ByteArray := prog_7_method_41_code
def yM_capability : MethodName := ⟨RM, "capability", "(III)I"⟩
abbrev cM_capability : ByteArray := prog_7_method_43_code
def yM_isCapability : MethodName := ⟨RM, "isCapability", "(II)Z"⟩
abbrev cM_isCapability : ByteArray := prog_7_method_42_code
def yM_descendants : MethodName := ⟨RM, "descendants", "(II)I"⟩
abbrev cM_descendants : ByteArray := prog_7_method_44_code
def yM_inRow : MethodName := ⟨RM, "inRow", "(II)I"⟩
abbrev cM_inRow : ByteArray := prog_7_method_45_code
def yM_printed : MethodName := ⟨RM, "printed", "()I"⟩
abbrev cM_printed : ByteArray := prog_7_method_46_code
def yM_print : MethodName := ⟨RM, "print", "(I)I"⟩
abbrev cM_print : ByteArray := prog_7_method_47_code
def yL_cell : MethodName := ⟨RL, "cell", "([II)I"⟩
abbrev cL_cell : ByteArray := method_2_code
def yL_law : MethodName := ⟨RL, "law", "([I)Z"⟩
abbrev cL_law : ByteArray := code
theorem l_G_28 : Cond.methodLink RG 28 yG_fill ∈ mj_all := (mj_mem 216 (by decide +kernel) rfl)
theorem l_G_32 : Cond.methodLink RG 32 yG_holds ∈ mj_all := (mj_mem 211 (by decide +kernel) rfl)
theorem l_G_36 : Cond.methodLink RG 36 yG_empty ∈ mj_all := (mj_mem 212 (by decide +kernel) rfl)
theorem l_G_40 : Cond.methodLink RG 40 yG_isBelow ∈ mj_all := (mj_mem 320 (by decide +kernel) rfl)
theorem l_K_21 : Cond.methodLinkNest RK 21 yN_init "GrantKernel" ∈ mj_nw := List.mem_of_getElem? (i := 0) (by decide +kernel)
theorem l_K_32 : Cond.methodLinkNest RK 32 yG_init "GrantKernel" ∈ mj_nw := List.mem_of_getElem? (i := 1) (by decide +kernel)
theorem l_K_39 : Cond.methodLinkNest RK 39 yP_init "GrantKernel" ∈ mj_nw := List.mem_of_getElem? (i := 2) (by decide +kernel)
theorem l_K_57 : Cond.methodLinkNest RK 57 yT_init "GrantKernel" ∈ mj_nw := List.mem_of_getElem? (i := 3) (by decide +kernel)
theorem l_K_58 : Cond.methodLink RK 58 yK_isBetween ∈ mj_all := (mj_mem 143 (by decide +kernel) rfl)
theorem l_K_62 : Cond.methodLink RK 62 yK_leastFree ∈ mj_all := (mj_mem 154 (by decide +kernel) rfl)
theorem l_K_66 : Cond.methodLink RK 66 yT_begin ∈ mj_all := (mj_mem 158 (by decide +kernel) rfl)
theorem l_K_70 : Cond.methodLink RK 70 yK_makeReady ∈ mj_all := (mj_mem 162 (by decide +kernel) rfl)
theorem l_K_74 : Cond.methodLink RK 74 yK_usedTask ∈ mj_all := (mj_mem 174 (by decide +kernel) rfl)
theorem l_K_81 : Cond.methodLink RK 81 yK_placeOf ∈ mj_all := (mj_mem 182 (by decide +kernel) rfl)
theorem l_K_84 : Cond.methodLink RK 84 yG_holds ∈ mj_all := (mj_mem 188 (by decide +kernel) rfl)
theorem l_K_88 : Cond.methodLink RK 88 yK_isObjectOfKind ∈ mj_all := (mj_mem 192 (by decide +kernel) rfl)
theorem l_K_92 : Cond.methodLink RK 92 yG_fill ∈ mj_all := (mj_mem 195 (by decide +kernel) rfl)
theorem l_K_99 : Cond.methodLink RK 99 yT_end ∈ mj_all := (mj_mem 203 (by decide +kernel) rfl)
theorem l_K_102 : Cond.methodLink RK 102 yK_slotPlace ∈ mj_all := (mj_mem 185 (by decide +kernel) rfl)
theorem l_K_105 : Cond.methodLink RK 105 yG_removeAt ∈ mj_all := (mj_mem 207 (by decide +kernel) rfl)
theorem l_K_108 : Cond.methodLink RK 108 yN_at ∈ mj_all := (mj_mem 221 (by decide +kernel) rfl)
theorem l_K_112 : Cond.methodLink RK 112 yK_runFirst ∈ mj_all := (mj_mem 226 (by decide +kernel) rfl)
theorem l_K_124 : Cond.methodLink RK 124 yG_partOf ∈ mj_all := (mj_mem 362 (by decide +kernel) rfl)
theorem l_K_127 : Cond.methodLink RK 127 yG_countBelow ∈ mj_all := (mj_mem 370 (by decide +kernel) rfl)
theorem l_K_130 : Cond.methodLink RK 130 yP_count ∈ mj_all := (mj_mem 382 (by decide +kernel) rfl)
theorem l_K_133 : Cond.methodLink RK 133 yP_backFromLatest ∈ mj_all := (mj_mem 390 (by decide +kernel) rfl)
theorem l_K_136 : Cond.methodLink RK 136 yK_numberOf ∈ mj_all := (mj_mem 252 (by decide +kernel) rfl)
theorem l_K_139 : Cond.methodLink RK 139 yN_append ∈ mj_all := (mj_mem 166 (by decide +kernel) rfl)
theorem l_K_142 : Cond.methodLink RK 142 yT_isGood ∈ mj_all := (mj_mem 230 (by decide +kernel) rfl)
theorem l_K_146 : Cond.methodLink RK 146 yT_fail ∈ mj_all := (mj_mem 234 (by decide +kernel) rfl)
theorem l_K_152 : Cond.methodLink RK 152 yK_perform ∈ mj_all := (mj_mem 238 (by decide +kernel) rfl)
theorem l_K_155 : Cond.methodLink RK 155 yK_counterAfter ∈ mj_all := (mj_mem 331 (by decide +kernel) rfl)
theorem l_K_159 : Cond.methodLink RK 159 yK_opOf ∈ mj_all := (mj_mem 242 (by decide +kernel) rfl)
theorem l_K_162 : Cond.methodLink RK 162 yK_settleFirst ∈ mj_all := (mj_mem 334 (by decide +kernel) rfl)
theorem l_K_169 : Cond.methodLink RK 169 yN_takeFirst ∈ mj_all := (mj_mem 285 (by decide +kernel) rfl)
theorem l_K_172 : Cond.methodLink RK 172 yK_fieldA ∈ mj_all := (mj_mem 255 (by decide +kernel) rfl)
theorem l_K_175 : Cond.methodLink RK 175 yK_access ∈ mj_all := (mj_mem 245 (by decide +kernel) rfl)
theorem l_K_178 : Cond.methodLink RK 178 yK_printBy ∈ mj_all := (mj_mem 258 (by decide +kernel) rfl)
theorem l_K_181 : Cond.methodLink RK 181 yK_sendBy ∈ mj_all := (mj_mem 270 (by decide +kernel) rfl)
theorem l_K_184 : Cond.methodLink RK 184 yK_receiveBy ∈ mj_all := (mj_mem 300 (by decide +kernel) rfl)
theorem l_K_187 : Cond.methodLink RK 187 yK_answerCaller ∈ mj_all := (mj_mem 304 (by decide +kernel) rfl)
theorem l_K_190 : Cond.methodLink RK 190 yK_mintInto ∈ mj_all := (mj_mem 308 (by decide +kernel) rfl)
theorem l_K_193 : Cond.methodLink RK 193 yK_takeBack ∈ mj_all := (mj_mem 312 (by decide +kernel) rfl)
theorem l_K_196 : Cond.methodLink RK 196 yK_lookIntoSlot ∈ mj_all := (mj_mem 324 (by decide +kernel) rfl)
theorem l_K_199 : Cond.methodLink RK 199 yK_compute ∈ mj_all := (mj_mem 328 (by decide +kernel) rfl)
theorem l_K_202 : Cond.methodLink RK 202 yK_fieldB ∈ mj_all := (mj_mem 249 (by decide +kernel) rfl)
theorem l_K_205 : Cond.methodLink RK 205 yK_fieldC ∈ mj_all := (mj_mem 293 (by decide +kernel) rfl)
theorem l_K_208 : Cond.methodLink RK 208 yG_allows ∈ mj_all := (mj_mem 262 (by decide +kernel) rfl)
theorem l_K_211 : Cond.methodLink RK 211 yP_append ∈ mj_all := (mj_mem 266 (by decide +kernel) rfl)
theorem l_K_212 : Cond.methodLink RK 212 yK_isNumberOdd ∈ mj_all := (mj_mem 274 (by decide +kernel) rfl)
theorem l_K_221 : Cond.methodLink RK 221 yG_objectAt ∈ mj_all := (mj_mem 277 (by decide +kernel) rfl)
theorem l_K_224 : Cond.methodLink RK 224 yK_takeWaiting ∈ mj_all := (mj_mem 281 (by decide +kernel) rfl)
theorem l_K_228 : Cond.methodLink RK 228 yK_pass ∈ mj_all := (mj_mem 289 (by decide +kernel) rfl)
theorem l_K_232 : Cond.methodLink RK 232 yG_derive ∈ mj_all := (mj_mem 296 (by decide +kernel) rfl)
theorem l_K_235 : Cond.methodLink RK 235 yG_revokeBelow ∈ mj_all := (mj_mem 316 (by decide +kernel) rfl)
theorem l_L_9 : Cond.methodLink RL 9 yL_cell ∈ mj_all := (mj_mem 395 (by decide +kernel) rfl)
theorem l_L_15 : Cond.methodLink RL 15 yK_init ∈ mj_all := (mj_mem 10 (by decide +kernel) rfl)
theorem l_L_20 : Cond.methodLink RL 20 yM_init ∈ mj_all := (mj_mem 400 (by decide +kernel) rfl)
theorem l_L_21 : Cond.methodLink RL 21 yK_poke ∈ mj_all := (mj_mem 139 (by decide +kernel) rfl)
theorem l_L_25 : Cond.methodLink RL 25 yM_poke ∈ mj_all := (mj_mem 492 (by decide +kernel) rfl)
theorem l_L_26 : Cond.methodLink RL 26 yK_peek ∈ mj_all := (mj_mem 146 (by decide +kernel) rfl)
theorem l_L_30 : Cond.methodLink RL 30 yM_peek ∈ mj_all := (mj_mem 496 (by decide +kernel) rfl)
theorem l_L_31 : Cond.methodLink RL 31 yK_spawn ∈ mj_all := (mj_mem 150 (by decide +kernel) rfl)
theorem l_L_35 : Cond.methodLink RL 35 yM_spawn ∈ mj_all := (mj_mem 500 (by decide +kernel) rfl)
theorem l_L_36 : Cond.methodLink RL 36 yK_put ∈ mj_all := (mj_mem 170 (by decide +kernel) rfl)
theorem l_L_40 : Cond.methodLink RL 40 yM_put ∈ mj_all := (mj_mem 512 (by decide +kernel) rfl)
theorem l_L_41 : Cond.methodLink RL 41 yK_give ∈ mj_all := (mj_mem 178 (by decide +kernel) rfl)
theorem l_L_45 : Cond.methodLink RL 45 yM_give ∈ mj_all := (mj_mem 526 (by decide +kernel) rfl)
theorem l_L_46 : Cond.methodLink RL 46 yK_reap ∈ mj_all := (mj_mem 199 (by decide +kernel) rfl)
theorem l_L_50 : Cond.methodLink RL 50 yM_reap ∈ mj_all := (mj_mem 530 (by decide +kernel) rfl)
theorem l_L_51 : Cond.methodLink RL 51 yK_step ∈ mj_all := (mj_mem 217 (by decide +kernel) rfl)
theorem l_L_54 : Cond.methodLink RL 54 yM_step ∈ mj_all := (mj_mem 538 (by decide +kernel) rfl)
theorem l_L_55 : Cond.methodLink RL 55 yK_state ∈ mj_all := (mj_mem 338 (by decide +kernel) rfl)
theorem l_L_58 : Cond.methodLink RL 58 yM_state ∈ mj_all := (mj_mem 630 (by decide +kernel) rfl)
theorem l_L_59 : Cond.methodLink RL 59 yK_fault ∈ mj_all := (mj_mem 342 (by decide +kernel) rfl)
theorem l_L_62 : Cond.methodLink RL 62 yM_fault ∈ mj_all := (mj_mem 634 (by decide +kernel) rfl)
theorem l_L_63 : Cond.methodLink RL 63 yK_register ∈ mj_all := (mj_mem 346 (by decide +kernel) rfl)
theorem l_L_67 : Cond.methodLink RL 67 yM_register ∈ mj_all := (mj_mem 638 (by decide +kernel) rfl)
theorem l_L_68 : Cond.methodLink RL 68 yK_counter ∈ mj_all := (mj_mem 350 (by decide +kernel) rfl)
theorem l_L_71 : Cond.methodLink RL 71 yM_counter ∈ mj_all := (mj_mem 642 (by decide +kernel) rfl)
theorem l_L_72 : Cond.methodLink RL 72 yK_caller ∈ mj_all := (mj_mem 354 (by decide +kernel) rfl)
theorem l_L_75 : Cond.methodLink RL 75 yM_caller ∈ mj_all := (mj_mem 646 (by decide +kernel) rfl)
theorem l_L_76 : Cond.methodLink RL 76 yK_capability ∈ mj_all := (mj_mem 358 (by decide +kernel) rfl)
theorem l_L_79 : Cond.methodLink RL 79 yM_capability ∈ mj_all := (mj_mem 650 (by decide +kernel) rfl)
theorem l_L_80 : Cond.methodLink RL 80 yK_descendants ∈ mj_all := (mj_mem 366 (by decide +kernel) rfl)
theorem l_L_83 : Cond.methodLink RL 83 yM_descendants ∈ mj_all := (mj_mem 658 (by decide +kernel) rfl)
theorem l_L_84 : Cond.methodLink RL 84 yK_inRow ∈ mj_all := (mj_mem 374 (by decide +kernel) rfl)
theorem l_L_87 : Cond.methodLink RL 87 yM_inRow ∈ mj_all := (mj_mem 662 (by decide +kernel) rfl)
theorem l_L_88 : Cond.methodLink RL 88 yK_printed ∈ mj_all := (mj_mem 378 (by decide +kernel) rfl)
theorem l_L_92 : Cond.methodLink RL 92 yM_printed ∈ mj_all := (mj_mem 666 (by decide +kernel) rfl)
theorem l_L_93 : Cond.methodLink RL 93 yK_print ∈ mj_all := (mj_mem 386 (by decide +kernel) rfl)
theorem l_L_96 : Cond.methodLink RL 96 yM_print ∈ mj_all := (mj_mem 670 (by decide +kernel) rfl)
theorem l_M_75 : Cond.methodLink RM 75 yM_isThread ∈ mj_all := (mj_mem 520 (by decide +kernel) rfl)
theorem l_M_82 : Cond.methodLink RM 82 yM_draw ∈ mj_all := (mj_mem 508 (by decide +kernel) rfl)
theorem l_M_86 : Cond.methodLink RM 86 yM_isIn ∈ mj_all := (mj_mem 546 (by decide +kernel) rfl)
theorem l_M_90 : Cond.methodLink RM 90 yM_at ∈ mj_all := (mj_mem 542 (by decide +kernel) rfl)
theorem l_M_94 : Cond.methodLink RM 94 yM_descends ∈ mj_all := (mj_mem 626 (by decide +kernel) rfl)
theorem l_M_97 : Cond.methodLink RM 97 yM_countBelow ∈ mj_all := (mj_mem 622 (by decide +kernel) rfl)
theorem l_M_101 : Cond.methodLink RM 101 yM_makeReady ∈ mj_all := (mj_mem 504 (by decide +kernel) rfl)
theorem l_M_104 : Cond.methodLink RM 104 yM_isThere ∈ mj_all := (mj_mem 516 (by decide +kernel) rfl)
theorem l_M_107 : Cond.methodLink RM 107 yM_isEight ∈ mj_all := (mj_mem 523 (by decide +kernel) rfl)
theorem l_M_110 : Cond.methodLink RM 110 yM_remove ∈ mj_all := (mj_mem 534 (by decide +kernel) rfl)
theorem l_M_122 : Cond.methodLink RM 122 yM_place ∈ mj_all := (mj_mem 606 (by decide +kernel) rfl)
theorem l_M_126 : Cond.methodLink RM 126 yM_say ∈ mj_all := (mj_mem 590 (by decide +kernel) rfl)
theorem l_M_129 : Cond.methodLink RM 129 yM_firstAt ∈ mj_all := (mj_mem 594 (by decide +kernel) rfl)
theorem l_M_132 : Cond.methodLink RM 132 yM_queue ∈ mj_all := (mj_mem 598 (by decide +kernel) rfl)
theorem l_M_135 : Cond.methodLink RM 135 yM_pass ∈ mj_all := (mj_mem 602 (by decide +kernel) rfl)
theorem l_M_145 : Cond.methodLink RM 145 yM_lacks ∈ mj_all := (mj_mem 566 (by decide +kernel) rfl)
theorem l_M_152 : Cond.methodLink RM 152 yM_result ∈ mj_all := (mj_mem 574 (by decide +kernel) rfl)
theorem l_M_156 : Cond.methodLink RM 156 yM_move ∈ mj_all := (mj_mem 578 (by decide +kernel) rfl)
theorem l_M_159 : Cond.methodLink RM 159 yM_write ∈ mj_all := (mj_mem 582 (by decide +kernel) rfl)
theorem l_M_162 : Cond.methodLink RM 162 yM_send ∈ mj_all := (mj_mem 586 (by decide +kernel) rfl)
theorem l_M_166 : Cond.methodLink RM 166 yM_receive ∈ mj_all := (mj_mem 610 (by decide +kernel) rfl)
theorem l_M_169 : Cond.methodLink RM 169 yM_answer ∈ mj_all := (mj_mem 614 (by decide +kernel) rfl)
theorem l_M_172 : Cond.methodLink RM 172 yM_revoke ∈ mj_all := (mj_mem 618 (by decide +kernel) rfl)
theorem l_M_175 : Cond.methodLink RM 175 yM_fail ∈ mj_all := (mj_mem 558 (by decide +kernel) rfl)
theorem l_M_178 : Cond.methodLink RM 178 yM_faultOf ∈ mj_all := (mj_mem 562 (by decide +kernel) rfl)
theorem l_M_181 : Cond.methodLink RM 181 yM_act ∈ mj_all := (mj_mem 570 (by decide +kernel) rfl)
theorem l_M_187 : Cond.methodLink RM 187 yM_execute ∈ mj_all := (mj_mem 554 (by decide +kernel) rfl)
theorem l_M_190 : Cond.methodLink RM 190 yM_oneStep ∈ mj_all := (mj_mem 550 (by decide +kernel) rfl)
theorem l_M_193 : Cond.methodLink RM 193 yM_isCapability ∈ mj_all := (mj_mem 654 (by decide +kernel) rfl)
theorem l_N_19 : Cond.methodLinkNest RN 19 yK_isBetween "GrantKernel" ∈ mj_nw := List.mem_of_getElem? (i := 4) (by decide +kernel)
theorem l_P_19 : Cond.methodLinkNest RP 19 yK_isBetween "GrantKernel" ∈ mj_nw := List.mem_of_getElem? (i := 5) (by decide +kernel)
theorem mj_gV {own : String} {idx : Nat} {C : String} {y : MethodName} {b : ByteArray} {n : Nat} {r : Option FieldType} (hl : Cond.methodLink own idx y ∈ mj_all) (h1 : Cond.instanceMethod y ∈ mj_all) (h2 : Cond.selects C y y ∈ mj_all) (h3 : Cond.initialized C ∈ mj_all) (h4 : Cond.code y b n r ∈ mj_all) : GoodIn mj_all (wsV own idx C y (Cond.code y b n r :: mj_all)) := mj_good (by
  intro w hw
  simp only [wsV, List.cons_append, List.nil_append, List.mem_cons] at hw
  rcases hw with rfl | rfl | rfl | rfl | rfl | h
  · exact hl
  · exact h1
  · exact h2
  · exact h3
  · exact h4
  · exact h)
theorem mj_gS {own : String} {idx : Nat} {y : MethodName} {b : ByteArray} {n : Nat} {r : Option FieldType} (hl : Cond.methodLink own idx y ∈ mj_all) (h1 : Cond.static y ∈ mj_all) (h3 : Cond.initialized own ∈ mj_all) (h4 : Cond.code y b n r ∈ mj_all) : GoodIn mj_all (wsS own idx y (Cond.code y b n r :: mj_all)) := mj_good (by
  intro w hw
  simp only [wsS, List.cons_append, List.nil_append, List.mem_cons] at hw
  rcases hw with rfl | rfl | rfl | rfl | h
  · exact hl
  · exact h1
  · exact h3
  · exact h4
  · exact h)
theorem mj_gC {y : MethodName} {b : ByteArray} {n : Nat} {r : Option FieldType} (h4 : Cond.code y b n r ∈ mj_all) : GoodIn mj_all (Cond.code y b n r :: mj_all) := mj_good (by
  intro w hw
  rcases List.mem_cons.mp hw with rfl | h
  · exact h4
  · exact h)
theorem h_K_poke : Cond.code yK_poke cK_poke 3 (some .boolean) ∈ mj_all := mj_mem 142 (by decide +kernel) rfl
theorem g_K_poke {own : String} {idx : Nat} (hl : Cond.methodLink own idx yK_poke ∈ mj_all) : GoodIn mj_all (wsV own idx RK yK_poke (Cond.code yK_poke cK_poke 3 (some .boolean) :: mj_all)) := mj_gV hl (mj_mem 140 (by decide +kernel) rfl) (mj_mem 141 (by decide +kernel) rfl) (mj_mem 1 (by decide +kernel) rfl) h_K_poke
theorem z_K_poke : yK_poke.cls = RK ∧ yK_poke.cls ≠ "java/lang/invoke/MethodHandle" ∧ yK_poke.cls ≠ "java/lang/invoke/VarHandle" ∧ (parseMethodDescriptor yK_poke.desc).map (fun d => d.parameters.length) = some 2 := by decide +kernel
theorem h_K_isBetween : Cond.code yK_isBetween cK_isBetween 3 (some .boolean) ∈ mj_all := mj_mem 145 (by decide +kernel) rfl
theorem g_K_isBetween {idx : Nat} (hl : Cond.methodLink RK idx yK_isBetween ∈ mj_all) : GoodIn mj_all (wsS RK idx yK_isBetween (Cond.code yK_isBetween cK_isBetween 3 (some .boolean) :: mj_all)) := mj_gS hl (mj_mem 144 (by decide +kernel) rfl) (mj_mem 1 (by decide +kernel) rfl) h_K_isBetween
theorem z_K_isBetween : yK_isBetween.cls = RK ∧ yK_isBetween.cls ≠ "java/lang/invoke/MethodHandle" ∧ yK_isBetween.cls ≠ "java/lang/invoke/VarHandle" ∧ (parseMethodDescriptor yK_isBetween.desc).map (fun d => d.parameters.length) = some 3 := by decide +kernel
theorem gN_K_isBetween : GoodIn mj_all (Cond.code yK_isBetween cK_isBetween 3 (some .boolean) :: mj_all) ∧ Cond.initialized yK_isBetween.cls ∈ mj_all ∧ Cond.static yK_isBetween ∈ mj_all := ⟨mj_gC h_K_isBetween, (mj_mem 1 (by decide +kernel) rfl), (mj_mem 144 (by decide +kernel) rfl)⟩
theorem h_K_peek : Cond.code yK_peek cK_peek 2 (some .int) ∈ mj_all := mj_mem 149 (by decide +kernel) rfl
theorem g_K_peek {own : String} {idx : Nat} (hl : Cond.methodLink own idx yK_peek ∈ mj_all) : GoodIn mj_all (wsV own idx RK yK_peek (Cond.code yK_peek cK_peek 2 (some .int) :: mj_all)) := mj_gV hl (mj_mem 147 (by decide +kernel) rfl) (mj_mem 148 (by decide +kernel) rfl) (mj_mem 1 (by decide +kernel) rfl) h_K_peek
theorem z_K_peek : yK_peek.cls = RK ∧ yK_peek.cls ≠ "java/lang/invoke/MethodHandle" ∧ yK_peek.cls ≠ "java/lang/invoke/VarHandle" ∧ (parseMethodDescriptor yK_peek.desc).map (fun d => d.parameters.length) = some 1 := by decide +kernel
theorem h_K_spawn : Cond.code yK_spawn cK_spawn 6 (some .int) ∈ mj_all := mj_mem 153 (by decide +kernel) rfl
theorem g_K_spawn {own : String} {idx : Nat} (hl : Cond.methodLink own idx yK_spawn ∈ mj_all) : GoodIn mj_all (wsV own idx RK yK_spawn (Cond.code yK_spawn cK_spawn 6 (some .int) :: mj_all)) := mj_gV hl (mj_mem 151 (by decide +kernel) rfl) (mj_mem 152 (by decide +kernel) rfl) (mj_mem 1 (by decide +kernel) rfl) h_K_spawn
theorem z_K_spawn : yK_spawn.cls = RK ∧ yK_spawn.cls ≠ "java/lang/invoke/MethodHandle" ∧ yK_spawn.cls ≠ "java/lang/invoke/VarHandle" ∧ (parseMethodDescriptor yK_spawn.desc).map (fun d => d.parameters.length) = some 3 := by decide +kernel
theorem h_K_leastFree : Cond.code yK_leastFree cK_leastFree 2 (some .int) ∈ mj_all := mj_mem 157 (by decide +kernel) rfl
theorem g_K_leastFree {own : String} {idx : Nat} (hl : Cond.methodLink own idx yK_leastFree ∈ mj_all) : GoodIn mj_all (wsV own idx RK yK_leastFree (Cond.code yK_leastFree cK_leastFree 2 (some .int) :: mj_all)) := mj_gV hl (mj_mem 156 (by decide +kernel) rfl) (mj_mems 0 (by decide +kernel) rfl) (mj_mem 1 (by decide +kernel) rfl) h_K_leastFree
theorem z_K_leastFree : yK_leastFree.cls = RK ∧ yK_leastFree.cls ≠ "java/lang/invoke/MethodHandle" ∧ yK_leastFree.cls ≠ "java/lang/invoke/VarHandle" ∧ (parseMethodDescriptor yK_leastFree.desc).map (fun d => d.parameters.length) = some 0 := by decide +kernel
theorem h_T_begin : Cond.code yT_begin cT_begin 5 none ∈ mj_all := mj_mem 161 (by decide +kernel) rfl
theorem g_T_begin {own : String} {idx : Nat} (hl : Cond.methodLink own idx yT_begin ∈ mj_all) : GoodIn mj_all (wsV own idx RT yT_begin (Cond.code yT_begin cT_begin 5 none :: mj_all)) := mj_gV hl (mj_mem 159 (by decide +kernel) rfl) (mj_mem 160 (by decide +kernel) rfl) (mj_mem 6 (by decide +kernel) rfl) h_T_begin
theorem z_T_begin : yT_begin.cls = RT ∧ yT_begin.cls ≠ "java/lang/invoke/MethodHandle" ∧ yT_begin.cls ≠ "java/lang/invoke/VarHandle" ∧ (parseMethodDescriptor yT_begin.desc).map (fun d => d.parameters.length) = some 3 := by decide +kernel
theorem h_K_makeReady : Cond.code yK_makeReady cK_makeReady 2 none ∈ mj_all := mj_mem 165 (by decide +kernel) rfl
theorem g_K_makeReady {own : String} {idx : Nat} (hl : Cond.methodLink own idx yK_makeReady ∈ mj_all) : GoodIn mj_all (wsV own idx RK yK_makeReady (Cond.code yK_makeReady cK_makeReady 2 none :: mj_all)) := mj_gV hl (mj_mem 164 (by decide +kernel) rfl) (mj_mems 1 (by decide +kernel) rfl) (mj_mem 1 (by decide +kernel) rfl) h_K_makeReady
theorem z_K_makeReady : yK_makeReady.cls = RK ∧ yK_makeReady.cls ≠ "java/lang/invoke/MethodHandle" ∧ yK_makeReady.cls ≠ "java/lang/invoke/VarHandle" ∧ (parseMethodDescriptor yK_makeReady.desc).map (fun d => d.parameters.length) = some 1 := by decide +kernel
theorem h_N_append : Cond.code yN_append cN_append 2 none ∈ mj_all := mj_mem 169 (by decide +kernel) rfl
theorem g_N_append {own : String} {idx : Nat} (hl : Cond.methodLink own idx yN_append ∈ mj_all) : GoodIn mj_all (wsV own idx RN yN_append (Cond.code yN_append cN_append 2 none :: mj_all)) := mj_gV hl (mj_mem 167 (by decide +kernel) rfl) (mj_mem 168 (by decide +kernel) rfl) (mj_mem 2 (by decide +kernel) rfl) h_N_append
theorem z_N_append : yN_append.cls = RN ∧ yN_append.cls ≠ "java/lang/invoke/MethodHandle" ∧ yN_append.cls ≠ "java/lang/invoke/VarHandle" ∧ (parseMethodDescriptor yN_append.desc).map (fun d => d.parameters.length) = some 1 := by decide +kernel
theorem h_K_put : Cond.code yK_put cK_put 5 (some .boolean) ∈ mj_all := mj_mem 173 (by decide +kernel) rfl
theorem g_K_put {own : String} {idx : Nat} (hl : Cond.methodLink own idx yK_put ∈ mj_all) : GoodIn mj_all (wsV own idx RK yK_put (Cond.code yK_put cK_put 5 (some .boolean) :: mj_all)) := mj_gV hl (mj_mem 171 (by decide +kernel) rfl) (mj_mem 172 (by decide +kernel) rfl) (mj_mem 1 (by decide +kernel) rfl) h_K_put
theorem z_K_put : yK_put.cls = RK ∧ yK_put.cls ≠ "java/lang/invoke/MethodHandle" ∧ yK_put.cls ≠ "java/lang/invoke/VarHandle" ∧ (parseMethodDescriptor yK_put.desc).map (fun d => d.parameters.length) = some 3 := by decide +kernel
theorem h_K_usedTask : Cond.code yK_usedTask cK_usedTask 2 (some (.object "GrantKernel$Task")) ∈ mj_all := mj_mem 177 (by decide +kernel) rfl
theorem g_K_usedTask {own : String} {idx : Nat} (hl : Cond.methodLink own idx yK_usedTask ∈ mj_all) : GoodIn mj_all (wsV own idx RK yK_usedTask (Cond.code yK_usedTask cK_usedTask 2 (some (.object "GrantKernel$Task")) :: mj_all)) := mj_gV hl (mj_mem 176 (by decide +kernel) rfl) (mj_mems 2 (by decide +kernel) rfl) (mj_mem 1 (by decide +kernel) rfl) h_K_usedTask
theorem z_K_usedTask : yK_usedTask.cls = RK ∧ yK_usedTask.cls ≠ "java/lang/invoke/MethodHandle" ∧ yK_usedTask.cls ≠ "java/lang/invoke/VarHandle" ∧ (parseMethodDescriptor yK_usedTask.desc).map (fun d => d.parameters.length) = some 1 := by decide +kernel
theorem h_K_give : Cond.code yK_give cK_give 7 (some .boolean) ∈ mj_all := mj_mem 181 (by decide +kernel) rfl
theorem g_K_give {own : String} {idx : Nat} (hl : Cond.methodLink own idx yK_give ∈ mj_all) : GoodIn mj_all (wsV own idx RK yK_give (Cond.code yK_give cK_give 7 (some .boolean) :: mj_all)) := mj_gV hl (mj_mem 179 (by decide +kernel) rfl) (mj_mem 180 (by decide +kernel) rfl) (mj_mem 1 (by decide +kernel) rfl) h_K_give
theorem z_K_give : yK_give.cls = RK ∧ yK_give.cls ≠ "java/lang/invoke/MethodHandle" ∧ yK_give.cls ≠ "java/lang/invoke/VarHandle" ∧ (parseMethodDescriptor yK_give.desc).map (fun d => d.parameters.length) = some 5 := by decide +kernel
theorem h_K_placeOf : Cond.code yK_placeOf cK_placeOf 3 (some .int) ∈ mj_all := mj_mem 184 (by decide +kernel) rfl
theorem g_K_placeOf {idx : Nat} (hl : Cond.methodLink RK idx yK_placeOf ∈ mj_all) : GoodIn mj_all (wsS RK idx yK_placeOf (Cond.code yK_placeOf cK_placeOf 3 (some .int) :: mj_all)) := mj_gS hl (mj_mem 183 (by decide +kernel) rfl) (mj_mem 1 (by decide +kernel) rfl) h_K_placeOf
theorem z_K_placeOf : yK_placeOf.cls = RK ∧ yK_placeOf.cls ≠ "java/lang/invoke/MethodHandle" ∧ yK_placeOf.cls ≠ "java/lang/invoke/VarHandle" ∧ (parseMethodDescriptor yK_placeOf.desc).map (fun d => d.parameters.length) = some 2 := by decide +kernel
theorem h_K_slotPlace : Cond.code yK_slotPlace cK_slotPlace 2 (some .int) ∈ mj_all := mj_mem 187 (by decide +kernel) rfl
theorem g_K_slotPlace {idx : Nat} (hl : Cond.methodLink RK idx yK_slotPlace ∈ mj_all) : GoodIn mj_all (wsS RK idx yK_slotPlace (Cond.code yK_slotPlace cK_slotPlace 2 (some .int) :: mj_all)) := mj_gS hl (mj_mem 186 (by decide +kernel) rfl) (mj_mem 1 (by decide +kernel) rfl) h_K_slotPlace
theorem z_K_slotPlace : yK_slotPlace.cls = RK ∧ yK_slotPlace.cls ≠ "java/lang/invoke/MethodHandle" ∧ yK_slotPlace.cls ≠ "java/lang/invoke/VarHandle" ∧ (parseMethodDescriptor yK_slotPlace.desc).map (fun d => d.parameters.length) = some 2 := by decide +kernel
theorem h_G_holds : Cond.code yG_holds cG_holds 2 (some .boolean) ∈ mj_all := mj_mem 191 (by decide +kernel) rfl
theorem g_G_holds {own : String} {idx : Nat} (hl : Cond.methodLink own idx yG_holds ∈ mj_all) : GoodIn mj_all (wsV own idx RG yG_holds (Cond.code yG_holds cG_holds 2 (some .boolean) :: mj_all)) := mj_gV hl (mj_mem 189 (by decide +kernel) rfl) (mj_mem 190 (by decide +kernel) rfl) (mj_mem 3 (by decide +kernel) rfl) h_G_holds
theorem z_G_holds : yG_holds.cls = RG ∧ yG_holds.cls ≠ "java/lang/invoke/MethodHandle" ∧ yG_holds.cls ≠ "java/lang/invoke/VarHandle" ∧ (parseMethodDescriptor yG_holds.desc).map (fun d => d.parameters.length) = some 1 := by decide +kernel
theorem h_K_isObjectOfKind : Cond.code yK_isObjectOfKind cK_isObjectOfKind 2 (some .boolean) ∈ mj_all := mj_mem 194 (by decide +kernel) rfl
theorem g_K_isObjectOfKind {idx : Nat} (hl : Cond.methodLink RK idx yK_isObjectOfKind ∈ mj_all) : GoodIn mj_all (wsS RK idx yK_isObjectOfKind (Cond.code yK_isObjectOfKind cK_isObjectOfKind 2 (some .boolean) :: mj_all)) := mj_gS hl (mj_mem 193 (by decide +kernel) rfl) (mj_mem 1 (by decide +kernel) rfl) h_K_isObjectOfKind
theorem z_K_isObjectOfKind : yK_isObjectOfKind.cls = RK ∧ yK_isObjectOfKind.cls ≠ "java/lang/invoke/MethodHandle" ∧ yK_isObjectOfKind.cls ≠ "java/lang/invoke/VarHandle" ∧ (parseMethodDescriptor yK_isObjectOfKind.desc).map (fun d => d.parameters.length) = some 2 := by decide +kernel
theorem h_G_fill : Cond.code yG_fill cG_fill 6 none ∈ mj_all := mj_mem 198 (by decide +kernel) rfl
theorem g_G_fill {own : String} {idx : Nat} (hl : Cond.methodLink own idx yG_fill ∈ mj_all) : GoodIn mj_all (wsV own idx RG yG_fill (Cond.code yG_fill cG_fill 6 none :: mj_all)) := mj_gV hl (mj_mem 196 (by decide +kernel) rfl) (mj_mem 197 (by decide +kernel) rfl) (mj_mem 3 (by decide +kernel) rfl) h_G_fill
theorem z_G_fill : yG_fill.cls = RG ∧ yG_fill.cls ≠ "java/lang/invoke/MethodHandle" ∧ yG_fill.cls ≠ "java/lang/invoke/VarHandle" ∧ (parseMethodDescriptor yG_fill.desc).map (fun d => d.parameters.length) = some 5 := by decide +kernel
theorem h_K_reap : Cond.code yK_reap cK_reap 4 (some .boolean) ∈ mj_all := mj_mem 202 (by decide +kernel) rfl
theorem g_K_reap {own : String} {idx : Nat} (hl : Cond.methodLink own idx yK_reap ∈ mj_all) : GoodIn mj_all (wsV own idx RK yK_reap (Cond.code yK_reap cK_reap 4 (some .boolean) :: mj_all)) := mj_gV hl (mj_mem 200 (by decide +kernel) rfl) (mj_mem 201 (by decide +kernel) rfl) (mj_mem 1 (by decide +kernel) rfl) h_K_reap
theorem z_K_reap : yK_reap.cls = RK ∧ yK_reap.cls ≠ "java/lang/invoke/MethodHandle" ∧ yK_reap.cls ≠ "java/lang/invoke/VarHandle" ∧ (parseMethodDescriptor yK_reap.desc).map (fun d => d.parameters.length) = some 1 := by decide +kernel
theorem h_T_end : Cond.code yT_end cT_end 1 none ∈ mj_all := mj_mem 206 (by decide +kernel) rfl
theorem g_T_end {own : String} {idx : Nat} (hl : Cond.methodLink own idx yT_end ∈ mj_all) : GoodIn mj_all (wsV own idx RT yT_end (Cond.code yT_end cT_end 1 none :: mj_all)) := mj_gV hl (mj_mem 204 (by decide +kernel) rfl) (mj_mem 205 (by decide +kernel) rfl) (mj_mem 6 (by decide +kernel) rfl) h_T_end
theorem z_T_end : yT_end.cls = RT ∧ yT_end.cls ≠ "java/lang/invoke/MethodHandle" ∧ yT_end.cls ≠ "java/lang/invoke/VarHandle" ∧ (parseMethodDescriptor yT_end.desc).map (fun d => d.parameters.length) = some 0 := by decide +kernel
theorem h_G_removeAt : Cond.code yG_removeAt cG_removeAt 3 none ∈ mj_all := mj_mem 210 (by decide +kernel) rfl
theorem g_G_removeAt {own : String} {idx : Nat} (hl : Cond.methodLink own idx yG_removeAt ∈ mj_all) : GoodIn mj_all (wsV own idx RG yG_removeAt (Cond.code yG_removeAt cG_removeAt 3 none :: mj_all)) := mj_gV hl (mj_mem 208 (by decide +kernel) rfl) (mj_mem 209 (by decide +kernel) rfl) (mj_mem 3 (by decide +kernel) rfl) h_G_removeAt
theorem z_G_removeAt : yG_removeAt.cls = RG ∧ yG_removeAt.cls ≠ "java/lang/invoke/MethodHandle" ∧ yG_removeAt.cls ≠ "java/lang/invoke/VarHandle" ∧ (parseMethodDescriptor yG_removeAt.desc).map (fun d => d.parameters.length) = some 1 := by decide +kernel
theorem h_G_empty : Cond.code yG_empty cG_empty 2 none ∈ mj_all := mj_mem 215 (by decide +kernel) rfl
theorem g_G_empty {own : String} {idx : Nat} (hl : Cond.methodLink own idx yG_empty ∈ mj_all) : GoodIn mj_all (wsV own idx RG yG_empty (Cond.code yG_empty cG_empty 2 none :: mj_all)) := mj_gV hl (mj_mem 214 (by decide +kernel) rfl) (mj_mems 3 (by decide +kernel) rfl) (mj_mem 3 (by decide +kernel) rfl) h_G_empty
theorem z_G_empty : yG_empty.cls = RG ∧ yG_empty.cls ≠ "java/lang/invoke/MethodHandle" ∧ yG_empty.cls ≠ "java/lang/invoke/VarHandle" ∧ (parseMethodDescriptor yG_empty.desc).map (fun d => d.parameters.length) = some 1 := by decide +kernel
theorem h_K_step : Cond.code yK_step cK_step 3 (some .int) ∈ mj_all := mj_mem 220 (by decide +kernel) rfl
theorem g_K_step {own : String} {idx : Nat} (hl : Cond.methodLink own idx yK_step ∈ mj_all) : GoodIn mj_all (wsV own idx RK yK_step (Cond.code yK_step cK_step 3 (some .int) :: mj_all)) := mj_gV hl (mj_mem 218 (by decide +kernel) rfl) (mj_mem 219 (by decide +kernel) rfl) (mj_mem 1 (by decide +kernel) rfl) h_K_step
theorem z_K_step : yK_step.cls = RK ∧ yK_step.cls ≠ "java/lang/invoke/MethodHandle" ∧ yK_step.cls ≠ "java/lang/invoke/VarHandle" ∧ (parseMethodDescriptor yK_step.desc).map (fun d => d.parameters.length) = some 1 := by decide +kernel
theorem h_N_at : Cond.code yN_at cN_at 2 (some .int) ∈ mj_all := mj_mem 224 (by decide +kernel) rfl
theorem g_N_at {own : String} {idx : Nat} (hl : Cond.methodLink own idx yN_at ∈ mj_all) : GoodIn mj_all (wsV own idx RN yN_at (Cond.code yN_at cN_at 2 (some .int) :: mj_all)) := mj_gV hl (mj_mem 222 (by decide +kernel) rfl) (mj_mem 223 (by decide +kernel) rfl) (mj_mem 2 (by decide +kernel) rfl) h_N_at
theorem z_N_at : yN_at.cls = RN ∧ yN_at.cls ≠ "java/lang/invoke/MethodHandle" ∧ yN_at.cls ≠ "java/lang/invoke/VarHandle" ∧ (parseMethodDescriptor yN_at.desc).map (fun d => d.parameters.length) = some 1 := by decide +kernel
theorem h_K_runFirst : Cond.code yK_runFirst cK_runFirst 6 none ∈ mj_all := mj_mem 229 (by decide +kernel) rfl
theorem g_K_runFirst {own : String} {idx : Nat} (hl : Cond.methodLink own idx yK_runFirst ∈ mj_all) : GoodIn mj_all (wsV own idx RK yK_runFirst (Cond.code yK_runFirst cK_runFirst 6 none :: mj_all)) := mj_gV hl (mj_mem 228 (by decide +kernel) rfl) (mj_mems 4 (by decide +kernel) rfl) (mj_mem 1 (by decide +kernel) rfl) h_K_runFirst
theorem z_K_runFirst : yK_runFirst.cls = RK ∧ yK_runFirst.cls ≠ "java/lang/invoke/MethodHandle" ∧ yK_runFirst.cls ≠ "java/lang/invoke/VarHandle" ∧ (parseMethodDescriptor yK_runFirst.desc).map (fun d => d.parameters.length) = some 1 := by decide +kernel
theorem h_T_isGood : Cond.code yT_isGood cT_isGood 3 (some .boolean) ∈ mj_all := mj_mem 233 (by decide +kernel) rfl
theorem g_T_isGood {own : String} {idx : Nat} (hl : Cond.methodLink own idx yT_isGood ∈ mj_all) : GoodIn mj_all (wsV own idx RT yT_isGood (Cond.code yT_isGood cT_isGood 3 (some .boolean) :: mj_all)) := mj_gV hl (mj_mem 231 (by decide +kernel) rfl) (mj_mem 232 (by decide +kernel) rfl) (mj_mem 6 (by decide +kernel) rfl) h_T_isGood
theorem z_T_isGood : yT_isGood.cls = RT ∧ yT_isGood.cls ≠ "java/lang/invoke/MethodHandle" ∧ yT_isGood.cls ≠ "java/lang/invoke/VarHandle" ∧ (parseMethodDescriptor yT_isGood.desc).map (fun d => d.parameters.length) = some 1 := by decide +kernel
theorem h_T_fail : Cond.code yT_fail cT_fail 2 none ∈ mj_all := mj_mem 237 (by decide +kernel) rfl
theorem g_T_fail {own : String} {idx : Nat} (hl : Cond.methodLink own idx yT_fail ∈ mj_all) : GoodIn mj_all (wsV own idx RT yT_fail (Cond.code yT_fail cT_fail 2 none :: mj_all)) := mj_gV hl (mj_mem 235 (by decide +kernel) rfl) (mj_mem 236 (by decide +kernel) rfl) (mj_mem 6 (by decide +kernel) rfl) h_T_fail
theorem z_T_fail : yT_fail.cls = RT ∧ yT_fail.cls ≠ "java/lang/invoke/MethodHandle" ∧ yT_fail.cls ≠ "java/lang/invoke/VarHandle" ∧ (parseMethodDescriptor yT_fail.desc).map (fun d => d.parameters.length) = some 1 := by decide +kernel
theorem h_K_perform : Cond.code yK_perform cK_perform 3 (some .int) ∈ mj_all := mj_mem 241 (by decide +kernel) rfl
theorem g_K_perform {own : String} {idx : Nat} (hl : Cond.methodLink own idx yK_perform ∈ mj_all) : GoodIn mj_all (wsV own idx RK yK_perform (Cond.code yK_perform cK_perform 3 (some .int) :: mj_all)) := mj_gV hl (mj_mem 240 (by decide +kernel) rfl) (mj_mems 5 (by decide +kernel) rfl) (mj_mem 1 (by decide +kernel) rfl) h_K_perform
theorem z_K_perform : yK_perform.cls = RK ∧ yK_perform.cls ≠ "java/lang/invoke/MethodHandle" ∧ yK_perform.cls ≠ "java/lang/invoke/VarHandle" ∧ (parseMethodDescriptor yK_perform.desc).map (fun d => d.parameters.length) = some 2 := by decide +kernel
theorem h_K_opOf : Cond.code yK_opOf cK_opOf 1 (some .int) ∈ mj_all := mj_mem 244 (by decide +kernel) rfl
theorem g_K_opOf {idx : Nat} (hl : Cond.methodLink RK idx yK_opOf ∈ mj_all) : GoodIn mj_all (wsS RK idx yK_opOf (Cond.code yK_opOf cK_opOf 1 (some .int) :: mj_all)) := mj_gS hl (mj_mem 243 (by decide +kernel) rfl) (mj_mem 1 (by decide +kernel) rfl) h_K_opOf
theorem z_K_opOf : yK_opOf.cls = RK ∧ yK_opOf.cls ≠ "java/lang/invoke/MethodHandle" ∧ yK_opOf.cls ≠ "java/lang/invoke/VarHandle" ∧ (parseMethodDescriptor yK_opOf.desc).map (fun d => d.parameters.length) = some 1 := by decide +kernel
theorem h_K_access : Cond.code yK_access cK_access 6 (some .int) ∈ mj_all := mj_mem 248 (by decide +kernel) rfl
theorem g_K_access {own : String} {idx : Nat} (hl : Cond.methodLink own idx yK_access ∈ mj_all) : GoodIn mj_all (wsV own idx RK yK_access (Cond.code yK_access cK_access 6 (some .int) :: mj_all)) := mj_gV hl (mj_mem 247 (by decide +kernel) rfl) (mj_mems 6 (by decide +kernel) rfl) (mj_mem 1 (by decide +kernel) rfl) h_K_access
theorem z_K_access : yK_access.cls = RK ∧ yK_access.cls ≠ "java/lang/invoke/MethodHandle" ∧ yK_access.cls ≠ "java/lang/invoke/VarHandle" ∧ (parseMethodDescriptor yK_access.desc).map (fun d => d.parameters.length) = some 2 := by decide +kernel
theorem h_K_fieldB : Cond.code yK_fieldB cK_fieldB 1 (some .int) ∈ mj_all := mj_mem 251 (by decide +kernel) rfl
theorem g_K_fieldB {idx : Nat} (hl : Cond.methodLink RK idx yK_fieldB ∈ mj_all) : GoodIn mj_all (wsS RK idx yK_fieldB (Cond.code yK_fieldB cK_fieldB 1 (some .int) :: mj_all)) := mj_gS hl (mj_mem 250 (by decide +kernel) rfl) (mj_mem 1 (by decide +kernel) rfl) h_K_fieldB
theorem z_K_fieldB : yK_fieldB.cls = RK ∧ yK_fieldB.cls ≠ "java/lang/invoke/MethodHandle" ∧ yK_fieldB.cls ≠ "java/lang/invoke/VarHandle" ∧ (parseMethodDescriptor yK_fieldB.desc).map (fun d => d.parameters.length) = some 1 := by decide +kernel
theorem h_K_numberOf : Cond.code yK_numberOf cK_numberOf 1 (some .int) ∈ mj_all := mj_mem 254 (by decide +kernel) rfl
theorem g_K_numberOf {idx : Nat} (hl : Cond.methodLink RK idx yK_numberOf ∈ mj_all) : GoodIn mj_all (wsS RK idx yK_numberOf (Cond.code yK_numberOf cK_numberOf 1 (some .int) :: mj_all)) := mj_gS hl (mj_mem 253 (by decide +kernel) rfl) (mj_mem 1 (by decide +kernel) rfl) h_K_numberOf
theorem z_K_numberOf : yK_numberOf.cls = RK ∧ yK_numberOf.cls ≠ "java/lang/invoke/MethodHandle" ∧ yK_numberOf.cls ≠ "java/lang/invoke/VarHandle" ∧ (parseMethodDescriptor yK_numberOf.desc).map (fun d => d.parameters.length) = some 1 := by decide +kernel
theorem h_K_fieldA : Cond.code yK_fieldA cK_fieldA 1 (some .int) ∈ mj_all := mj_mem 257 (by decide +kernel) rfl
theorem g_K_fieldA {idx : Nat} (hl : Cond.methodLink RK idx yK_fieldA ∈ mj_all) : GoodIn mj_all (wsS RK idx yK_fieldA (Cond.code yK_fieldA cK_fieldA 1 (some .int) :: mj_all)) := mj_gS hl (mj_mem 256 (by decide +kernel) rfl) (mj_mem 1 (by decide +kernel) rfl) h_K_fieldA
theorem z_K_fieldA : yK_fieldA.cls = RK ∧ yK_fieldA.cls ≠ "java/lang/invoke/MethodHandle" ∧ yK_fieldA.cls ≠ "java/lang/invoke/VarHandle" ∧ (parseMethodDescriptor yK_fieldA.desc).map (fun d => d.parameters.length) = some 1 := by decide +kernel
theorem h_K_printBy : Cond.code yK_printBy cK_printBy 3 (some .int) ∈ mj_all := mj_mem 261 (by decide +kernel) rfl
theorem g_K_printBy {own : String} {idx : Nat} (hl : Cond.methodLink own idx yK_printBy ∈ mj_all) : GoodIn mj_all (wsV own idx RK yK_printBy (Cond.code yK_printBy cK_printBy 3 (some .int) :: mj_all)) := mj_gV hl (mj_mem 260 (by decide +kernel) rfl) (mj_mems 7 (by decide +kernel) rfl) (mj_mem 1 (by decide +kernel) rfl) h_K_printBy
theorem z_K_printBy : yK_printBy.cls = RK ∧ yK_printBy.cls ≠ "java/lang/invoke/MethodHandle" ∧ yK_printBy.cls ≠ "java/lang/invoke/VarHandle" ∧ (parseMethodDescriptor yK_printBy.desc).map (fun d => d.parameters.length) = some 2 := by decide +kernel
theorem h_G_allows : Cond.code yG_allows cG_allows 4 (some .boolean) ∈ mj_all := mj_mem 265 (by decide +kernel) rfl
theorem g_G_allows {own : String} {idx : Nat} (hl : Cond.methodLink own idx yG_allows ∈ mj_all) : GoodIn mj_all (wsV own idx RG yG_allows (Cond.code yG_allows cG_allows 4 (some .boolean) :: mj_all)) := mj_gV hl (mj_mem 263 (by decide +kernel) rfl) (mj_mem 264 (by decide +kernel) rfl) (mj_mem 3 (by decide +kernel) rfl) h_G_allows
theorem z_G_allows : yG_allows.cls = RG ∧ yG_allows.cls ≠ "java/lang/invoke/MethodHandle" ∧ yG_allows.cls ≠ "java/lang/invoke/VarHandle" ∧ (parseMethodDescriptor yG_allows.desc).map (fun d => d.parameters.length) = some 3 := by decide +kernel
theorem h_P_append : Cond.code yP_append cP_append 2 none ∈ mj_all := mj_mem 269 (by decide +kernel) rfl
theorem g_P_append {own : String} {idx : Nat} (hl : Cond.methodLink own idx yP_append ∈ mj_all) : GoodIn mj_all (wsV own idx RP yP_append (Cond.code yP_append cP_append 2 none :: mj_all)) := mj_gV hl (mj_mem 267 (by decide +kernel) rfl) (mj_mem 268 (by decide +kernel) rfl) (mj_mem 4 (by decide +kernel) rfl) h_P_append
theorem z_P_append : yP_append.cls = RP ∧ yP_append.cls ≠ "java/lang/invoke/MethodHandle" ∧ yP_append.cls ≠ "java/lang/invoke/VarHandle" ∧ (parseMethodDescriptor yP_append.desc).map (fun d => d.parameters.length) = some 1 := by decide +kernel
theorem h_K_sendBy : Cond.code yK_sendBy cK_sendBy 8 (some .int) ∈ mj_all := mj_mem 273 (by decide +kernel) rfl
theorem g_K_sendBy {own : String} {idx : Nat} (hl : Cond.methodLink own idx yK_sendBy ∈ mj_all) : GoodIn mj_all (wsV own idx RK yK_sendBy (Cond.code yK_sendBy cK_sendBy 8 (some .int) :: mj_all)) := mj_gV hl (mj_mem 272 (by decide +kernel) rfl) (mj_mems 8 (by decide +kernel) rfl) (mj_mem 1 (by decide +kernel) rfl) h_K_sendBy
theorem z_K_sendBy : yK_sendBy.cls = RK ∧ yK_sendBy.cls ≠ "java/lang/invoke/MethodHandle" ∧ yK_sendBy.cls ≠ "java/lang/invoke/VarHandle" ∧ (parseMethodDescriptor yK_sendBy.desc).map (fun d => d.parameters.length) = some 2 := by decide +kernel
theorem h_K_isNumberOdd : Cond.code yK_isNumberOdd cK_isNumberOdd 1 (some .boolean) ∈ mj_all := mj_mem 276 (by decide +kernel) rfl
theorem g_K_isNumberOdd {idx : Nat} (hl : Cond.methodLink RK idx yK_isNumberOdd ∈ mj_all) : GoodIn mj_all (wsS RK idx yK_isNumberOdd (Cond.code yK_isNumberOdd cK_isNumberOdd 1 (some .boolean) :: mj_all)) := mj_gS hl (mj_mem 275 (by decide +kernel) rfl) (mj_mem 1 (by decide +kernel) rfl) h_K_isNumberOdd
theorem z_K_isNumberOdd : yK_isNumberOdd.cls = RK ∧ yK_isNumberOdd.cls ≠ "java/lang/invoke/MethodHandle" ∧ yK_isNumberOdd.cls ≠ "java/lang/invoke/VarHandle" ∧ (parseMethodDescriptor yK_isNumberOdd.desc).map (fun d => d.parameters.length) = some 1 := by decide +kernel
theorem h_G_objectAt : Cond.code yG_objectAt cG_objectAt 2 (some .int) ∈ mj_all := mj_mem 280 (by decide +kernel) rfl
theorem g_G_objectAt {own : String} {idx : Nat} (hl : Cond.methodLink own idx yG_objectAt ∈ mj_all) : GoodIn mj_all (wsV own idx RG yG_objectAt (Cond.code yG_objectAt cG_objectAt 2 (some .int) :: mj_all)) := mj_gV hl (mj_mem 278 (by decide +kernel) rfl) (mj_mem 279 (by decide +kernel) rfl) (mj_mem 3 (by decide +kernel) rfl) h_G_objectAt
theorem z_G_objectAt : yG_objectAt.cls = RG ∧ yG_objectAt.cls ≠ "java/lang/invoke/MethodHandle" ∧ yG_objectAt.cls ≠ "java/lang/invoke/VarHandle" ∧ (parseMethodDescriptor yG_objectAt.desc).map (fun d => d.parameters.length) = some 1 := by decide +kernel
theorem h_K_takeWaiting : Cond.code yK_takeWaiting cK_takeWaiting 4 (some .int) ∈ mj_all := mj_mem 284 (by decide +kernel) rfl
theorem g_K_takeWaiting {own : String} {idx : Nat} (hl : Cond.methodLink own idx yK_takeWaiting ∈ mj_all) : GoodIn mj_all (wsV own idx RK yK_takeWaiting (Cond.code yK_takeWaiting cK_takeWaiting 4 (some .int) :: mj_all)) := mj_gV hl (mj_mem 283 (by decide +kernel) rfl) (mj_mems 9 (by decide +kernel) rfl) (mj_mem 1 (by decide +kernel) rfl) h_K_takeWaiting
theorem z_K_takeWaiting : yK_takeWaiting.cls = RK ∧ yK_takeWaiting.cls ≠ "java/lang/invoke/MethodHandle" ∧ yK_takeWaiting.cls ≠ "java/lang/invoke/VarHandle" ∧ (parseMethodDescriptor yK_takeWaiting.desc).map (fun d => d.parameters.length) = some 2 := by decide +kernel
theorem h_N_takeFirst : Cond.code yN_takeFirst cN_takeFirst 2 none ∈ mj_all := mj_mem 288 (by decide +kernel) rfl
theorem g_N_takeFirst {own : String} {idx : Nat} (hl : Cond.methodLink own idx yN_takeFirst ∈ mj_all) : GoodIn mj_all (wsV own idx RN yN_takeFirst (Cond.code yN_takeFirst cN_takeFirst 2 none :: mj_all)) := mj_gV hl (mj_mem 286 (by decide +kernel) rfl) (mj_mem 287 (by decide +kernel) rfl) (mj_mem 2 (by decide +kernel) rfl) h_N_takeFirst
theorem z_N_takeFirst : yN_takeFirst.cls = RN ∧ yN_takeFirst.cls ≠ "java/lang/invoke/MethodHandle" ∧ yN_takeFirst.cls ≠ "java/lang/invoke/VarHandle" ∧ (parseMethodDescriptor yN_takeFirst.desc).map (fun d => d.parameters.length) = some 0 := by decide +kernel
theorem h_K_pass : Cond.code yK_pass cK_pass 8 none ∈ mj_all := mj_mem 292 (by decide +kernel) rfl
theorem g_K_pass {own : String} {idx : Nat} (hl : Cond.methodLink own idx yK_pass ∈ mj_all) : GoodIn mj_all (wsV own idx RK yK_pass (Cond.code yK_pass cK_pass 8 none :: mj_all)) := mj_gV hl (mj_mem 291 (by decide +kernel) rfl) (mj_mems 10 (by decide +kernel) rfl) (mj_mem 1 (by decide +kernel) rfl) h_K_pass
theorem z_K_pass : yK_pass.cls = RK ∧ yK_pass.cls ≠ "java/lang/invoke/MethodHandle" ∧ yK_pass.cls ≠ "java/lang/invoke/VarHandle" ∧ (parseMethodDescriptor yK_pass.desc).map (fun d => d.parameters.length) = some 2 := by decide +kernel
theorem h_K_fieldC : Cond.code yK_fieldC cK_fieldC 1 (some .int) ∈ mj_all := mj_mem 295 (by decide +kernel) rfl
theorem g_K_fieldC {idx : Nat} (hl : Cond.methodLink RK idx yK_fieldC ∈ mj_all) : GoodIn mj_all (wsS RK idx yK_fieldC (Cond.code yK_fieldC cK_fieldC 1 (some .int) :: mj_all)) := mj_gS hl (mj_mem 294 (by decide +kernel) rfl) (mj_mem 1 (by decide +kernel) rfl) h_K_fieldC
theorem z_K_fieldC : yK_fieldC.cls = RK ∧ yK_fieldC.cls ≠ "java/lang/invoke/MethodHandle" ∧ yK_fieldC.cls ≠ "java/lang/invoke/VarHandle" ∧ (parseMethodDescriptor yK_fieldC.desc).map (fun d => d.parameters.length) = some 1 := by decide +kernel
theorem h_G_derive : Cond.code yG_derive cG_derive 4 none ∈ mj_all := mj_mem 299 (by decide +kernel) rfl
theorem g_G_derive {own : String} {idx : Nat} (hl : Cond.methodLink own idx yG_derive ∈ mj_all) : GoodIn mj_all (wsV own idx RG yG_derive (Cond.code yG_derive cG_derive 4 none :: mj_all)) := mj_gV hl (mj_mem 297 (by decide +kernel) rfl) (mj_mem 298 (by decide +kernel) rfl) (mj_mem 3 (by decide +kernel) rfl) h_G_derive
theorem z_G_derive : yG_derive.cls = RG ∧ yG_derive.cls ≠ "java/lang/invoke/MethodHandle" ∧ yG_derive.cls ≠ "java/lang/invoke/VarHandle" ∧ (parseMethodDescriptor yG_derive.desc).map (fun d => d.parameters.length) = some 3 := by decide +kernel
theorem h_K_receiveBy : Cond.code yK_receiveBy cK_receiveBy 7 (some .int) ∈ mj_all := mj_mem 303 (by decide +kernel) rfl
theorem g_K_receiveBy {own : String} {idx : Nat} (hl : Cond.methodLink own idx yK_receiveBy ∈ mj_all) : GoodIn mj_all (wsV own idx RK yK_receiveBy (Cond.code yK_receiveBy cK_receiveBy 7 (some .int) :: mj_all)) := mj_gV hl (mj_mem 302 (by decide +kernel) rfl) (mj_mems 11 (by decide +kernel) rfl) (mj_mem 1 (by decide +kernel) rfl) h_K_receiveBy
theorem z_K_receiveBy : yK_receiveBy.cls = RK ∧ yK_receiveBy.cls ≠ "java/lang/invoke/MethodHandle" ∧ yK_receiveBy.cls ≠ "java/lang/invoke/VarHandle" ∧ (parseMethodDescriptor yK_receiveBy.desc).map (fun d => d.parameters.length) = some 2 := by decide +kernel
theorem h_K_answerCaller : Cond.code yK_answerCaller cK_answerCaller 5 (some .int) ∈ mj_all := mj_mem 307 (by decide +kernel) rfl
theorem g_K_answerCaller {own : String} {idx : Nat} (hl : Cond.methodLink own idx yK_answerCaller ∈ mj_all) : GoodIn mj_all (wsV own idx RK yK_answerCaller (Cond.code yK_answerCaller cK_answerCaller 5 (some .int) :: mj_all)) := mj_gV hl (mj_mem 306 (by decide +kernel) rfl) (mj_mems 12 (by decide +kernel) rfl) (mj_mem 1 (by decide +kernel) rfl) h_K_answerCaller
theorem z_K_answerCaller : yK_answerCaller.cls = RK ∧ yK_answerCaller.cls ≠ "java/lang/invoke/MethodHandle" ∧ yK_answerCaller.cls ≠ "java/lang/invoke/VarHandle" ∧ (parseMethodDescriptor yK_answerCaller.desc).map (fun d => d.parameters.length) = some 2 := by decide +kernel
theorem h_K_mintInto : Cond.code yK_mintInto cK_mintInto 5 (some .int) ∈ mj_all := mj_mem 311 (by decide +kernel) rfl
theorem g_K_mintInto {own : String} {idx : Nat} (hl : Cond.methodLink own idx yK_mintInto ∈ mj_all) : GoodIn mj_all (wsV own idx RK yK_mintInto (Cond.code yK_mintInto cK_mintInto 5 (some .int) :: mj_all)) := mj_gV hl (mj_mem 310 (by decide +kernel) rfl) (mj_mems 13 (by decide +kernel) rfl) (mj_mem 1 (by decide +kernel) rfl) h_K_mintInto
theorem z_K_mintInto : yK_mintInto.cls = RK ∧ yK_mintInto.cls ≠ "java/lang/invoke/MethodHandle" ∧ yK_mintInto.cls ≠ "java/lang/invoke/VarHandle" ∧ (parseMethodDescriptor yK_mintInto.desc).map (fun d => d.parameters.length) = some 2 := by decide +kernel
theorem h_K_takeBack : Cond.code yK_takeBack cK_takeBack 4 (some .int) ∈ mj_all := mj_mem 315 (by decide +kernel) rfl
theorem g_K_takeBack {own : String} {idx : Nat} (hl : Cond.methodLink own idx yK_takeBack ∈ mj_all) : GoodIn mj_all (wsV own idx RK yK_takeBack (Cond.code yK_takeBack cK_takeBack 4 (some .int) :: mj_all)) := mj_gV hl (mj_mem 314 (by decide +kernel) rfl) (mj_mems 14 (by decide +kernel) rfl) (mj_mem 1 (by decide +kernel) rfl) h_K_takeBack
theorem z_K_takeBack : yK_takeBack.cls = RK ∧ yK_takeBack.cls ≠ "java/lang/invoke/MethodHandle" ∧ yK_takeBack.cls ≠ "java/lang/invoke/VarHandle" ∧ (parseMethodDescriptor yK_takeBack.desc).map (fun d => d.parameters.length) = some 2 := by decide +kernel
theorem h_G_revokeBelow : Cond.code yG_revokeBelow cG_revokeBelow 3 none ∈ mj_all := mj_mem 319 (by decide +kernel) rfl
theorem g_G_revokeBelow {own : String} {idx : Nat} (hl : Cond.methodLink own idx yG_revokeBelow ∈ mj_all) : GoodIn mj_all (wsV own idx RG yG_revokeBelow (Cond.code yG_revokeBelow cG_revokeBelow 3 none :: mj_all)) := mj_gV hl (mj_mem 317 (by decide +kernel) rfl) (mj_mem 318 (by decide +kernel) rfl) (mj_mem 3 (by decide +kernel) rfl) h_G_revokeBelow
theorem z_G_revokeBelow : yG_revokeBelow.cls = RG ∧ yG_revokeBelow.cls ≠ "java/lang/invoke/MethodHandle" ∧ yG_revokeBelow.cls ≠ "java/lang/invoke/VarHandle" ∧ (parseMethodDescriptor yG_revokeBelow.desc).map (fun d => d.parameters.length) = some 1 := by decide +kernel
theorem h_G_isBelow : Cond.code yG_isBelow cG_isBelow 5 (some .boolean) ∈ mj_all := mj_mem 323 (by decide +kernel) rfl
theorem g_G_isBelow {own : String} {idx : Nat} (hl : Cond.methodLink own idx yG_isBelow ∈ mj_all) : GoodIn mj_all (wsV own idx RG yG_isBelow (Cond.code yG_isBelow cG_isBelow 5 (some .boolean) :: mj_all)) := mj_gV hl (mj_mem 322 (by decide +kernel) rfl) (mj_mems 15 (by decide +kernel) rfl) (mj_mem 3 (by decide +kernel) rfl) h_G_isBelow
theorem z_G_isBelow : yG_isBelow.cls = RG ∧ yG_isBelow.cls ≠ "java/lang/invoke/MethodHandle" ∧ yG_isBelow.cls ≠ "java/lang/invoke/VarHandle" ∧ (parseMethodDescriptor yG_isBelow.desc).map (fun d => d.parameters.length) = some 2 := by decide +kernel
theorem h_K_lookIntoSlot : Cond.code yK_lookIntoSlot cK_lookIntoSlot 3 (some .int) ∈ mj_all := mj_mem 327 (by decide +kernel) rfl
theorem g_K_lookIntoSlot {own : String} {idx : Nat} (hl : Cond.methodLink own idx yK_lookIntoSlot ∈ mj_all) : GoodIn mj_all (wsV own idx RK yK_lookIntoSlot (Cond.code yK_lookIntoSlot cK_lookIntoSlot 3 (some .int) :: mj_all)) := mj_gV hl (mj_mem 326 (by decide +kernel) rfl) (mj_mems 16 (by decide +kernel) rfl) (mj_mem 1 (by decide +kernel) rfl) h_K_lookIntoSlot
theorem z_K_lookIntoSlot : yK_lookIntoSlot.cls = RK ∧ yK_lookIntoSlot.cls ≠ "java/lang/invoke/MethodHandle" ∧ yK_lookIntoSlot.cls ≠ "java/lang/invoke/VarHandle" ∧ (parseMethodDescriptor yK_lookIntoSlot.desc).map (fun d => d.parameters.length) = some 2 := by decide +kernel
theorem h_K_compute : Cond.code yK_compute cK_compute 6 (some .int) ∈ mj_all := mj_mem 330 (by decide +kernel) rfl
theorem g_K_compute {idx : Nat} (hl : Cond.methodLink RK idx yK_compute ∈ mj_all) : GoodIn mj_all (wsS RK idx yK_compute (Cond.code yK_compute cK_compute 6 (some .int) :: mj_all)) := mj_gS hl (mj_mem 329 (by decide +kernel) rfl) (mj_mem 1 (by decide +kernel) rfl) h_K_compute
theorem z_K_compute : yK_compute.cls = RK ∧ yK_compute.cls ≠ "java/lang/invoke/MethodHandle" ∧ yK_compute.cls ≠ "java/lang/invoke/VarHandle" ∧ (parseMethodDescriptor yK_compute.desc).map (fun d => d.parameters.length) = some 2 := by decide +kernel
theorem h_K_counterAfter : Cond.code yK_counterAfter cK_counterAfter 5 (some .int) ∈ mj_all := mj_mem 333 (by decide +kernel) rfl
theorem g_K_counterAfter {idx : Nat} (hl : Cond.methodLink RK idx yK_counterAfter ∈ mj_all) : GoodIn mj_all (wsS RK idx yK_counterAfter (Cond.code yK_counterAfter cK_counterAfter 5 (some .int) :: mj_all)) := mj_gS hl (mj_mem 332 (by decide +kernel) rfl) (mj_mem 1 (by decide +kernel) rfl) h_K_counterAfter
theorem z_K_counterAfter : yK_counterAfter.cls = RK ∧ yK_counterAfter.cls ≠ "java/lang/invoke/MethodHandle" ∧ yK_counterAfter.cls ≠ "java/lang/invoke/VarHandle" ∧ (parseMethodDescriptor yK_counterAfter.desc).map (fun d => d.parameters.length) = some 2 := by decide +kernel
theorem h_K_settleFirst : Cond.code yK_settleFirst cK_settleFirst 4 none ∈ mj_all := mj_mem 337 (by decide +kernel) rfl
theorem g_K_settleFirst {own : String} {idx : Nat} (hl : Cond.methodLink own idx yK_settleFirst ∈ mj_all) : GoodIn mj_all (wsV own idx RK yK_settleFirst (Cond.code yK_settleFirst cK_settleFirst 4 none :: mj_all)) := mj_gV hl (mj_mem 336 (by decide +kernel) rfl) (mj_mems 17 (by decide +kernel) rfl) (mj_mem 1 (by decide +kernel) rfl) h_K_settleFirst
theorem z_K_settleFirst : yK_settleFirst.cls = RK ∧ yK_settleFirst.cls ≠ "java/lang/invoke/MethodHandle" ∧ yK_settleFirst.cls ≠ "java/lang/invoke/VarHandle" ∧ (parseMethodDescriptor yK_settleFirst.desc).map (fun d => d.parameters.length) = some 2 := by decide +kernel
theorem h_K_state : Cond.code yK_state cK_state 2 (some .int) ∈ mj_all := mj_mem 341 (by decide +kernel) rfl
theorem g_K_state {own : String} {idx : Nat} (hl : Cond.methodLink own idx yK_state ∈ mj_all) : GoodIn mj_all (wsV own idx RK yK_state (Cond.code yK_state cK_state 2 (some .int) :: mj_all)) := mj_gV hl (mj_mem 339 (by decide +kernel) rfl) (mj_mem 340 (by decide +kernel) rfl) (mj_mem 1 (by decide +kernel) rfl) h_K_state
theorem z_K_state : yK_state.cls = RK ∧ yK_state.cls ≠ "java/lang/invoke/MethodHandle" ∧ yK_state.cls ≠ "java/lang/invoke/VarHandle" ∧ (parseMethodDescriptor yK_state.desc).map (fun d => d.parameters.length) = some 1 := by decide +kernel
theorem h_K_fault : Cond.code yK_fault cK_fault 3 (some .int) ∈ mj_all := mj_mem 345 (by decide +kernel) rfl
theorem g_K_fault {own : String} {idx : Nat} (hl : Cond.methodLink own idx yK_fault ∈ mj_all) : GoodIn mj_all (wsV own idx RK yK_fault (Cond.code yK_fault cK_fault 3 (some .int) :: mj_all)) := mj_gV hl (mj_mem 343 (by decide +kernel) rfl) (mj_mem 344 (by decide +kernel) rfl) (mj_mem 1 (by decide +kernel) rfl) h_K_fault
theorem z_K_fault : yK_fault.cls = RK ∧ yK_fault.cls ≠ "java/lang/invoke/MethodHandle" ∧ yK_fault.cls ≠ "java/lang/invoke/VarHandle" ∧ (parseMethodDescriptor yK_fault.desc).map (fun d => d.parameters.length) = some 1 := by decide +kernel
theorem h_K_register : Cond.code yK_register cK_register 4 (some .int) ∈ mj_all := mj_mem 349 (by decide +kernel) rfl
theorem g_K_register {own : String} {idx : Nat} (hl : Cond.methodLink own idx yK_register ∈ mj_all) : GoodIn mj_all (wsV own idx RK yK_register (Cond.code yK_register cK_register 4 (some .int) :: mj_all)) := mj_gV hl (mj_mem 347 (by decide +kernel) rfl) (mj_mem 348 (by decide +kernel) rfl) (mj_mem 1 (by decide +kernel) rfl) h_K_register
theorem z_K_register : yK_register.cls = RK ∧ yK_register.cls ≠ "java/lang/invoke/MethodHandle" ∧ yK_register.cls ≠ "java/lang/invoke/VarHandle" ∧ (parseMethodDescriptor yK_register.desc).map (fun d => d.parameters.length) = some 2 := by decide +kernel
theorem h_K_counter : Cond.code yK_counter cK_counter 3 (some .int) ∈ mj_all := mj_mem 353 (by decide +kernel) rfl
theorem g_K_counter {own : String} {idx : Nat} (hl : Cond.methodLink own idx yK_counter ∈ mj_all) : GoodIn mj_all (wsV own idx RK yK_counter (Cond.code yK_counter cK_counter 3 (some .int) :: mj_all)) := mj_gV hl (mj_mem 351 (by decide +kernel) rfl) (mj_mem 352 (by decide +kernel) rfl) (mj_mem 1 (by decide +kernel) rfl) h_K_counter
theorem z_K_counter : yK_counter.cls = RK ∧ yK_counter.cls ≠ "java/lang/invoke/MethodHandle" ∧ yK_counter.cls ≠ "java/lang/invoke/VarHandle" ∧ (parseMethodDescriptor yK_counter.desc).map (fun d => d.parameters.length) = some 1 := by decide +kernel
theorem h_K_caller : Cond.code yK_caller cK_caller 3 (some .int) ∈ mj_all := mj_mem 357 (by decide +kernel) rfl
theorem g_K_caller {own : String} {idx : Nat} (hl : Cond.methodLink own idx yK_caller ∈ mj_all) : GoodIn mj_all (wsV own idx RK yK_caller (Cond.code yK_caller cK_caller 3 (some .int) :: mj_all)) := mj_gV hl (mj_mem 355 (by decide +kernel) rfl) (mj_mem 356 (by decide +kernel) rfl) (mj_mem 1 (by decide +kernel) rfl) h_K_caller
theorem z_K_caller : yK_caller.cls = RK ∧ yK_caller.cls ≠ "java/lang/invoke/MethodHandle" ∧ yK_caller.cls ≠ "java/lang/invoke/VarHandle" ∧ (parseMethodDescriptor yK_caller.desc).map (fun d => d.parameters.length) = some 1 := by decide +kernel
theorem h_K_capability : Cond.code yK_capability cK_capability 5 (some .int) ∈ mj_all := mj_mem 361 (by decide +kernel) rfl
theorem g_K_capability {own : String} {idx : Nat} (hl : Cond.methodLink own idx yK_capability ∈ mj_all) : GoodIn mj_all (wsV own idx RK yK_capability (Cond.code yK_capability cK_capability 5 (some .int) :: mj_all)) := mj_gV hl (mj_mem 359 (by decide +kernel) rfl) (mj_mem 360 (by decide +kernel) rfl) (mj_mem 1 (by decide +kernel) rfl) h_K_capability
theorem z_K_capability : yK_capability.cls = RK ∧ yK_capability.cls ≠ "java/lang/invoke/MethodHandle" ∧ yK_capability.cls ≠ "java/lang/invoke/VarHandle" ∧ (parseMethodDescriptor yK_capability.desc).map (fun d => d.parameters.length) = some 3 := by decide +kernel
theorem h_G_partOf : Cond.code yG_partOf cG_partOf 3 (some .int) ∈ mj_all := mj_mem 365 (by decide +kernel) rfl
theorem g_G_partOf {own : String} {idx : Nat} (hl : Cond.methodLink own idx yG_partOf ∈ mj_all) : GoodIn mj_all (wsV own idx RG yG_partOf (Cond.code yG_partOf cG_partOf 3 (some .int) :: mj_all)) := mj_gV hl (mj_mem 363 (by decide +kernel) rfl) (mj_mem 364 (by decide +kernel) rfl) (mj_mem 3 (by decide +kernel) rfl) h_G_partOf
theorem z_G_partOf : yG_partOf.cls = RG ∧ yG_partOf.cls ≠ "java/lang/invoke/MethodHandle" ∧ yG_partOf.cls ≠ "java/lang/invoke/VarHandle" ∧ (parseMethodDescriptor yG_partOf.desc).map (fun d => d.parameters.length) = some 2 := by decide +kernel
theorem h_K_descendants : Cond.code yK_descendants cK_descendants 4 (some .int) ∈ mj_all := mj_mem 369 (by decide +kernel) rfl
theorem g_K_descendants {own : String} {idx : Nat} (hl : Cond.methodLink own idx yK_descendants ∈ mj_all) : GoodIn mj_all (wsV own idx RK yK_descendants (Cond.code yK_descendants cK_descendants 4 (some .int) :: mj_all)) := mj_gV hl (mj_mem 367 (by decide +kernel) rfl) (mj_mem 368 (by decide +kernel) rfl) (mj_mem 1 (by decide +kernel) rfl) h_K_descendants
theorem z_K_descendants : yK_descendants.cls = RK ∧ yK_descendants.cls ≠ "java/lang/invoke/MethodHandle" ∧ yK_descendants.cls ≠ "java/lang/invoke/VarHandle" ∧ (parseMethodDescriptor yK_descendants.desc).map (fun d => d.parameters.length) = some 2 := by decide +kernel
theorem h_G_countBelow : Cond.code yG_countBelow cG_countBelow 4 (some .int) ∈ mj_all := mj_mem 373 (by decide +kernel) rfl
theorem g_G_countBelow {own : String} {idx : Nat} (hl : Cond.methodLink own idx yG_countBelow ∈ mj_all) : GoodIn mj_all (wsV own idx RG yG_countBelow (Cond.code yG_countBelow cG_countBelow 4 (some .int) :: mj_all)) := mj_gV hl (mj_mem 371 (by decide +kernel) rfl) (mj_mem 372 (by decide +kernel) rfl) (mj_mem 3 (by decide +kernel) rfl) h_G_countBelow
theorem z_G_countBelow : yG_countBelow.cls = RG ∧ yG_countBelow.cls ≠ "java/lang/invoke/MethodHandle" ∧ yG_countBelow.cls ≠ "java/lang/invoke/VarHandle" ∧ (parseMethodDescriptor yG_countBelow.desc).map (fun d => d.parameters.length) = some 1 := by decide +kernel
theorem h_K_inRow : Cond.code yK_inRow cK_inRow 3 (some .int) ∈ mj_all := mj_mem 377 (by decide +kernel) rfl
theorem g_K_inRow {own : String} {idx : Nat} (hl : Cond.methodLink own idx yK_inRow ∈ mj_all) : GoodIn mj_all (wsV own idx RK yK_inRow (Cond.code yK_inRow cK_inRow 3 (some .int) :: mj_all)) := mj_gV hl (mj_mem 375 (by decide +kernel) rfl) (mj_mem 376 (by decide +kernel) rfl) (mj_mem 1 (by decide +kernel) rfl) h_K_inRow
theorem z_K_inRow : yK_inRow.cls = RK ∧ yK_inRow.cls ≠ "java/lang/invoke/MethodHandle" ∧ yK_inRow.cls ≠ "java/lang/invoke/VarHandle" ∧ (parseMethodDescriptor yK_inRow.desc).map (fun d => d.parameters.length) = some 2 := by decide +kernel
theorem h_K_printed : Cond.code yK_printed cK_printed 1 (some .int) ∈ mj_all := mj_mem 381 (by decide +kernel) rfl
theorem g_K_printed {own : String} {idx : Nat} (hl : Cond.methodLink own idx yK_printed ∈ mj_all) : GoodIn mj_all (wsV own idx RK yK_printed (Cond.code yK_printed cK_printed 1 (some .int) :: mj_all)) := mj_gV hl (mj_mem 379 (by decide +kernel) rfl) (mj_mem 380 (by decide +kernel) rfl) (mj_mem 1 (by decide +kernel) rfl) h_K_printed
theorem z_K_printed : yK_printed.cls = RK ∧ yK_printed.cls ≠ "java/lang/invoke/MethodHandle" ∧ yK_printed.cls ≠ "java/lang/invoke/VarHandle" ∧ (parseMethodDescriptor yK_printed.desc).map (fun d => d.parameters.length) = some 0 := by decide +kernel
theorem h_P_count : Cond.code yP_count cP_count 1 (some .int) ∈ mj_all := mj_mem 385 (by decide +kernel) rfl
theorem g_P_count {own : String} {idx : Nat} (hl : Cond.methodLink own idx yP_count ∈ mj_all) : GoodIn mj_all (wsV own idx RP yP_count (Cond.code yP_count cP_count 1 (some .int) :: mj_all)) := mj_gV hl (mj_mem 383 (by decide +kernel) rfl) (mj_mem 384 (by decide +kernel) rfl) (mj_mem 4 (by decide +kernel) rfl) h_P_count
theorem z_P_count : yP_count.cls = RP ∧ yP_count.cls ≠ "java/lang/invoke/MethodHandle" ∧ yP_count.cls ≠ "java/lang/invoke/VarHandle" ∧ (parseMethodDescriptor yP_count.desc).map (fun d => d.parameters.length) = some 0 := by decide +kernel
theorem h_K_print : Cond.code yK_print cK_print 2 (some .int) ∈ mj_all := mj_mem 389 (by decide +kernel) rfl
theorem g_K_print {own : String} {idx : Nat} (hl : Cond.methodLink own idx yK_print ∈ mj_all) : GoodIn mj_all (wsV own idx RK yK_print (Cond.code yK_print cK_print 2 (some .int) :: mj_all)) := mj_gV hl (mj_mem 387 (by decide +kernel) rfl) (mj_mem 388 (by decide +kernel) rfl) (mj_mem 1 (by decide +kernel) rfl) h_K_print
theorem z_K_print : yK_print.cls = RK ∧ yK_print.cls ≠ "java/lang/invoke/MethodHandle" ∧ yK_print.cls ≠ "java/lang/invoke/VarHandle" ∧ (parseMethodDescriptor yK_print.desc).map (fun d => d.parameters.length) = some 1 := by decide +kernel
theorem h_P_backFromLatest : Cond.code yP_backFromLatest cP_backFromLatest 3 (some .int) ∈ mj_all := mj_mem 393 (by decide +kernel) rfl
theorem g_P_backFromLatest {own : String} {idx : Nat} (hl : Cond.methodLink own idx yP_backFromLatest ∈ mj_all) : GoodIn mj_all (wsV own idx RP yP_backFromLatest (Cond.code yP_backFromLatest cP_backFromLatest 3 (some .int) :: mj_all)) := mj_gV hl (mj_mem 391 (by decide +kernel) rfl) (mj_mem 392 (by decide +kernel) rfl) (mj_mem 4 (by decide +kernel) rfl) h_P_backFromLatest
theorem z_P_backFromLatest : yP_backFromLatest.cls = RP ∧ yP_backFromLatest.cls ≠ "java/lang/invoke/MethodHandle" ∧ yP_backFromLatest.cls ≠ "java/lang/invoke/VarHandle" ∧ (parseMethodDescriptor yP_backFromLatest.desc).map (fun d => d.parameters.length) = some 1 := by decide +kernel
theorem h_M_poke : Cond.code yM_poke cM_poke 3 (some .boolean) ∈ mj_all := mj_mem 495 (by decide +kernel) rfl
theorem g_M_poke {own : String} {idx : Nat} (hl : Cond.methodLink own idx yM_poke ∈ mj_all) : GoodIn mj_all (wsV own idx RM yM_poke (Cond.code yM_poke cM_poke 3 (some .boolean) :: mj_all)) := mj_gV hl (mj_mem 493 (by decide +kernel) rfl) (mj_mem 494 (by decide +kernel) rfl) (mj_mem 7 (by decide +kernel) rfl) h_M_poke
theorem z_M_poke : yM_poke.cls = RM ∧ yM_poke.cls ≠ "java/lang/invoke/MethodHandle" ∧ yM_poke.cls ≠ "java/lang/invoke/VarHandle" ∧ (parseMethodDescriptor yM_poke.desc).map (fun d => d.parameters.length) = some 2 := by decide +kernel
theorem h_M_peek : Cond.code yM_peek cM_peek 2 (some .int) ∈ mj_all := mj_mem 499 (by decide +kernel) rfl
theorem g_M_peek {own : String} {idx : Nat} (hl : Cond.methodLink own idx yM_peek ∈ mj_all) : GoodIn mj_all (wsV own idx RM yM_peek (Cond.code yM_peek cM_peek 2 (some .int) :: mj_all)) := mj_gV hl (mj_mem 497 (by decide +kernel) rfl) (mj_mem 498 (by decide +kernel) rfl) (mj_mem 7 (by decide +kernel) rfl) h_M_peek
theorem z_M_peek : yM_peek.cls = RM ∧ yM_peek.cls ≠ "java/lang/invoke/MethodHandle" ∧ yM_peek.cls ≠ "java/lang/invoke/VarHandle" ∧ (parseMethodDescriptor yM_peek.desc).map (fun d => d.parameters.length) = some 1 := by decide +kernel
theorem h_M_spawn : Cond.code yM_spawn cM_spawn 6 (some .int) ∈ mj_all := mj_mem 503 (by decide +kernel) rfl
theorem g_M_spawn {own : String} {idx : Nat} (hl : Cond.methodLink own idx yM_spawn ∈ mj_all) : GoodIn mj_all (wsV own idx RM yM_spawn (Cond.code yM_spawn cM_spawn 6 (some .int) :: mj_all)) := mj_gV hl (mj_mem 501 (by decide +kernel) rfl) (mj_mem 502 (by decide +kernel) rfl) (mj_mem 7 (by decide +kernel) rfl) h_M_spawn
theorem z_M_spawn : yM_spawn.cls = RM ∧ yM_spawn.cls ≠ "java/lang/invoke/MethodHandle" ∧ yM_spawn.cls ≠ "java/lang/invoke/VarHandle" ∧ (parseMethodDescriptor yM_spawn.desc).map (fun d => d.parameters.length) = some 3 := by decide +kernel
theorem h_M_makeReady : Cond.code yM_makeReady cM_makeReady 2 none ∈ mj_all := mj_mem 507 (by decide +kernel) rfl
theorem g_M_makeReady {own : String} {idx : Nat} (hl : Cond.methodLink own idx yM_makeReady ∈ mj_all) : GoodIn mj_all (wsV own idx RM yM_makeReady (Cond.code yM_makeReady cM_makeReady 2 none :: mj_all)) := mj_gV hl (mj_mem 506 (by decide +kernel) rfl) (mj_mems 18 (by decide +kernel) rfl) (mj_mem 7 (by decide +kernel) rfl) h_M_makeReady
theorem z_M_makeReady : yM_makeReady.cls = RM ∧ yM_makeReady.cls ≠ "java/lang/invoke/MethodHandle" ∧ yM_makeReady.cls ≠ "java/lang/invoke/VarHandle" ∧ (parseMethodDescriptor yM_makeReady.desc).map (fun d => d.parameters.length) = some 1 := by decide +kernel
theorem h_M_draw : Cond.code yM_draw cM_draw 2 none ∈ mj_all := mj_mem 511 (by decide +kernel) rfl
theorem g_M_draw {own : String} {idx : Nat} (hl : Cond.methodLink own idx yM_draw ∈ mj_all) : GoodIn mj_all (wsV own idx RM yM_draw (Cond.code yM_draw cM_draw 2 none :: mj_all)) := mj_gV hl (mj_mem 510 (by decide +kernel) rfl) (mj_mems 19 (by decide +kernel) rfl) (mj_mem 7 (by decide +kernel) rfl) h_M_draw
theorem z_M_draw : yM_draw.cls = RM ∧ yM_draw.cls ≠ "java/lang/invoke/MethodHandle" ∧ yM_draw.cls ≠ "java/lang/invoke/VarHandle" ∧ (parseMethodDescriptor yM_draw.desc).map (fun d => d.parameters.length) = some 1 := by decide +kernel
theorem h_M_put : Cond.code yM_put cM_put 4 (some .boolean) ∈ mj_all := mj_mem 515 (by decide +kernel) rfl
theorem g_M_put {own : String} {idx : Nat} (hl : Cond.methodLink own idx yM_put ∈ mj_all) : GoodIn mj_all (wsV own idx RM yM_put (Cond.code yM_put cM_put 4 (some .boolean) :: mj_all)) := mj_gV hl (mj_mem 513 (by decide +kernel) rfl) (mj_mem 514 (by decide +kernel) rfl) (mj_mem 7 (by decide +kernel) rfl) h_M_put
theorem z_M_put : yM_put.cls = RM ∧ yM_put.cls ≠ "java/lang/invoke/MethodHandle" ∧ yM_put.cls ≠ "java/lang/invoke/VarHandle" ∧ (parseMethodDescriptor yM_put.desc).map (fun d => d.parameters.length) = some 3 := by decide +kernel
theorem h_M_isThere : Cond.code yM_isThere cM_isThere 2 (some .boolean) ∈ mj_all := mj_mem 519 (by decide +kernel) rfl
theorem g_M_isThere {own : String} {idx : Nat} (hl : Cond.methodLink own idx yM_isThere ∈ mj_all) : GoodIn mj_all (wsV own idx RM yM_isThere (Cond.code yM_isThere cM_isThere 2 (some .boolean) :: mj_all)) := mj_gV hl (mj_mem 518 (by decide +kernel) rfl) (mj_mems 20 (by decide +kernel) rfl) (mj_mem 7 (by decide +kernel) rfl) h_M_isThere
theorem z_M_isThere : yM_isThere.cls = RM ∧ yM_isThere.cls ≠ "java/lang/invoke/MethodHandle" ∧ yM_isThere.cls ≠ "java/lang/invoke/VarHandle" ∧ (parseMethodDescriptor yM_isThere.desc).map (fun d => d.parameters.length) = some 1 := by decide +kernel
theorem h_M_isThread : Cond.code yM_isThread cM_isThread 1 (some .boolean) ∈ mj_all := mj_mem 522 (by decide +kernel) rfl
theorem g_M_isThread {idx : Nat} (hl : Cond.methodLink RM idx yM_isThread ∈ mj_all) : GoodIn mj_all (wsS RM idx yM_isThread (Cond.code yM_isThread cM_isThread 1 (some .boolean) :: mj_all)) := mj_gS hl (mj_mem 521 (by decide +kernel) rfl) (mj_mem 7 (by decide +kernel) rfl) h_M_isThread
theorem z_M_isThread : yM_isThread.cls = RM ∧ yM_isThread.cls ≠ "java/lang/invoke/MethodHandle" ∧ yM_isThread.cls ≠ "java/lang/invoke/VarHandle" ∧ (parseMethodDescriptor yM_isThread.desc).map (fun d => d.parameters.length) = some 1 := by decide +kernel
theorem h_M_isEight : Cond.code yM_isEight cM_isEight 1 (some .boolean) ∈ mj_all := mj_mem 525 (by decide +kernel) rfl
theorem g_M_isEight {idx : Nat} (hl : Cond.methodLink RM idx yM_isEight ∈ mj_all) : GoodIn mj_all (wsS RM idx yM_isEight (Cond.code yM_isEight cM_isEight 1 (some .boolean) :: mj_all)) := mj_gS hl (mj_mem 524 (by decide +kernel) rfl) (mj_mem 7 (by decide +kernel) rfl) h_M_isEight
theorem z_M_isEight : yM_isEight.cls = RM ∧ yM_isEight.cls ≠ "java/lang/invoke/MethodHandle" ∧ yM_isEight.cls ≠ "java/lang/invoke/VarHandle" ∧ (parseMethodDescriptor yM_isEight.desc).map (fun d => d.parameters.length) = some 1 := by decide +kernel
theorem h_M_give : Cond.code yM_give cM_give 6 (some .boolean) ∈ mj_all := mj_mem 529 (by decide +kernel) rfl
theorem g_M_give {own : String} {idx : Nat} (hl : Cond.methodLink own idx yM_give ∈ mj_all) : GoodIn mj_all (wsV own idx RM yM_give (Cond.code yM_give cM_give 6 (some .boolean) :: mj_all)) := mj_gV hl (mj_mem 527 (by decide +kernel) rfl) (mj_mem 528 (by decide +kernel) rfl) (mj_mem 7 (by decide +kernel) rfl) h_M_give
theorem z_M_give : yM_give.cls = RM ∧ yM_give.cls ≠ "java/lang/invoke/MethodHandle" ∧ yM_give.cls ≠ "java/lang/invoke/VarHandle" ∧ (parseMethodDescriptor yM_give.desc).map (fun d => d.parameters.length) = some 5 := by decide +kernel
theorem h_M_reap : Cond.code yM_reap cM_reap 3 (some .boolean) ∈ mj_all := mj_mem 533 (by decide +kernel) rfl
theorem g_M_reap {own : String} {idx : Nat} (hl : Cond.methodLink own idx yM_reap ∈ mj_all) : GoodIn mj_all (wsV own idx RM yM_reap (Cond.code yM_reap cM_reap 3 (some .boolean) :: mj_all)) := mj_gV hl (mj_mem 531 (by decide +kernel) rfl) (mj_mem 532 (by decide +kernel) rfl) (mj_mem 7 (by decide +kernel) rfl) h_M_reap
theorem z_M_reap : yM_reap.cls = RM ∧ yM_reap.cls ≠ "java/lang/invoke/MethodHandle" ∧ yM_reap.cls ≠ "java/lang/invoke/VarHandle" ∧ (parseMethodDescriptor yM_reap.desc).map (fun d => d.parameters.length) = some 1 := by decide +kernel
theorem h_M_remove : Cond.code yM_remove cM_remove 3 none ∈ mj_all := mj_mem 537 (by decide +kernel) rfl
theorem g_M_remove {own : String} {idx : Nat} (hl : Cond.methodLink own idx yM_remove ∈ mj_all) : GoodIn mj_all (wsV own idx RM yM_remove (Cond.code yM_remove cM_remove 3 none :: mj_all)) := mj_gV hl (mj_mem 536 (by decide +kernel) rfl) (mj_mems 21 (by decide +kernel) rfl) (mj_mem 7 (by decide +kernel) rfl) h_M_remove
theorem z_M_remove : yM_remove.cls = RM ∧ yM_remove.cls ≠ "java/lang/invoke/MethodHandle" ∧ yM_remove.cls ≠ "java/lang/invoke/VarHandle" ∧ (parseMethodDescriptor yM_remove.desc).map (fun d => d.parameters.length) = some 1 := by decide +kernel
theorem h_M_step : Cond.code yM_step cM_step 4 (some .int) ∈ mj_all := mj_mem 541 (by decide +kernel) rfl
theorem g_M_step {own : String} {idx : Nat} (hl : Cond.methodLink own idx yM_step ∈ mj_all) : GoodIn mj_all (wsV own idx RM yM_step (Cond.code yM_step cM_step 4 (some .int) :: mj_all)) := mj_gV hl (mj_mem 539 (by decide +kernel) rfl) (mj_mem 540 (by decide +kernel) rfl) (mj_mem 7 (by decide +kernel) rfl) h_M_step
theorem z_M_step : yM_step.cls = RM ∧ yM_step.cls ≠ "java/lang/invoke/MethodHandle" ∧ yM_step.cls ≠ "java/lang/invoke/VarHandle" ∧ (parseMethodDescriptor yM_step.desc).map (fun d => d.parameters.length) = some 1 := by decide +kernel
theorem h_M_at : Cond.code yM_at cM_at 7 (some .int) ∈ mj_all := mj_mem 545 (by decide +kernel) rfl
theorem g_M_at {own : String} {idx : Nat} (hl : Cond.methodLink own idx yM_at ∈ mj_all) : GoodIn mj_all (wsV own idx RM yM_at (Cond.code yM_at cM_at 7 (some .int) :: mj_all)) := mj_gV hl (mj_mem 544 (by decide +kernel) rfl) (mj_mems 22 (by decide +kernel) rfl) (mj_mem 7 (by decide +kernel) rfl) h_M_at
theorem z_M_at : yM_at.cls = RM ∧ yM_at.cls ≠ "java/lang/invoke/MethodHandle" ∧ yM_at.cls ≠ "java/lang/invoke/VarHandle" ∧ (parseMethodDescriptor yM_at.desc).map (fun d => d.parameters.length) = some 2 := by decide +kernel
theorem h_M_isIn : Cond.code yM_isIn cM_isIn 3 (some .boolean) ∈ mj_all := mj_mem 549 (by decide +kernel) rfl
theorem g_M_isIn {own : String} {idx : Nat} (hl : Cond.methodLink own idx yM_isIn ∈ mj_all) : GoodIn mj_all (wsV own idx RM yM_isIn (Cond.code yM_isIn cM_isIn 3 (some .boolean) :: mj_all)) := mj_gV hl (mj_mem 548 (by decide +kernel) rfl) (mj_mems 23 (by decide +kernel) rfl) (mj_mem 7 (by decide +kernel) rfl) h_M_isIn
theorem z_M_isIn : yM_isIn.cls = RM ∧ yM_isIn.cls ≠ "java/lang/invoke/MethodHandle" ∧ yM_isIn.cls ≠ "java/lang/invoke/VarHandle" ∧ (parseMethodDescriptor yM_isIn.desc).map (fun d => d.parameters.length) = some 2 := by decide +kernel
theorem h_M_oneStep : Cond.code yM_oneStep cM_oneStep 2 none ∈ mj_all := mj_mem 553 (by decide +kernel) rfl
theorem g_M_oneStep {own : String} {idx : Nat} (hl : Cond.methodLink own idx yM_oneStep ∈ mj_all) : GoodIn mj_all (wsV own idx RM yM_oneStep (Cond.code yM_oneStep cM_oneStep 2 none :: mj_all)) := mj_gV hl (mj_mem 552 (by decide +kernel) rfl) (mj_mems 24 (by decide +kernel) rfl) (mj_mem 7 (by decide +kernel) rfl) h_M_oneStep
theorem z_M_oneStep : yM_oneStep.cls = RM ∧ yM_oneStep.cls ≠ "java/lang/invoke/MethodHandle" ∧ yM_oneStep.cls ≠ "java/lang/invoke/VarHandle" ∧ (parseMethodDescriptor yM_oneStep.desc).map (fun d => d.parameters.length) = some 1 := by decide +kernel
theorem h_M_execute : Cond.code yM_execute cM_execute 6 none ∈ mj_all := mj_mem 557 (by decide +kernel) rfl
theorem g_M_execute {own : String} {idx : Nat} (hl : Cond.methodLink own idx yM_execute ∈ mj_all) : GoodIn mj_all (wsV own idx RM yM_execute (Cond.code yM_execute cM_execute 6 none :: mj_all)) := mj_gV hl (mj_mem 556 (by decide +kernel) rfl) (mj_mems 25 (by decide +kernel) rfl) (mj_mem 7 (by decide +kernel) rfl) h_M_execute
theorem z_M_execute : yM_execute.cls = RM ∧ yM_execute.cls ≠ "java/lang/invoke/MethodHandle" ∧ yM_execute.cls ≠ "java/lang/invoke/VarHandle" ∧ (parseMethodDescriptor yM_execute.desc).map (fun d => d.parameters.length) = some 1 := by decide +kernel
theorem h_M_fail : Cond.code yM_fail cM_fail 3 none ∈ mj_all := mj_mem 561 (by decide +kernel) rfl
theorem g_M_fail {own : String} {idx : Nat} (hl : Cond.methodLink own idx yM_fail ∈ mj_all) : GoodIn mj_all (wsV own idx RM yM_fail (Cond.code yM_fail cM_fail 3 none :: mj_all)) := mj_gV hl (mj_mem 560 (by decide +kernel) rfl) (mj_mems 26 (by decide +kernel) rfl) (mj_mem 7 (by decide +kernel) rfl) h_M_fail
theorem z_M_fail : yM_fail.cls = RM ∧ yM_fail.cls ≠ "java/lang/invoke/MethodHandle" ∧ yM_fail.cls ≠ "java/lang/invoke/VarHandle" ∧ (parseMethodDescriptor yM_fail.desc).map (fun d => d.parameters.length) = some 2 := by decide +kernel
theorem h_M_faultOf : Cond.code yM_faultOf cM_faultOf 5 (some .int) ∈ mj_all := mj_mem 565 (by decide +kernel) rfl
theorem g_M_faultOf {own : String} {idx : Nat} (hl : Cond.methodLink own idx yM_faultOf ∈ mj_all) : GoodIn mj_all (wsV own idx RM yM_faultOf (Cond.code yM_faultOf cM_faultOf 5 (some .int) :: mj_all)) := mj_gV hl (mj_mem 564 (by decide +kernel) rfl) (mj_mems 27 (by decide +kernel) rfl) (mj_mem 7 (by decide +kernel) rfl) h_M_faultOf
theorem z_M_faultOf : yM_faultOf.cls = RM ∧ yM_faultOf.cls ≠ "java/lang/invoke/MethodHandle" ∧ yM_faultOf.cls ≠ "java/lang/invoke/VarHandle" ∧ (parseMethodDescriptor yM_faultOf.desc).map (fun d => d.parameters.length) = some 2 := by decide +kernel
theorem h_M_lacks : Cond.code yM_lacks cM_lacks 5 (some .boolean) ∈ mj_all := mj_mem 569 (by decide +kernel) rfl
theorem g_M_lacks {own : String} {idx : Nat} (hl : Cond.methodLink own idx yM_lacks ∈ mj_all) : GoodIn mj_all (wsV own idx RM yM_lacks (Cond.code yM_lacks cM_lacks 5 (some .boolean) :: mj_all)) := mj_gV hl (mj_mem 568 (by decide +kernel) rfl) (mj_mems 28 (by decide +kernel) rfl) (mj_mem 7 (by decide +kernel) rfl) h_M_lacks
theorem z_M_lacks : yM_lacks.cls = RM ∧ yM_lacks.cls ≠ "java/lang/invoke/MethodHandle" ∧ yM_lacks.cls ≠ "java/lang/invoke/VarHandle" ∧ (parseMethodDescriptor yM_lacks.desc).map (fun d => d.parameters.length) = some 3 := by decide +kernel
theorem h_M_act : Cond.code yM_act cM_act 7 none ∈ mj_all := mj_mem 573 (by decide +kernel) rfl
theorem g_M_act {own : String} {idx : Nat} (hl : Cond.methodLink own idx yM_act ∈ mj_all) : GoodIn mj_all (wsV own idx RM yM_act (Cond.code yM_act cM_act 7 none :: mj_all)) := mj_gV hl (mj_mem 572 (by decide +kernel) rfl) (mj_mems 29 (by decide +kernel) rfl) (mj_mem 7 (by decide +kernel) rfl) h_M_act
theorem z_M_act : yM_act.cls = RM ∧ yM_act.cls ≠ "java/lang/invoke/MethodHandle" ∧ yM_act.cls ≠ "java/lang/invoke/VarHandle" ∧ (parseMethodDescriptor yM_act.desc).map (fun d => d.parameters.length) = some 2 := by decide +kernel
theorem h_M_result : Cond.code yM_result cM_result 4 (some .int) ∈ mj_all := mj_mem 577 (by decide +kernel) rfl
theorem g_M_result {own : String} {idx : Nat} (hl : Cond.methodLink own idx yM_result ∈ mj_all) : GoodIn mj_all (wsV own idx RM yM_result (Cond.code yM_result cM_result 4 (some .int) :: mj_all)) := mj_gV hl (mj_mem 576 (by decide +kernel) rfl) (mj_mems 30 (by decide +kernel) rfl) (mj_mem 7 (by decide +kernel) rfl) h_M_result
theorem z_M_result : yM_result.cls = RM ∧ yM_result.cls ≠ "java/lang/invoke/MethodHandle" ∧ yM_result.cls ≠ "java/lang/invoke/VarHandle" ∧ (parseMethodDescriptor yM_result.desc).map (fun d => d.parameters.length) = some 3 := by decide +kernel
theorem h_M_move : Cond.code yM_move cM_move 5 none ∈ mj_all := mj_mem 581 (by decide +kernel) rfl
theorem g_M_move {own : String} {idx : Nat} (hl : Cond.methodLink own idx yM_move ∈ mj_all) : GoodIn mj_all (wsV own idx RM yM_move (Cond.code yM_move cM_move 5 none :: mj_all)) := mj_gV hl (mj_mem 580 (by decide +kernel) rfl) (mj_mems 31 (by decide +kernel) rfl) (mj_mem 7 (by decide +kernel) rfl) h_M_move
theorem z_M_move : yM_move.cls = RM ∧ yM_move.cls ≠ "java/lang/invoke/MethodHandle" ∧ yM_move.cls ≠ "java/lang/invoke/VarHandle" ∧ (parseMethodDescriptor yM_move.desc).map (fun d => d.parameters.length) = some 2 := by decide +kernel
theorem h_M_write : Cond.code yM_write cM_write 2 none ∈ mj_all := mj_mem 585 (by decide +kernel) rfl
theorem g_M_write {own : String} {idx : Nat} (hl : Cond.methodLink own idx yM_write ∈ mj_all) : GoodIn mj_all (wsV own idx RM yM_write (Cond.code yM_write cM_write 2 none :: mj_all)) := mj_gV hl (mj_mem 584 (by decide +kernel) rfl) (mj_mems 32 (by decide +kernel) rfl) (mj_mem 7 (by decide +kernel) rfl) h_M_write
theorem z_M_write : yM_write.cls = RM ∧ yM_write.cls ≠ "java/lang/invoke/MethodHandle" ∧ yM_write.cls ≠ "java/lang/invoke/VarHandle" ∧ (parseMethodDescriptor yM_write.desc).map (fun d => d.parameters.length) = some 1 := by decide +kernel
theorem h_M_send : Cond.code yM_send cM_send 5 none ∈ mj_all := mj_mem 589 (by decide +kernel) rfl
theorem g_M_send {own : String} {idx : Nat} (hl : Cond.methodLink own idx yM_send ∈ mj_all) : GoodIn mj_all (wsV own idx RM yM_send (Cond.code yM_send cM_send 5 none :: mj_all)) := mj_gV hl (mj_mem 588 (by decide +kernel) rfl) (mj_mems 33 (by decide +kernel) rfl) (mj_mem 7 (by decide +kernel) rfl) h_M_send
theorem z_M_send : yM_send.cls = RM ∧ yM_send.cls ≠ "java/lang/invoke/MethodHandle" ∧ yM_send.cls ≠ "java/lang/invoke/VarHandle" ∧ (parseMethodDescriptor yM_send.desc).map (fun d => d.parameters.length) = some 3 := by decide +kernel
theorem h_M_say : Cond.code yM_say cM_say 2 none ∈ mj_all := mj_mem 593 (by decide +kernel) rfl
theorem g_M_say {own : String} {idx : Nat} (hl : Cond.methodLink own idx yM_say ∈ mj_all) : GoodIn mj_all (wsV own idx RM yM_say (Cond.code yM_say cM_say 2 none :: mj_all)) := mj_gV hl (mj_mem 592 (by decide +kernel) rfl) (mj_mems 34 (by decide +kernel) rfl) (mj_mem 7 (by decide +kernel) rfl) h_M_say
theorem z_M_say : yM_say.cls = RM ∧ yM_say.cls ≠ "java/lang/invoke/MethodHandle" ∧ yM_say.cls ≠ "java/lang/invoke/VarHandle" ∧ (parseMethodDescriptor yM_say.desc).map (fun d => d.parameters.length) = some 1 := by decide +kernel
theorem h_M_firstAt : Cond.code yM_firstAt cM_firstAt 4 (some .int) ∈ mj_all := mj_mem 597 (by decide +kernel) rfl
theorem g_M_firstAt {own : String} {idx : Nat} (hl : Cond.methodLink own idx yM_firstAt ∈ mj_all) : GoodIn mj_all (wsV own idx RM yM_firstAt (Cond.code yM_firstAt cM_firstAt 4 (some .int) :: mj_all)) := mj_gV hl (mj_mem 596 (by decide +kernel) rfl) (mj_mems 35 (by decide +kernel) rfl) (mj_mem 7 (by decide +kernel) rfl) h_M_firstAt
theorem z_M_firstAt : yM_firstAt.cls = RM ∧ yM_firstAt.cls ≠ "java/lang/invoke/MethodHandle" ∧ yM_firstAt.cls ≠ "java/lang/invoke/VarHandle" ∧ (parseMethodDescriptor yM_firstAt.desc).map (fun d => d.parameters.length) = some 2 := by decide +kernel
theorem h_M_queue : Cond.code yM_queue cM_queue 4 none ∈ mj_all := mj_mem 601 (by decide +kernel) rfl
theorem g_M_queue {own : String} {idx : Nat} (hl : Cond.methodLink own idx yM_queue ∈ mj_all) : GoodIn mj_all (wsV own idx RM yM_queue (Cond.code yM_queue cM_queue 4 none :: mj_all)) := mj_gV hl (mj_mem 600 (by decide +kernel) rfl) (mj_mems 36 (by decide +kernel) rfl) (mj_mem 7 (by decide +kernel) rfl) h_M_queue
theorem z_M_queue : yM_queue.cls = RM ∧ yM_queue.cls ≠ "java/lang/invoke/MethodHandle" ∧ yM_queue.cls ≠ "java/lang/invoke/VarHandle" ∧ (parseMethodDescriptor yM_queue.desc).map (fun d => d.parameters.length) = some 3 := by decide +kernel
theorem h_M_pass : Cond.code yM_pass cM_pass 6 none ∈ mj_all := mj_mem 605 (by decide +kernel) rfl
theorem g_M_pass {own : String} {idx : Nat} (hl : Cond.methodLink own idx yM_pass ∈ mj_all) : GoodIn mj_all (wsV own idx RM yM_pass (Cond.code yM_pass cM_pass 6 none :: mj_all)) := mj_gV hl (mj_mem 604 (by decide +kernel) rfl) (mj_mems 37 (by decide +kernel) rfl) (mj_mem 7 (by decide +kernel) rfl) h_M_pass
theorem z_M_pass : yM_pass.cls = RM ∧ yM_pass.cls ≠ "java/lang/invoke/MethodHandle" ∧ yM_pass.cls ≠ "java/lang/invoke/VarHandle" ∧ (parseMethodDescriptor yM_pass.desc).map (fun d => d.parameters.length) = some 2 := by decide +kernel
theorem h_M_place : Cond.code yM_place cM_place 4 none ∈ mj_all := mj_mem 609 (by decide +kernel) rfl
theorem g_M_place {own : String} {idx : Nat} (hl : Cond.methodLink own idx yM_place ∈ mj_all) : GoodIn mj_all (wsV own idx RM yM_place (Cond.code yM_place cM_place 4 none :: mj_all)) := mj_gV hl (mj_mem 608 (by decide +kernel) rfl) (mj_mems 38 (by decide +kernel) rfl) (mj_mem 7 (by decide +kernel) rfl) h_M_place
theorem z_M_place : yM_place.cls = RM ∧ yM_place.cls ≠ "java/lang/invoke/MethodHandle" ∧ yM_place.cls ≠ "java/lang/invoke/VarHandle" ∧ (parseMethodDescriptor yM_place.desc).map (fun d => d.parameters.length) = some 3 := by decide +kernel
theorem h_M_receive : Cond.code yM_receive cM_receive 4 none ∈ mj_all := mj_mem 613 (by decide +kernel) rfl
theorem g_M_receive {own : String} {idx : Nat} (hl : Cond.methodLink own idx yM_receive ∈ mj_all) : GoodIn mj_all (wsV own idx RM yM_receive (Cond.code yM_receive cM_receive 4 none :: mj_all)) := mj_gV hl (mj_mem 612 (by decide +kernel) rfl) (mj_mems 39 (by decide +kernel) rfl) (mj_mem 7 (by decide +kernel) rfl) h_M_receive
theorem z_M_receive : yM_receive.cls = RM ∧ yM_receive.cls ≠ "java/lang/invoke/MethodHandle" ∧ yM_receive.cls ≠ "java/lang/invoke/VarHandle" ∧ (parseMethodDescriptor yM_receive.desc).map (fun d => d.parameters.length) = some 2 := by decide +kernel
theorem h_M_answer : Cond.code yM_answer cM_answer 3 none ∈ mj_all := mj_mem 617 (by decide +kernel) rfl
theorem g_M_answer {own : String} {idx : Nat} (hl : Cond.methodLink own idx yM_answer ∈ mj_all) : GoodIn mj_all (wsV own idx RM yM_answer (Cond.code yM_answer cM_answer 3 none :: mj_all)) := mj_gV hl (mj_mem 616 (by decide +kernel) rfl) (mj_mems 40 (by decide +kernel) rfl) (mj_mem 7 (by decide +kernel) rfl) h_M_answer
theorem z_M_answer : yM_answer.cls = RM ∧ yM_answer.cls ≠ "java/lang/invoke/MethodHandle" ∧ yM_answer.cls ≠ "java/lang/invoke/VarHandle" ∧ (parseMethodDescriptor yM_answer.desc).map (fun d => d.parameters.length) = some 1 := by decide +kernel
theorem h_M_revoke : Cond.code yM_revoke cM_revoke 4 none ∈ mj_all := mj_mem 621 (by decide +kernel) rfl
theorem g_M_revoke {own : String} {idx : Nat} (hl : Cond.methodLink own idx yM_revoke ∈ mj_all) : GoodIn mj_all (wsV own idx RM yM_revoke (Cond.code yM_revoke cM_revoke 4 none :: mj_all)) := mj_gV hl (mj_mem 620 (by decide +kernel) rfl) (mj_mems 41 (by decide +kernel) rfl) (mj_mem 7 (by decide +kernel) rfl) h_M_revoke
theorem z_M_revoke : yM_revoke.cls = RM ∧ yM_revoke.cls ≠ "java/lang/invoke/MethodHandle" ∧ yM_revoke.cls ≠ "java/lang/invoke/VarHandle" ∧ (parseMethodDescriptor yM_revoke.desc).map (fun d => d.parameters.length) = some 1 := by decide +kernel
theorem h_M_countBelow : Cond.code yM_countBelow cM_countBelow 4 (some .int) ∈ mj_all := mj_mem 625 (by decide +kernel) rfl
theorem g_M_countBelow {own : String} {idx : Nat} (hl : Cond.methodLink own idx yM_countBelow ∈ mj_all) : GoodIn mj_all (wsV own idx RM yM_countBelow (Cond.code yM_countBelow cM_countBelow 4 (some .int) :: mj_all)) := mj_gV hl (mj_mem 624 (by decide +kernel) rfl) (mj_mems 42 (by decide +kernel) rfl) (mj_mem 7 (by decide +kernel) rfl) h_M_countBelow
theorem z_M_countBelow : yM_countBelow.cls = RM ∧ yM_countBelow.cls ≠ "java/lang/invoke/MethodHandle" ∧ yM_countBelow.cls ≠ "java/lang/invoke/VarHandle" ∧ (parseMethodDescriptor yM_countBelow.desc).map (fun d => d.parameters.length) = some 1 := by decide +kernel
theorem h_M_descends : Cond.code yM_descends cM_descends 4 (some .boolean) ∈ mj_all := mj_mem 629 (by decide +kernel) rfl
theorem g_M_descends {own : String} {idx : Nat} (hl : Cond.methodLink own idx yM_descends ∈ mj_all) : GoodIn mj_all (wsV own idx RM yM_descends (Cond.code yM_descends cM_descends 4 (some .boolean) :: mj_all)) := mj_gV hl (mj_mem 628 (by decide +kernel) rfl) (mj_mems 43 (by decide +kernel) rfl) (mj_mem 7 (by decide +kernel) rfl) h_M_descends
theorem z_M_descends : yM_descends.cls = RM ∧ yM_descends.cls ≠ "java/lang/invoke/MethodHandle" ∧ yM_descends.cls ≠ "java/lang/invoke/VarHandle" ∧ (parseMethodDescriptor yM_descends.desc).map (fun d => d.parameters.length) = some 2 := by decide +kernel
theorem h_M_state : Cond.code yM_state cM_state 2 (some .int) ∈ mj_all := mj_mem 633 (by decide +kernel) rfl
theorem g_M_state {own : String} {idx : Nat} (hl : Cond.methodLink own idx yM_state ∈ mj_all) : GoodIn mj_all (wsV own idx RM yM_state (Cond.code yM_state cM_state 2 (some .int) :: mj_all)) := mj_gV hl (mj_mem 631 (by decide +kernel) rfl) (mj_mem 632 (by decide +kernel) rfl) (mj_mem 7 (by decide +kernel) rfl) h_M_state
theorem z_M_state : yM_state.cls = RM ∧ yM_state.cls ≠ "java/lang/invoke/MethodHandle" ∧ yM_state.cls ≠ "java/lang/invoke/VarHandle" ∧ (parseMethodDescriptor yM_state.desc).map (fun d => d.parameters.length) = some 1 := by decide +kernel
theorem h_M_fault : Cond.code yM_fault cM_fault 2 (some .int) ∈ mj_all := mj_mem 637 (by decide +kernel) rfl
theorem g_M_fault {own : String} {idx : Nat} (hl : Cond.methodLink own idx yM_fault ∈ mj_all) : GoodIn mj_all (wsV own idx RM yM_fault (Cond.code yM_fault cM_fault 2 (some .int) :: mj_all)) := mj_gV hl (mj_mem 635 (by decide +kernel) rfl) (mj_mem 636 (by decide +kernel) rfl) (mj_mem 7 (by decide +kernel) rfl) h_M_fault
theorem z_M_fault : yM_fault.cls = RM ∧ yM_fault.cls ≠ "java/lang/invoke/MethodHandle" ∧ yM_fault.cls ≠ "java/lang/invoke/VarHandle" ∧ (parseMethodDescriptor yM_fault.desc).map (fun d => d.parameters.length) = some 1 := by decide +kernel
theorem h_M_register : Cond.code yM_register cM_register 3 (some .int) ∈ mj_all := mj_mem 641 (by decide +kernel) rfl
theorem g_M_register {own : String} {idx : Nat} (hl : Cond.methodLink own idx yM_register ∈ mj_all) : GoodIn mj_all (wsV own idx RM yM_register (Cond.code yM_register cM_register 3 (some .int) :: mj_all)) := mj_gV hl (mj_mem 639 (by decide +kernel) rfl) (mj_mem 640 (by decide +kernel) rfl) (mj_mem 7 (by decide +kernel) rfl) h_M_register
theorem z_M_register : yM_register.cls = RM ∧ yM_register.cls ≠ "java/lang/invoke/MethodHandle" ∧ yM_register.cls ≠ "java/lang/invoke/VarHandle" ∧ (parseMethodDescriptor yM_register.desc).map (fun d => d.parameters.length) = some 2 := by decide +kernel
theorem h_M_counter : Cond.code yM_counter cM_counter 2 (some .int) ∈ mj_all := mj_mem 645 (by decide +kernel) rfl
theorem g_M_counter {own : String} {idx : Nat} (hl : Cond.methodLink own idx yM_counter ∈ mj_all) : GoodIn mj_all (wsV own idx RM yM_counter (Cond.code yM_counter cM_counter 2 (some .int) :: mj_all)) := mj_gV hl (mj_mem 643 (by decide +kernel) rfl) (mj_mem 644 (by decide +kernel) rfl) (mj_mem 7 (by decide +kernel) rfl) h_M_counter
theorem z_M_counter : yM_counter.cls = RM ∧ yM_counter.cls ≠ "java/lang/invoke/MethodHandle" ∧ yM_counter.cls ≠ "java/lang/invoke/VarHandle" ∧ (parseMethodDescriptor yM_counter.desc).map (fun d => d.parameters.length) = some 1 := by decide +kernel
theorem h_M_caller : Cond.code yM_caller cM_caller 2 (some .int) ∈ mj_all := mj_mem 649 (by decide +kernel) rfl
theorem g_M_caller {own : String} {idx : Nat} (hl : Cond.methodLink own idx yM_caller ∈ mj_all) : GoodIn mj_all (wsV own idx RM yM_caller (Cond.code yM_caller cM_caller 2 (some .int) :: mj_all)) := mj_gV hl (mj_mem 647 (by decide +kernel) rfl) (mj_mem 648 (by decide +kernel) rfl) (mj_mem 7 (by decide +kernel) rfl) h_M_caller
theorem z_M_caller : yM_caller.cls = RM ∧ yM_caller.cls ≠ "java/lang/invoke/MethodHandle" ∧ yM_caller.cls ≠ "java/lang/invoke/VarHandle" ∧ (parseMethodDescriptor yM_caller.desc).map (fun d => d.parameters.length) = some 1 := by decide +kernel
theorem h_M_capability : Cond.code yM_capability cM_capability 5 (some .int) ∈ mj_all := mj_mem 653 (by decide +kernel) rfl
theorem g_M_capability {own : String} {idx : Nat} (hl : Cond.methodLink own idx yM_capability ∈ mj_all) : GoodIn mj_all (wsV own idx RM yM_capability (Cond.code yM_capability cM_capability 5 (some .int) :: mj_all)) := mj_gV hl (mj_mem 651 (by decide +kernel) rfl) (mj_mem 652 (by decide +kernel) rfl) (mj_mem 7 (by decide +kernel) rfl) h_M_capability
theorem z_M_capability : yM_capability.cls = RM ∧ yM_capability.cls ≠ "java/lang/invoke/MethodHandle" ∧ yM_capability.cls ≠ "java/lang/invoke/VarHandle" ∧ (parseMethodDescriptor yM_capability.desc).map (fun d => d.parameters.length) = some 3 := by decide +kernel
theorem h_M_isCapability : Cond.code yM_isCapability cM_isCapability 3 (some .boolean) ∈ mj_all := mj_mem 657 (by decide +kernel) rfl
theorem g_M_isCapability {own : String} {idx : Nat} (hl : Cond.methodLink own idx yM_isCapability ∈ mj_all) : GoodIn mj_all (wsV own idx RM yM_isCapability (Cond.code yM_isCapability cM_isCapability 3 (some .boolean) :: mj_all)) := mj_gV hl (mj_mem 656 (by decide +kernel) rfl) (mj_mems 44 (by decide +kernel) rfl) (mj_mem 7 (by decide +kernel) rfl) h_M_isCapability
theorem z_M_isCapability : yM_isCapability.cls = RM ∧ yM_isCapability.cls ≠ "java/lang/invoke/MethodHandle" ∧ yM_isCapability.cls ≠ "java/lang/invoke/VarHandle" ∧ (parseMethodDescriptor yM_isCapability.desc).map (fun d => d.parameters.length) = some 2 := by decide +kernel
theorem h_M_descendants : Cond.code yM_descendants cM_descendants 3 (some .int) ∈ mj_all := mj_mem 661 (by decide +kernel) rfl
theorem g_M_descendants {own : String} {idx : Nat} (hl : Cond.methodLink own idx yM_descendants ∈ mj_all) : GoodIn mj_all (wsV own idx RM yM_descendants (Cond.code yM_descendants cM_descendants 3 (some .int) :: mj_all)) := mj_gV hl (mj_mem 659 (by decide +kernel) rfl) (mj_mem 660 (by decide +kernel) rfl) (mj_mem 7 (by decide +kernel) rfl) h_M_descendants
theorem z_M_descendants : yM_descendants.cls = RM ∧ yM_descendants.cls ≠ "java/lang/invoke/MethodHandle" ∧ yM_descendants.cls ≠ "java/lang/invoke/VarHandle" ∧ (parseMethodDescriptor yM_descendants.desc).map (fun d => d.parameters.length) = some 2 := by decide +kernel
theorem h_M_inRow : Cond.code yM_inRow cM_inRow 3 (some .int) ∈ mj_all := mj_mem 665 (by decide +kernel) rfl
theorem g_M_inRow {own : String} {idx : Nat} (hl : Cond.methodLink own idx yM_inRow ∈ mj_all) : GoodIn mj_all (wsV own idx RM yM_inRow (Cond.code yM_inRow cM_inRow 3 (some .int) :: mj_all)) := mj_gV hl (mj_mem 663 (by decide +kernel) rfl) (mj_mem 664 (by decide +kernel) rfl) (mj_mem 7 (by decide +kernel) rfl) h_M_inRow
theorem z_M_inRow : yM_inRow.cls = RM ∧ yM_inRow.cls ≠ "java/lang/invoke/MethodHandle" ∧ yM_inRow.cls ≠ "java/lang/invoke/VarHandle" ∧ (parseMethodDescriptor yM_inRow.desc).map (fun d => d.parameters.length) = some 2 := by decide +kernel
theorem h_M_printed : Cond.code yM_printed cM_printed 1 (some .int) ∈ mj_all := mj_mem 669 (by decide +kernel) rfl
theorem g_M_printed {own : String} {idx : Nat} (hl : Cond.methodLink own idx yM_printed ∈ mj_all) : GoodIn mj_all (wsV own idx RM yM_printed (Cond.code yM_printed cM_printed 1 (some .int) :: mj_all)) := mj_gV hl (mj_mem 667 (by decide +kernel) rfl) (mj_mem 668 (by decide +kernel) rfl) (mj_mem 7 (by decide +kernel) rfl) h_M_printed
theorem z_M_printed : yM_printed.cls = RM ∧ yM_printed.cls ≠ "java/lang/invoke/MethodHandle" ∧ yM_printed.cls ≠ "java/lang/invoke/VarHandle" ∧ (parseMethodDescriptor yM_printed.desc).map (fun d => d.parameters.length) = some 0 := by decide +kernel
theorem h_M_print : Cond.code yM_print cM_print 2 (some .int) ∈ mj_all := mj_mem 673 (by decide +kernel) rfl
theorem g_M_print {own : String} {idx : Nat} (hl : Cond.methodLink own idx yM_print ∈ mj_all) : GoodIn mj_all (wsV own idx RM yM_print (Cond.code yM_print cM_print 2 (some .int) :: mj_all)) := mj_gV hl (mj_mem 671 (by decide +kernel) rfl) (mj_mem 672 (by decide +kernel) rfl) (mj_mem 7 (by decide +kernel) rfl) h_M_print
theorem z_M_print : yM_print.cls = RM ∧ yM_print.cls ≠ "java/lang/invoke/MethodHandle" ∧ yM_print.cls ≠ "java/lang/invoke/VarHandle" ∧ (parseMethodDescriptor yM_print.desc).map (fun d => d.parameters.length) = some 1 := by decide +kernel

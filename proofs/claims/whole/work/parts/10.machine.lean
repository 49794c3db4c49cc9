/-! THE SMALL MACHINE: a walk's context in two tuples (v: what stays over all calls; r: what is one method's own); all cells that live are numbered, a reference is the number of its cell; what changes is a table of ints, cell by slot, one of the class (first) and one of the reference (second). -/
abbrev mj_St : Type := Nat → Nat → Int32
abbrev mj_X : Type := mj_St × mj_St
def mj_up (k : mj_St) (i j : Nat) (v : Int32) : mj_St := fun a => if a = i then upd (k i) j v else k a
def mj_tr (ad : Nat → Nat) : Value → Value
  | .ref i => .ref (ad i)
  | v => v
theorem mj_tr_cat (ad : Nat → Nat) (v : Value) : (mj_tr ad v).category = v.category := by cases v <;> rfl
def mj_rf : Option Nat → Value
  | none => .null
  | some i => .ref i
/-- a boolean as an int -/
def mj_bz (x : Int32) : Prop := x = 0 ∨ x = 1
theorem mj_bz_nar {x : Int32} (h : mj_bz x) : narrow .boolean (.int x) = .int x := by rcases h with rfl | rfl <;> decide +kernel
theorem mj_bz_vp {x : Int32} (h : mj_bz x) : vp_nar .boolean x = x := by rcases h with rfl | rfl <;> decide +kernel
/-- launch, class numbers, classes, array classes, words of nest mates, addresses, worlds, the worlds' addresses -/
abbrev mj_V : Type := Launch × va_G × List vw_C × List (ClassId × FieldType) × List Cond × (Nat → Nat) × (mj_X → va_W) × (Nat → Prop)
abbrev mj_R : Type := Program × Env × Room × State × MethodId × Array Value × List Frame × Method × Code × (Nat → Prop) × Nat × Nat × (State → Prop)
def mj_N (NW : List Cond) (U : State) : Prop := ∀ w ∈ NW, va_Nw w U
def mj_isN (w : Cond) : Prop := (∃ a i x h, w = .methodLinkNest a i x h) ∨ (∃ a i b n d h, w = .fieldLinkNest a i b n d h)
theorem mj_N.warm {NW : List Cond} {s U : State} (hn : ∀ w ∈ NW, mj_isN w) (hW : s.WarmedH U.vm) (h : mj_N NW s) : mj_N NW U := by
  intro w hw
  rcases hn w hw with ⟨a, i, x, q, rfl⟩ | ⟨a, i, b, n, d, q, rfl⟩
  · exact va_Nw.warmM hW (h _ hw)
  · exact va_Nw.warmF hW (h _ hw)
theorem mj_N.same {NW : List Cond} {s U : State} (hn : ∀ w ∈ NW, mj_isN w) (hv : s.vm = U.vm) (h : mj_N NW s) : mj_N NW U := by
  intro w hw
  rcases hn w hw with ⟨a, i, x, q, rfl⟩ | ⟨a, i, b, n, d, q, rfl⟩
  · exact va_Nw.same rfl hv (h _ hw)
  · exact va_Nw.same rfl hv (h _ hw)
def mj_Pc (D : va_G) (cl : List vw_C) (tys : List (ClassId × FieldType)) (NW : List Cond) (wl : mj_X → va_W) (x : mj_X) (U : State) : Prop := va_P D cl (wl x) U.heap ∧ va_K D cl tys U ∧ mj_N NW U
def mj_Qc (D : va_G) (cl : List vw_C) (ad : Nat → Nat) (wl : mj_X → va_W) (Aw : Nat → Prop) (Qf : Option Value → mj_X → Prop) : Array Value → State → Outcome → State → Prop := fun _ st oc t => (∃ (v : Option Value) (x : mj_X), oc = .returned (v.map (mj_tr ad)) ∧ Qf v x ∧ va_P D cl (wl x) t.heap) ∧ va_F Aw st t
/-- a method's contract: from these arguments and this state it returns, with Qf of answer and state -/
def mj_Ct (v : mj_V) (y : MethodName) (ws : List Cond) (rm : Room) (av : List Value) (x : mj_X) (Qf : Option Value → mj_X → Prop) : Prop := match v with
  | (l, D, cl, tys, NW, ad, wl, Aw) => Met l y ws rm (va_Pc (av.map (mj_tr ad)) (mj_Pc D cl tys NW wl x)) (mj_Qc D cl ad wl Aw Qf) 0 0 Aw
def mj_Ok (v : mj_V) : Prop := match v with
  | (_, _, _, _, NW, _, wl, Aw) => (∀ x, va_D Aw (wl x)) ∧ ∀ w ∈ NW, mj_isN w
def mj_has (ls : Array Slot) (nL : Nat) (ad : Nat → Nat) (L : List (Nat × Value)) : Prop := ls.size = nL ∧ lv_wf ls ∧ ∀ (j : Nat) (w : Value), L.lookup j = some w → ls[j]? = some (.val (mj_tr ad w))
/-- the machine comes from here (pc, locals, stack, state) to where it must -/
def mj_G (v : mj_V) (r : mj_R) (pc : Nat) (L : List (Nat × Value)) (S : List Value) (x : mj_X) : Prop := match v, r with
  | (l, D, cl, _, _, ad, wl, _), (p, e, R, s, m, args, below, meth, c, A, cells, slots, Qw) => ∀ (H : Heap) (locs : List Loc) (ls : Array Slot), va_P D cl (wl x) H → va_S A s.heap H locs → mj_has ls c.maxLocals ad L → W p l e R s m args below meth c H locs cells slots Qw (F0 m pc ls (S.map (mj_tr ad)))
def mj_Cx (v : mj_V) (r : mj_R) (cc : ByteArray) (nL : Nat) (own : String) (Ts : List Cond) (rm : Room) : Prop := match v, r with
  | (_, D, cl, tys, NW, _, wl, Aw), (p, _, R, s, m, args, _, _, c, A, cells, slots, _) => p.tables.exec = Jvm.exec ∧ c.code = cc ∧ c.maxLocals = nL ∧ s.vm.findClass own = some m.cls ∧ (∀ w ∈ Ts, w.before args s = true) ∧ va_K D cl tys s ∧ mj_N NW s ∧ (∀ x, va_D A (wl x)) ∧ R = rm ∧ (∀ q, Aw q → A q) ∧ (cells ≤ R.cells ∧ slots ≤ R.slots) ∧ ∀ w ∈ NW, mj_isN w
def mj_Cr (v : mj_V) (r : mj_R) (ret : Option FieldType) (Qf : Option Value → mj_X → Prop) : Prop := match v, r with
  | (_, D, cl, _, _, ad, wl, Aw), (_, _, _, s, _, args, below, meth, _, A, cells, slots, Qw) => meth.sig.returnType = ret ∧ meth.locks = false ∧ Qw = MQ below (mj_Qc D cl ad wl Aw Qf) args s cells slots Aw ∧ ∀ q, A q → Aw q
theorem mj_lk_mem {L : List (Nat × Value)} {j : Nat} {w : Value} (h : L.lookup j = some w) : (j, w) ∈ L := by
  induction L with
  | nil => simp at h
  | cons q l ih =>
    obtain ⟨a, b⟩ := q
    rw [List.lookup_cons] at h
    by_cases e : j = a
    · subst e
      simp at h
      subst h
      exact List.mem_cons_self
    · have e2 : (j == a) = false := by simp [e]
      rw [e2] at h
      exact List.mem_cons_of_mem _ (ih h)
theorem mj_has.at {ls : Array Slot} {nL : Nat} {ad : Nat → Nat} {L : List (Nat × Value)} (h : mj_has ls nL ad L) {i : Nat} {w : Value} (hl : L.lookup i = some w) : ls[i]? = some (.val (mj_tr ad w)) := h.2.2 i w hl
/-- the listed values, for the kit's rows that store -/
def mj_lv (nL : Nat) (ad : Nat → Nat) (L : List (Nat × Value)) : List (Nat × Value) := (List.range nL).filterMap (fun j => (L.lookup j).map (fun w => (j, mj_tr ad w)))
theorem mj_lv_mem {nL : Nat} {ad : Nat → Nat} {L : List (Nat × Value)} {j : Nat} {w : Value} (hj : j < nL) (h : L.lookup j = some w) : (j, mj_tr ad w) ∈ mj_lv nL ad L :=
  List.mem_filterMap.mpr ⟨j, List.mem_range.mpr hj, by rw [h]; rfl⟩
theorem mj_has.lv {ls : Array Slot} {nL : Nat} {ad : Nat → Nat} {L : List (Nat × Value)} (h : mj_has ls nL ad L) : lv_has ls nL (mj_lv nL ad L) := by
  refine ⟨h.1, h.2.1, fun q hq => ?_⟩
  obtain ⟨j, -, hj⟩ := List.mem_filterMap.mp hq
  cases hw : L.lookup j with
  | none => rw [hw] at hj; cases hj
  | some w =>
    rw [hw] at hj
    cases hj
    exact h.2.2 j w hw
/-- no long stands just before place i -/
def mj_nl (L : List (Nat × Value)) : Nat → Bool
  | 0 => true
  | j + 1 => match L.lookup j with
    | some w => w.category == 1
    | none => true
theorem mj_nl_of {L : List (Nat × Value)} {i j : Nat} {w : Value} (h : mj_nl L i = true) (hi : j + 1 = i) (hw : L.lookup j = some w) : w.category = 1 := by
  subst hi
  simp [mj_nl, hw] at h
  exact h
theorem mj_has.sto1 {ls ls' : Array Slot} {nL : Nat} {ad : Nat → Nat} {L : List (Nat × Value)} {i : Nat} {w : Value} (h : mj_has ls nL ad L) (hn : mj_nl L i = true)
    (h' : lv_has ls' nL ((i, mj_tr ad w) :: (mj_lv nL ad L).filter (fun q => !(q.1 == i) && !(q.1 + 1 == i && q.2.category == 2)))) : mj_has ls' nL ad ((i, w) :: L) := by
  refine ⟨h'.1, h'.2.1, fun j u hu => ?_⟩
  rw [List.lookup_cons] at hu
  by_cases e : j = i
  · subst e
    simp at hu
    subst hu
    exact h'.2.2 _ List.mem_cons_self
  · have e2 : (j == i) = false := by simp [e]
    rw [e2] at hu
    have hj : j < nL := by
      have := h.2.2 j u hu
      rw [← h.1]
      exact (Array.getElem?_eq_some_iff.mp this).1
    refine h'.2.2 (j, mj_tr ad u) (List.mem_cons_of_mem _ (List.mem_filter.mpr ⟨mj_lv_mem hj hu, ?_⟩))
    by_cases e3 : j + 1 = i
    · have := mj_nl_of hn e3 hu
      simp [e, mj_tr_cat, this]
    · simp [e, e3]
theorem mj_has.sto2 {ls ls' : Array Slot} {nL : Nat} {ad : Nat → Nat} {L : List (Nat × Value)} {i : Nat} {w : Value} (h : mj_has ls nL ad L) (hn : mj_nl L i = true) (hm : L.lookup (i + 1) = none)
    (h' : lv_has ls' nL ((i, mj_tr ad w) :: (mj_lv nL ad L).filter (fun q => !(q.1 == i) && (!(q.1 == i + 1) && !(q.1 + 1 == i && q.2.category == 2))))) : mj_has ls' nL ad ((i, w) :: L) := by
  refine ⟨h'.1, h'.2.1, fun j u hu => ?_⟩
  rw [List.lookup_cons] at hu
  by_cases e : j = i
  · subst e
    simp at hu
    subst hu
    exact h'.2.2 _ List.mem_cons_self
  · have e2 : (j == i) = false := by simp [e]
    rw [e2] at hu
    have e4 : ¬ j = i + 1 := fun q => by rw [q, hm] at hu; cases hu
    have hj : j < nL := by
      have := h.2.2 j u hu
      rw [← h.1]
      exact (Array.getElem?_eq_some_iff.mp this).1
    refine h'.2.2 (j, mj_tr ad u) (List.mem_cons_of_mem _ (List.mem_filter.mpr ⟨mj_lv_mem hj hu, ?_⟩))
    by_cases e3 : j + 1 = i
    · have := mj_nl_of hn e3 hu
      simp [e, e4, mj_tr_cat, this]
    · simp [e, e3, e4]
/-- listed locals that are found in another list -/
def mj_sb (L : List (Nat × Value)) : List (Nat × Value) → Prop
  | [] => True
  | q :: r => L.lookup q.1 = some q.2 ∧ mj_sb L r
theorem mj_sb_at {L : List (Nat × Value)} : ∀ {l : List (Nat × Value)}, mj_sb L l → ∀ {j : Nat} {w : Value}, l.lookup j = some w → L.lookup j = some w
  | [], _, j, w, h => by simp at h
  | (a, b) :: l, hs, j, w, h => by
    rw [List.lookup_cons] at h
    by_cases e : j = a
    · subst e
      simp at h
      subst h
      exact hs.1
    · have e2 : (j == a) = false := by simp [e]
      rw [e2] at h
      exact mj_sb_at hs.2 h

section MJ
variable {v : mj_V} {r : mj_R} {cc : ByteArray} {nL : Nat} {own : String} {Ts : List Cond} {rm : Room} {pc : Nat} {L : List (Nat × Value)} {S : List Value} {x : mj_X}
theorem mj_sub {l : List (Nat × Value)} (hs : mj_sb L l) (h : mj_G v r pc l S x) : mj_G v r pc L S x := by
  obtain ⟨l0, D, cl, tys, NW, ad, wl, Aw⟩ := v
  obtain ⟨p, e, R, s, m, args, below, meth, c, A, cells, slots, Qw⟩ := r
  intro H locs ls hP hS hl
  exact h H locs ls hP hS ⟨hl.1, hl.2.1, fun j w hj => hl.2.2 j w (mj_sb_at hs hj)⟩
theorem mj_iconst (C : mj_Cx v r cc nL own Ts rm) {n : Int} {a : Int32} (hd : decode cc pc = .ok (.iconst n, 1)) (hv : Int32.ofInt n = a) (h : mj_G v r (pc + 1) L (.int a :: S) x) : mj_G v r pc L (S) x := by
  obtain ⟨l0, D, cl, tys, NW, ad, wl, Aw⟩ := v
  obtain ⟨p, e, R, s, m, args, below, meth, c, A, cells, slots, Qw⟩ := r
  intro H locs ls hP hS hl'
  exact lv_iconst C.1 C.2.1 hd hv (h H locs ls hP hS hl')
theorem mj_bipush (C : mj_Cx v r cc nL own Ts rm) {n : Int} {a : Int32} (hd : decode cc pc = .ok (.bipush n, 2)) (hv : (Int8.ofInt n).toInt32 = a) (h : mj_G v r (pc + 2) L (.int a :: S) x) : mj_G v r pc L (S) x := by
  obtain ⟨l0, D, cl, tys, NW, ad, wl, Aw⟩ := v
  obtain ⟨p, e, R, s, m, args, below, meth, c, A, cells, slots, Qw⟩ := r
  intro H locs ls hP hS hl'
  exact lv_bipush C.1 C.2.1 hd hv (h H locs ls hP hS hl')
theorem mj_sipush (C : mj_Cx v r cc nL own Ts rm) {n : Int} {a : Int32} (hd : decode cc pc = .ok (.sipush n, 3)) (hv : (Int16.ofInt n).toInt32 = a) (h : mj_G v r (pc + 3) L (.int a :: S) x) : mj_G v r pc L (S) x := by
  obtain ⟨l0, D, cl, tys, NW, ad, wl, Aw⟩ := v
  obtain ⟨p, e, R, s, m, args, below, meth, c, A, cells, slots, Qw⟩ := r
  intro H locs ls hP hS hl'
  exact lv_sipush C.1 C.2.1 hd hv (h H locs ls hP hS hl')
theorem mj_lconst (C : mj_Cx v r cc nL own Ts rm) {n : Fin 2} {a : Int64} (hd : decode cc pc = .ok (.lconst n, 1)) (hv : Int64.ofNat (n : Nat) = a) (h : mj_G v r (pc + 1) L (.long a :: S) x) : mj_G v r pc L (S) x := by
  obtain ⟨l0, D, cl, tys, NW, ad, wl, Aw⟩ := v
  obtain ⟨p, e, R, s, m, args, below, meth, c, A, cells, slots, Qw⟩ := r
  intro H locs ls hP hS hl'
  exact lv_lconst C.1 C.2.1 hd hv (h H locs ls hP hS hl')
theorem mj_null (C : mj_Cx v r cc nL own Ts rm) (hd : decode cc pc = .ok (.aconst_null, 1)) (h : mj_G v r (pc + 1) L (.null :: S) x) : mj_G v r pc L (S) x := by
  obtain ⟨l0, D, cl, tys, NW, ad, wl, Aw⟩ := v
  obtain ⟨p, e, R, s, m, args, below, meth, c, A, cells, slots, Qw⟩ := r
  intro H locs ls hP hS hl'
  exact lv_null C.1 C.2.1 hd (h H locs ls hP hS hl')
theorem mj_iload_n (C : mj_Cx v r cc nL own Ts rm) {k : Fin 4} {a : Int32} (hd : decode cc pc = .ok (.iload_n k, 1)) (hl : L.lookup (k : Nat) = some (.int a)) (h : mj_G v r (pc + 1) L (.int a :: S) x) : mj_G v r pc L (S) x := by
  obtain ⟨l0, D, cl, tys, NW, ad, wl, Aw⟩ := v
  obtain ⟨p, e, R, s, m, args, below, meth, c, A, cells, slots, Qw⟩ := r
  intro H locs ls hP hS hl'
  exact lv_iload_n C.1 C.2.1 hd rfl (hl'.at hl) (h H locs ls hP hS hl')
theorem mj_iload (C : mj_Cx v r cc nL own Ts rm) {k : Nat} {a : Int32} (hd : decode cc pc = .ok (.iload k, 2)) (hl : L.lookup k = some (.int a)) (h : mj_G v r (pc + 2) L (.int a :: S) x) : mj_G v r pc L (S) x := by
  obtain ⟨l0, D, cl, tys, NW, ad, wl, Aw⟩ := v
  obtain ⟨p, e, R, s, m, args, below, meth, c, A, cells, slots, Qw⟩ := r
  intro H locs ls hP hS hl'
  exact lv_iload C.1 C.2.1 hd (hl'.at hl) (h H locs ls hP hS hl')
theorem mj_lload_n (C : mj_Cx v r cc nL own Ts rm) {k : Fin 4} {a : Int64} (hd : decode cc pc = .ok (.lload_n k, 1)) (hl : L.lookup (k : Nat) = some (.long a)) (h : mj_G v r (pc + 1) L (.long a :: S) x) : mj_G v r pc L (S) x := by
  obtain ⟨l0, D, cl, tys, NW, ad, wl, Aw⟩ := v
  obtain ⟨p, e, R, s, m, args, below, meth, c, A, cells, slots, Qw⟩ := r
  intro H locs ls hP hS hl'
  exact lv_lload_n C.1 C.2.1 hd rfl (hl'.at hl) (h H locs ls hP hS hl')
theorem mj_lload (C : mj_Cx v r cc nL own Ts rm) {k : Nat} {a : Int64} (hd : decode cc pc = .ok (.lload k, 2)) (hl : L.lookup k = some (.long a)) (h : mj_G v r (pc + 2) L (.long a :: S) x) : mj_G v r pc L (S) x := by
  obtain ⟨l0, D, cl, tys, NW, ad, wl, Aw⟩ := v
  obtain ⟨p, e, R, s, m, args, below, meth, c, A, cells, slots, Qw⟩ := r
  intro H locs ls hP hS hl'
  exact lv_lload C.1 C.2.1 hd (hl'.at hl) (h H locs ls hP hS hl')
theorem mj_aload_n (C : mj_Cx v r cc nL own Ts rm) {k : Fin 4} {a : Nat} (hd : decode cc pc = .ok (.aload_n k, 1)) (hl : L.lookup (k : Nat) = some (.ref a)) (h : mj_G v r (pc + 1) L (.ref a :: S) x) : mj_G v r pc L (S) x := by
  obtain ⟨l0, D, cl, tys, NW, ad, wl, Aw⟩ := v
  obtain ⟨p, e, R, s, m, args, below, meth, c, A, cells, slots, Qw⟩ := r
  intro H locs ls hP hS hl'
  exact lv_aload_n C.1 C.2.1 hd rfl (hl'.at hl) (h H locs ls hP hS hl')
theorem mj_aload (C : mj_Cx v r cc nL own Ts rm) {k : Nat} {a : Nat} (hd : decode cc pc = .ok (.aload k, 2)) (hl : L.lookup k = some (.ref a)) (h : mj_G v r (pc + 2) L (.ref a :: S) x) : mj_G v r pc L (S) x := by
  obtain ⟨l0, D, cl, tys, NW, ad, wl, Aw⟩ := v
  obtain ⟨p, e, R, s, m, args, below, meth, c, A, cells, slots, Qw⟩ := r
  intro H locs ls hP hS hl'
  exact lv_aload C.1 C.2.1 hd (hl'.at hl) (h H locs ls hP hS hl')
theorem mj_aload_nN (C : mj_Cx v r cc nL own Ts rm) {k : Fin 4} (hd : decode cc pc = .ok (.aload_n k, 1)) (hl : L.lookup (k : Nat) = some .null) (h : mj_G v r (pc + 1) L (.null :: S) x) : mj_G v r pc L (S) x := by
  obtain ⟨l0, D, cl, tys, NW, ad, wl, Aw⟩ := v
  obtain ⟨p, e, R, s, m, args, below, meth, c, A, cells, slots, Qw⟩ := r
  intro H locs ls hP hS hl'
  exact lv_aload_nN C.1 C.2.1 hd rfl (hl'.at hl) (h H locs ls hP hS hl')
theorem mj_aloadN (C : mj_Cx v r cc nL own Ts rm) {k : Nat} (hd : decode cc pc = .ok (.aload k, 2)) (hl : L.lookup k = some .null) (h : mj_G v r (pc + 2) L (.null :: S) x) : mj_G v r pc L (S) x := by
  obtain ⟨l0, D, cl, tys, NW, ad, wl, Aw⟩ := v
  obtain ⟨p, e, R, s, m, args, below, meth, c, A, cells, slots, Qw⟩ := r
  intro H locs ls hP hS hl'
  exact lv_aloadN C.1 C.2.1 hd (hl'.at hl) (h H locs ls hP hS hl')
theorem mj_istore_n (C : mj_Cx v r cc nL own Ts rm) {k : Fin 4} {a : Int32} (hd : decode cc pc = .ok (.istore_n k, 1)) (hk : (k : Nat) < nL) (hn : mj_nl L (k : Nat) = true) (h : mj_G v r (pc + 1) (((k : Nat), .int a) :: L) (S) x) : mj_G v r pc L (.int a :: S) x := by
  obtain ⟨l0, D, cl, tys, NW, ad, wl, Aw⟩ := v
  obtain ⟨p, e, R, s, m, args, below, meth, c, A, cells, slots, Qw⟩ := r
  intro H locs ls hP hS hl'
  exact lv_istore_n C.1 C.2.1 hd rfl hl'.lv (by rw [C.2.2.1]; exact hk) rfl (fun ls2 h2 => h H locs ls2 hP hS (mj_has.sto1 (w := .int a) hl' hn h2))
theorem mj_istore (C : mj_Cx v r cc nL own Ts rm) {k : Nat} {a : Int32} (hd : decode cc pc = .ok (.istore k, 2)) (hk : k < nL) (hn : mj_nl L k = true) (h : mj_G v r (pc + 2) ((k, .int a) :: L) (S) x) : mj_G v r pc L (.int a :: S) x := by
  obtain ⟨l0, D, cl, tys, NW, ad, wl, Aw⟩ := v
  obtain ⟨p, e, R, s, m, args, below, meth, c, A, cells, slots, Qw⟩ := r
  intro H locs ls hP hS hl'
  exact lv_istore C.1 C.2.1 hd hl'.lv (by rw [C.2.2.1]; exact hk) rfl (fun ls2 h2 => h H locs ls2 hP hS (mj_has.sto1 (w := .int a) hl' hn h2))
theorem mj_astore_n (C : mj_Cx v r cc nL own Ts rm) {k : Fin 4} {a : Nat} (hd : decode cc pc = .ok (.astore_n k, 1)) (hk : (k : Nat) < nL) (hn : mj_nl L (k : Nat) = true) (h : mj_G v r (pc + 1) (((k : Nat), .ref a) :: L) (S) x) : mj_G v r pc L (.ref a :: S) x := by
  obtain ⟨l0, D, cl, tys, NW, ad, wl, Aw⟩ := v
  obtain ⟨p, e, R, s, m, args, below, meth, c, A, cells, slots, Qw⟩ := r
  intro H locs ls hP hS hl'
  exact lv_astore_n C.1 C.2.1 hd rfl hl'.lv (by rw [C.2.2.1]; exact hk) rfl (fun ls2 h2 => h H locs ls2 hP hS (mj_has.sto1 (w := .ref a) hl' hn h2))
theorem mj_astore (C : mj_Cx v r cc nL own Ts rm) {k : Nat} {a : Nat} (hd : decode cc pc = .ok (.astore k, 2)) (hk : k < nL) (hn : mj_nl L k = true) (h : mj_G v r (pc + 2) ((k, .ref a) :: L) (S) x) : mj_G v r pc L (.ref a :: S) x := by
  obtain ⟨l0, D, cl, tys, NW, ad, wl, Aw⟩ := v
  obtain ⟨p, e, R, s, m, args, below, meth, c, A, cells, slots, Qw⟩ := r
  intro H locs ls hP hS hl'
  exact lv_astore C.1 C.2.1 hd hl'.lv (by rw [C.2.2.1]; exact hk) rfl (fun ls2 h2 => h H locs ls2 hP hS (mj_has.sto1 (w := .ref a) hl' hn h2))
theorem mj_astore_nN (C : mj_Cx v r cc nL own Ts rm) {k : Fin 4} (hd : decode cc pc = .ok (.astore_n k, 1)) (hk : (k : Nat) < nL) (hn : mj_nl L (k : Nat) = true) (h : mj_G v r (pc + 1) (((k : Nat), .null) :: L) (S) x) : mj_G v r pc L (.null :: S) x := by
  obtain ⟨l0, D, cl, tys, NW, ad, wl, Aw⟩ := v
  obtain ⟨p, e, R, s, m, args, below, meth, c, A, cells, slots, Qw⟩ := r
  intro H locs ls hP hS hl'
  exact lv_astore_nN C.1 C.2.1 hd rfl hl'.lv (by rw [C.2.2.1]; exact hk) rfl (fun ls2 h2 => h H locs ls2 hP hS (mj_has.sto1 (w := .null) hl' hn h2))
theorem mj_astoreN (C : mj_Cx v r cc nL own Ts rm) {k : Nat} (hd : decode cc pc = .ok (.astore k, 2)) (hk : k < nL) (hn : mj_nl L k = true) (h : mj_G v r (pc + 2) ((k, .null) :: L) (S) x) : mj_G v r pc L (.null :: S) x := by
  obtain ⟨l0, D, cl, tys, NW, ad, wl, Aw⟩ := v
  obtain ⟨p, e, R, s, m, args, below, meth, c, A, cells, slots, Qw⟩ := r
  intro H locs ls hP hS hl'
  exact lv_astoreN C.1 C.2.1 hd hl'.lv (by rw [C.2.2.1]; exact hk) rfl (fun ls2 h2 => h H locs ls2 hP hS (mj_has.sto1 (w := .null) hl' hn h2))
theorem mj_lstore_n (C : mj_Cx v r cc nL own Ts rm) {k : Fin 4} {a : Int64} (hd : decode cc pc = .ok (.lstore_n k, 1)) (hk : (k : Nat) + 1 < nL) (hn : mj_nl L (k : Nat) = true) (hm : L.lookup ((k : Nat) + 1) = none) (h : mj_G v r (pc + 1) (((k : Nat), .long a) :: L) (S) x) : mj_G v r pc L (.long a :: S) x := by
  obtain ⟨l0, D, cl, tys, NW, ad, wl, Aw⟩ := v
  obtain ⟨p, e, R, s, m, args, below, meth, c, A, cells, slots, Qw⟩ := r
  intro H locs ls hP hS hl'
  exact lv_lstore_n C.1 C.2.1 hd rfl hl'.lv (by rw [C.2.2.1]; exact hk) rfl (fun ls2 h2 => h H locs ls2 hP hS (mj_has.sto2 (w := .long a) hl' hn hm h2))
theorem mj_lstore (C : mj_Cx v r cc nL own Ts rm) {k : Nat} {a : Int64} (hd : decode cc pc = .ok (.lstore k, 2)) (hk : k + 1 < nL) (hn : mj_nl L k = true) (hm : L.lookup (k + 1) = none) (h : mj_G v r (pc + 2) ((k, .long a) :: L) (S) x) : mj_G v r pc L (.long a :: S) x := by
  obtain ⟨l0, D, cl, tys, NW, ad, wl, Aw⟩ := v
  obtain ⟨p, e, R, s, m, args, below, meth, c, A, cells, slots, Qw⟩ := r
  intro H locs ls hP hS hl'
  exact lv_lstore C.1 C.2.1 hd hl'.lv (by rw [C.2.2.1]; exact hk) rfl (fun ls2 h2 => h H locs ls2 hP hS (mj_has.sto2 (w := .long a) hl' hn hm h2))
theorem mj_iinc (C : mj_Cx v r cc nL own Ts rm) {k : Nat} {n : Int} {a b : Int32} (hd : decode cc pc = .ok (.iinc k n, 3)) (hl : L.lookup k = some (.int a)) (hb : Int32.ofInt n = b) (hk : k < nL) (hn : mj_nl L k = true) (h : mj_G v r (pc + 3) ((k, .int (a + b)) :: L) S x) : mj_G v r pc L S x := by
  obtain ⟨l0, D, cl, tys, NW, ad, wl, Aw⟩ := v
  obtain ⟨p, e, R, s, m, args, below, meth, c, A, cells, slots, Qw⟩ := r
  intro H locs ls hP hS hl'
  subst hb
  have hk' : k < c.maxLocals := by rw [C.2.2.1]; exact hk
  obtain ⟨q, hq⟩ := List.getElem?_of_mem (mj_lv_mem (ad := ad) hk' hl)
  exact lv_iinc C.1 C.2.1 hd hl'.lv hq rfl hk' rfl (fun ls2 h2 => h H locs ls2 hP hS (mj_has.sto1 (w := .int _) hl' hn h2))
theorem mj_iadd (C : mj_Cx v r cc nL own Ts rm) {a b : Int32} (hd : decode cc pc = .ok (.iadd, 1)) (h : mj_G v r (pc + 1) L (.int (a + b) :: S) x) : mj_G v r pc L (.int b :: .int a :: S) x := by
  obtain ⟨l0, D, cl, tys, NW, ad, wl, Aw⟩ := v
  obtain ⟨p, e, R, s, m, args, below, meth, c, A, cells, slots, Qw⟩ := r
  intro H locs ls hP hS hl'
  exact lv_iadd C.1 C.2.1 hd (h H locs ls hP hS hl')
theorem mj_isub (C : mj_Cx v r cc nL own Ts rm) {a b : Int32} (hd : decode cc pc = .ok (.isub, 1)) (h : mj_G v r (pc + 1) L (.int (a - b) :: S) x) : mj_G v r pc L (.int b :: .int a :: S) x := by
  obtain ⟨l0, D, cl, tys, NW, ad, wl, Aw⟩ := v
  obtain ⟨p, e, R, s, m, args, below, meth, c, A, cells, slots, Qw⟩ := r
  intro H locs ls hP hS hl'
  exact lv_isub C.1 C.2.1 hd (h H locs ls hP hS hl')
theorem mj_imul (C : mj_Cx v r cc nL own Ts rm) {a b : Int32} (hd : decode cc pc = .ok (.imul, 1)) (h : mj_G v r (pc + 1) L (.int (a * b) :: S) x) : mj_G v r pc L (.int b :: .int a :: S) x := by
  obtain ⟨l0, D, cl, tys, NW, ad, wl, Aw⟩ := v
  obtain ⟨p, e, R, s, m, args, below, meth, c, A, cells, slots, Qw⟩ := r
  intro H locs ls hP hS hl'
  exact lv_imul C.1 C.2.1 hd (h H locs ls hP hS hl')
theorem mj_iand (C : mj_Cx v r cc nL own Ts rm) {a b : Int32} (hd : decode cc pc = .ok (.iand, 1)) (h : mj_G v r (pc + 1) L (.int (a &&& b) :: S) x) : mj_G v r pc L (.int b :: .int a :: S) x := by
  obtain ⟨l0, D, cl, tys, NW, ad, wl, Aw⟩ := v
  obtain ⟨p, e, R, s, m, args, below, meth, c, A, cells, slots, Qw⟩ := r
  intro H locs ls hP hS hl'
  exact lv_iand C.1 C.2.1 hd (h H locs ls hP hS hl')
theorem mj_ior (C : mj_Cx v r cc nL own Ts rm) {a b : Int32} (hd : decode cc pc = .ok (.ior, 1)) (h : mj_G v r (pc + 1) L (.int (a ||| b) :: S) x) : mj_G v r pc L (.int b :: .int a :: S) x := by
  obtain ⟨l0, D, cl, tys, NW, ad, wl, Aw⟩ := v
  obtain ⟨p, e, R, s, m, args, below, meth, c, A, cells, slots, Qw⟩ := r
  intro H locs ls hP hS hl'
  exact lv_ior C.1 C.2.1 hd (h H locs ls hP hS hl')
theorem mj_ixor (C : mj_Cx v r cc nL own Ts rm) {a b : Int32} (hd : decode cc pc = .ok (.ixor, 1)) (h : mj_G v r (pc + 1) L (.int (a ^^^ b) :: S) x) : mj_G v r pc L (.int b :: .int a :: S) x := by
  obtain ⟨l0, D, cl, tys, NW, ad, wl, Aw⟩ := v
  obtain ⟨p, e, R, s, m, args, below, meth, c, A, cells, slots, Qw⟩ := r
  intro H locs ls hP hS hl'
  exact lv_ixor C.1 C.2.1 hd (h H locs ls hP hS hl')
theorem mj_ishl (C : mj_Cx v r cc nL own Ts rm) {a b : Int32} (hd : decode cc pc = .ok (.ishl, 1)) (h : mj_G v r (pc + 1) L (.int (a <<< (b &&& 31)) :: S) x) : mj_G v r pc L (.int b :: .int a :: S) x := by
  obtain ⟨l0, D, cl, tys, NW, ad, wl, Aw⟩ := v
  obtain ⟨p, e, R, s, m, args, below, meth, c, A, cells, slots, Qw⟩ := r
  intro H locs ls hP hS hl'
  exact lv_ishl C.1 C.2.1 hd (h H locs ls hP hS hl')
theorem mj_ishr (C : mj_Cx v r cc nL own Ts rm) {a b : Int32} (hd : decode cc pc = .ok (.ishr, 1)) (h : mj_G v r (pc + 1) L (.int (a >>> (b &&& 31)) :: S) x) : mj_G v r pc L (.int b :: .int a :: S) x := by
  obtain ⟨l0, D, cl, tys, NW, ad, wl, Aw⟩ := v
  obtain ⟨p, e, R, s, m, args, below, meth, c, A, cells, slots, Qw⟩ := r
  intro H locs ls hP hS hl'
  exact lv_ishr C.1 C.2.1 hd (h H locs ls hP hS hl')
theorem mj_irem (C : mj_Cx v r cc nL own Ts rm) {a b : Int32} (hd : decode cc pc = .ok (.irem, 1)) (hne : ¬ b = 0) (h : mj_G v r (pc + 1) L (.int (a - a / b * b) :: S) x) : mj_G v r pc L (.int b :: .int a :: S) x := by
  obtain ⟨l0, D, cl, tys, NW, ad, wl, Aw⟩ := v
  obtain ⟨p, e, R, s, m, args, below, meth, c, A, cells, slots, Qw⟩ := r
  intro H locs ls hP hS hl'
  exact lv_irem C.1 C.2.1 hd hne (h H locs ls hP hS hl')
theorem mj_ineg (C : mj_Cx v r cc nL own Ts rm) {a : Int32} (hd : decode cc pc = .ok (.ineg, 1)) (h : mj_G v r (pc + 1) L (.int (-a) :: S) x) : mj_G v r pc L (.int a :: S) x := by
  obtain ⟨l0, D, cl, tys, NW, ad, wl, Aw⟩ := v
  obtain ⟨p, e, R, s, m, args, below, meth, c, A, cells, slots, Qw⟩ := r
  intro H locs ls hP hS hl'
  exact lv_ineg C.1 C.2.1 hd (h H locs ls hP hS hl')
theorem mj_i2l (C : mj_Cx v r cc nL own Ts rm) {a : Int32} (hd : decode cc pc = .ok (.i2l, 1)) (h : mj_G v r (pc + 1) L (.long a.toInt64 :: S) x) : mj_G v r pc L (.int a :: S) x := by
  obtain ⟨l0, D, cl, tys, NW, ad, wl, Aw⟩ := v
  obtain ⟨p, e, R, s, m, args, below, meth, c, A, cells, slots, Qw⟩ := r
  intro H locs ls hP hS hl'
  exact lv_i2l C.1 C.2.1 hd rfl (h H locs ls hP hS hl')
theorem mj_l2i (C : mj_Cx v r cc nL own Ts rm) {a : Int64} (hd : decode cc pc = .ok (.l2i, 1)) (h : mj_G v r (pc + 1) L (.int a.toInt32 :: S) x) : mj_G v r pc L (.long a :: S) x := by
  obtain ⟨l0, D, cl, tys, NW, ad, wl, Aw⟩ := v
  obtain ⟨p, e, R, s, m, args, below, meth, c, A, cells, slots, Qw⟩ := r
  intro H locs ls hP hS hl'
  exact lv_l2i C.1 C.2.1 hd rfl (h H locs ls hP hS hl')
theorem mj_ladd (C : mj_Cx v r cc nL own Ts rm) {a b : Int64} (hd : decode cc pc = .ok (.ladd, 1)) (h : mj_G v r (pc + 1) L (.long (a + b) :: S) x) : mj_G v r pc L (.long b :: .long a :: S) x := by
  obtain ⟨l0, D, cl, tys, NW, ad, wl, Aw⟩ := v
  obtain ⟨p, e, R, s, m, args, below, meth, c, A, cells, slots, Qw⟩ := r
  intro H locs ls hP hS hl'
  exact lv_ladd C.1 C.2.1 hd (h H locs ls hP hS hl')
theorem mj_lsub (C : mj_Cx v r cc nL own Ts rm) {a b : Int64} (hd : decode cc pc = .ok (.lsub, 1)) (h : mj_G v r (pc + 1) L (.long (a - b) :: S) x) : mj_G v r pc L (.long b :: .long a :: S) x := by
  obtain ⟨l0, D, cl, tys, NW, ad, wl, Aw⟩ := v
  obtain ⟨p, e, R, s, m, args, below, meth, c, A, cells, slots, Qw⟩ := r
  intro H locs ls hP hS hl'
  exact lv_lsub C.1 C.2.1 hd (h H locs ls hP hS hl')
theorem mj_lmul (C : mj_Cx v r cc nL own Ts rm) {a b : Int64} (hd : decode cc pc = .ok (.lmul, 1)) (h : mj_G v r (pc + 1) L (.long (a * b) :: S) x) : mj_G v r pc L (.long b :: .long a :: S) x := by
  obtain ⟨l0, D, cl, tys, NW, ad, wl, Aw⟩ := v
  obtain ⟨p, e, R, s, m, args, below, meth, c, A, cells, slots, Qw⟩ := r
  intro H locs ls hP hS hl'
  exact lv_lmul C.1 C.2.1 hd (h H locs ls hP hS hl')
theorem mj_lcmp (C : mj_Cx v r cc nL own Ts rm) {a b : Int64} (hd : decode cc pc = .ok (.lcmp, 1)) (h : mj_G v r (pc + 1) L (.int (lg_cmp a b) :: S) x) : mj_G v r pc L (.long b :: .long a :: S) x := by
  obtain ⟨l0, D, cl, tys, NW, ad, wl, Aw⟩ := v
  obtain ⟨p, e, R, s, m, args, below, meth, c, A, cells, slots, Qw⟩ := r
  intro H locs ls hP hS hl'
  exact W.lcmp C.1 C.2.1 hd (h H locs ls hP hS hl')
theorem mj_dup (C : mj_Cx v r cc nL own Ts rm) {a : Value} (hd : decode cc pc = .ok (.dup, 1)) (ha : a.category = 1) (h : mj_G v r (pc + 1) L (a :: a :: S) x) : mj_G v r pc L (a :: S) x := by
  obtain ⟨l0, D, cl, tys, NW, ad, wl, Aw⟩ := v
  obtain ⟨p, e, R, s, m, args, below, meth, c, A, cells, slots, Qw⟩ := r
  intro H locs ls hP hS hl'
  exact lv_dup C.1 C.2.1 hd ((mj_tr_cat ad a).trans ha) (h H locs ls hP hS hl')
theorem mj_pop (C : mj_Cx v r cc nL own Ts rm) {a : Value} (hd : decode cc pc = .ok (.pop, 1)) (ha : a.category = 1) (h : mj_G v r (pc + 1) L (S) x) : mj_G v r pc L (a :: S) x := by
  obtain ⟨l0, D, cl, tys, NW, ad, wl, Aw⟩ := v
  obtain ⟨p, e, R, s, m, args, below, meth, c, A, cells, slots, Qw⟩ := r
  intro H locs ls hP hS hl'
  exact lv_pop C.1 C.2.1 hd ((mj_tr_cat ad a).trans ha) (h H locs ls hP hS hl')
theorem mj_dup_x1 (C : mj_Cx v r cc nL own Ts rm) {a b : Value} (hd : decode cc pc = .ok (.dup_x1, 1)) (ha : a.category = 1) (hb : b.category = 1) (h : mj_G v r (pc + 1) L (a :: b :: a :: S) x) : mj_G v r pc L (a :: b :: S) x := by
  obtain ⟨l0, D, cl, tys, NW, ad, wl, Aw⟩ := v
  obtain ⟨p, e, R, s, m, args, below, meth, c, A, cells, slots, Qw⟩ := r
  intro H locs ls hP hS hl'
  exact lv_dup_x1 C.1 C.2.1 hd ((mj_tr_cat ad a).trans ha) ((mj_tr_cat ad b).trans hb) (h H locs ls hP hS hl')
theorem mj_dup2 (C : mj_Cx v r cc nL own Ts rm) {a b : Value} (hd : decode cc pc = .ok (.dup2, 1)) (ha : a.category = 1) (hb : b.category = 1) (h : mj_G v r (pc + 1) L (a :: b :: a :: b :: S) x) : mj_G v r pc L (a :: b :: S) x := by
  obtain ⟨l0, D, cl, tys, NW, ad, wl, Aw⟩ := v
  obtain ⟨p, e, R, s, m, args, below, meth, c, A, cells, slots, Qw⟩ := r
  intro H locs ls hP hS hl'
  exact lv_dup2_11 C.1 C.2.1 hd ((mj_tr_cat ad a).trans ha) ((mj_tr_cat ad b).trans hb) (h H locs ls hP hS hl')
theorem mj_goto (C : mj_Cx v r cc nL own Ts rm) {off : Int} {tgt : Nat} (hd : decode cc pc = .ok (.goto off, 3)) (ht : (pc : Int) + off = (tgt : Int)) (h : mj_G v r tgt L S x) : mj_G v r pc L S x := by
  obtain ⟨l0, D, cl, tys, NW, ad, wl, Aw⟩ := v
  obtain ⟨p, e, R, s, m, args, below, meth, c, A, cells, slots, Qw⟩ := r
  intro H locs ls hP hS hl'
  exact lv_goto C.1 C.2.1 hd ht (h H locs ls hP hS hl')
theorem mj_if_eq (C : mj_Cx v r cc nL own Ts rm) {a : Int32} {off : Int} {tgt : Nat} (hd : decode cc pc = .ok (.ifCond .eq off, 3)) (ht : (pc : Int) + off = (tgt : Int)) (kt : a = 0 → mj_G v r tgt L S x) (kf : ¬ a = 0 → mj_G v r (pc + 3) L S x) : mj_G v r pc L (.int a :: S) x := by
  obtain ⟨l0, D, cl, tys, NW, ad, wl, Aw⟩ := v
  obtain ⟨p, e, R, s, m, args, below, meth, c, A, cells, slots, Qw⟩ := r
  intro H locs ls hP hS hl'
  exact lv_if_eq C.1 C.2.1 hd ht (fun q => kt q H locs ls hP hS hl') (fun q => kf q H locs ls hP hS hl')
theorem mj_icmp_eq (C : mj_Cx v r cc nL own Ts rm) {a b : Int32} {off : Int} {tgt : Nat} (hd : decode cc pc = .ok (.if_icmp .eq off, 3)) (ht : (pc : Int) + off = (tgt : Int)) (kt : a = b → mj_G v r tgt L S x) (kf : ¬ a = b → mj_G v r (pc + 3) L S x) : mj_G v r pc L (.int b :: .int a :: S) x := by
  obtain ⟨l0, D, cl, tys, NW, ad, wl, Aw⟩ := v
  obtain ⟨p, e, R, s, m, args, below, meth, c, A, cells, slots, Qw⟩ := r
  intro H locs ls hP hS hl'
  exact lv_icmp_eq C.1 C.2.1 hd ht (fun q => kt q H locs ls hP hS hl') (fun q => kf q H locs ls hP hS hl')
theorem mj_if_ne (C : mj_Cx v r cc nL own Ts rm) {a : Int32} {off : Int} {tgt : Nat} (hd : decode cc pc = .ok (.ifCond .ne off, 3)) (ht : (pc : Int) + off = (tgt : Int)) (kt : ¬ a = 0 → mj_G v r tgt L S x) (kf : a = 0 → mj_G v r (pc + 3) L S x) : mj_G v r pc L (.int a :: S) x := by
  obtain ⟨l0, D, cl, tys, NW, ad, wl, Aw⟩ := v
  obtain ⟨p, e, R, s, m, args, below, meth, c, A, cells, slots, Qw⟩ := r
  intro H locs ls hP hS hl'
  exact lv_if_ne C.1 C.2.1 hd ht (fun q => kt q H locs ls hP hS hl') (fun q => kf q H locs ls hP hS hl')
theorem mj_icmp_ne (C : mj_Cx v r cc nL own Ts rm) {a b : Int32} {off : Int} {tgt : Nat} (hd : decode cc pc = .ok (.if_icmp .ne off, 3)) (ht : (pc : Int) + off = (tgt : Int)) (kt : ¬ a = b → mj_G v r tgt L S x) (kf : a = b → mj_G v r (pc + 3) L S x) : mj_G v r pc L (.int b :: .int a :: S) x := by
  obtain ⟨l0, D, cl, tys, NW, ad, wl, Aw⟩ := v
  obtain ⟨p, e, R, s, m, args, below, meth, c, A, cells, slots, Qw⟩ := r
  intro H locs ls hP hS hl'
  exact lv_icmp_ne C.1 C.2.1 hd ht (fun q => kt q H locs ls hP hS hl') (fun q => kf q H locs ls hP hS hl')
theorem mj_if_lt (C : mj_Cx v r cc nL own Ts rm) {a : Int32} {off : Int} {tgt : Nat} (hd : decode cc pc = .ok (.ifCond .lt off, 3)) (ht : (pc : Int) + off = (tgt : Int)) (kt : a < 0 → mj_G v r tgt L S x) (kf : ¬ a < 0 → mj_G v r (pc + 3) L S x) : mj_G v r pc L (.int a :: S) x := by
  obtain ⟨l0, D, cl, tys, NW, ad, wl, Aw⟩ := v
  obtain ⟨p, e, R, s, m, args, below, meth, c, A, cells, slots, Qw⟩ := r
  intro H locs ls hP hS hl'
  exact lv_if_lt C.1 C.2.1 hd ht (fun q => kt q H locs ls hP hS hl') (fun q => kf q H locs ls hP hS hl')
theorem mj_icmp_lt (C : mj_Cx v r cc nL own Ts rm) {a b : Int32} {off : Int} {tgt : Nat} (hd : decode cc pc = .ok (.if_icmp .lt off, 3)) (ht : (pc : Int) + off = (tgt : Int)) (kt : a < b → mj_G v r tgt L S x) (kf : ¬ a < b → mj_G v r (pc + 3) L S x) : mj_G v r pc L (.int b :: .int a :: S) x := by
  obtain ⟨l0, D, cl, tys, NW, ad, wl, Aw⟩ := v
  obtain ⟨p, e, R, s, m, args, below, meth, c, A, cells, slots, Qw⟩ := r
  intro H locs ls hP hS hl'
  exact lv_icmp_lt C.1 C.2.1 hd ht (fun q => kt q H locs ls hP hS hl') (fun q => kf q H locs ls hP hS hl')
theorem mj_if_ge (C : mj_Cx v r cc nL own Ts rm) {a : Int32} {off : Int} {tgt : Nat} (hd : decode cc pc = .ok (.ifCond .ge off, 3)) (ht : (pc : Int) + off = (tgt : Int)) (kt : 0 ≤ a → mj_G v r tgt L S x) (kf : ¬ 0 ≤ a → mj_G v r (pc + 3) L S x) : mj_G v r pc L (.int a :: S) x := by
  obtain ⟨l0, D, cl, tys, NW, ad, wl, Aw⟩ := v
  obtain ⟨p, e, R, s, m, args, below, meth, c, A, cells, slots, Qw⟩ := r
  intro H locs ls hP hS hl'
  exact lv_if_ge C.1 C.2.1 hd ht (fun q => kt q H locs ls hP hS hl') (fun q => kf q H locs ls hP hS hl')
theorem mj_icmp_ge (C : mj_Cx v r cc nL own Ts rm) {a b : Int32} {off : Int} {tgt : Nat} (hd : decode cc pc = .ok (.if_icmp .ge off, 3)) (ht : (pc : Int) + off = (tgt : Int)) (kt : b ≤ a → mj_G v r tgt L S x) (kf : ¬ b ≤ a → mj_G v r (pc + 3) L S x) : mj_G v r pc L (.int b :: .int a :: S) x := by
  obtain ⟨l0, D, cl, tys, NW, ad, wl, Aw⟩ := v
  obtain ⟨p, e, R, s, m, args, below, meth, c, A, cells, slots, Qw⟩ := r
  intro H locs ls hP hS hl'
  exact lv_icmp_ge C.1 C.2.1 hd ht (fun q => kt q H locs ls hP hS hl') (fun q => kf q H locs ls hP hS hl')
theorem mj_if_gt (C : mj_Cx v r cc nL own Ts rm) {a : Int32} {off : Int} {tgt : Nat} (hd : decode cc pc = .ok (.ifCond .gt off, 3)) (ht : (pc : Int) + off = (tgt : Int)) (kt : 0 < a → mj_G v r tgt L S x) (kf : ¬ 0 < a → mj_G v r (pc + 3) L S x) : mj_G v r pc L (.int a :: S) x := by
  obtain ⟨l0, D, cl, tys, NW, ad, wl, Aw⟩ := v
  obtain ⟨p, e, R, s, m, args, below, meth, c, A, cells, slots, Qw⟩ := r
  intro H locs ls hP hS hl'
  exact lv_if_gt C.1 C.2.1 hd ht (fun q => kt q H locs ls hP hS hl') (fun q => kf q H locs ls hP hS hl')
theorem mj_icmp_gt (C : mj_Cx v r cc nL own Ts rm) {a b : Int32} {off : Int} {tgt : Nat} (hd : decode cc pc = .ok (.if_icmp .gt off, 3)) (ht : (pc : Int) + off = (tgt : Int)) (kt : b < a → mj_G v r tgt L S x) (kf : ¬ b < a → mj_G v r (pc + 3) L S x) : mj_G v r pc L (.int b :: .int a :: S) x := by
  obtain ⟨l0, D, cl, tys, NW, ad, wl, Aw⟩ := v
  obtain ⟨p, e, R, s, m, args, below, meth, c, A, cells, slots, Qw⟩ := r
  intro H locs ls hP hS hl'
  exact lv_icmp_gt C.1 C.2.1 hd ht (fun q => kt q H locs ls hP hS hl') (fun q => kf q H locs ls hP hS hl')
theorem mj_if_le (C : mj_Cx v r cc nL own Ts rm) {a : Int32} {off : Int} {tgt : Nat} (hd : decode cc pc = .ok (.ifCond .le off, 3)) (ht : (pc : Int) + off = (tgt : Int)) (kt : a ≤ 0 → mj_G v r tgt L S x) (kf : ¬ a ≤ 0 → mj_G v r (pc + 3) L S x) : mj_G v r pc L (.int a :: S) x := by
  obtain ⟨l0, D, cl, tys, NW, ad, wl, Aw⟩ := v
  obtain ⟨p, e, R, s, m, args, below, meth, c, A, cells, slots, Qw⟩ := r
  intro H locs ls hP hS hl'
  exact lv_if_le C.1 C.2.1 hd ht (fun q => kt q H locs ls hP hS hl') (fun q => kf q H locs ls hP hS hl')
theorem mj_icmp_le (C : mj_Cx v r cc nL own Ts rm) {a b : Int32} {off : Int} {tgt : Nat} (hd : decode cc pc = .ok (.if_icmp .le off, 3)) (ht : (pc : Int) + off = (tgt : Int)) (kt : a ≤ b → mj_G v r tgt L S x) (kf : ¬ a ≤ b → mj_G v r (pc + 3) L S x) : mj_G v r pc L (.int b :: .int a :: S) x := by
  obtain ⟨l0, D, cl, tys, NW, ad, wl, Aw⟩ := v
  obtain ⟨p, e, R, s, m, args, below, meth, c, A, cells, slots, Qw⟩ := r
  intro H locs ls hP hS hl'
  exact lv_icmp_le C.1 C.2.1 hd ht (fun q => kt q H locs ls hP hS hl') (fun q => kf q H locs ls hP hS hl')
theorem mj_ifnull (C : mj_Cx v r cc nL own Ts rm) {a : Nat} {off : Int} (hd : decode cc pc = .ok (.ifnull off, 3)) (h : mj_G v r (pc + 3) L S x) : mj_G v r pc L (.ref a :: S) x := by
  obtain ⟨l0, D, cl, tys, NW, ad, wl, Aw⟩ := v
  obtain ⟨p, e, R, s, m, args, below, meth, c, A, cells, slots, Qw⟩ := r
  intro H locs ls hP hS hl'
  exact lv_ifnull C.1 C.2.1 hd (h H locs ls hP hS hl')
theorem mj_ifnonnull (C : mj_Cx v r cc nL own Ts rm) {a : Nat} {off : Int} {tgt : Nat} (hd : decode cc pc = .ok (.ifnonnull off, 3)) (ht : (pc : Int) + off = (tgt : Int)) (h : mj_G v r tgt L S x) : mj_G v r pc L (.ref a :: S) x := by
  obtain ⟨l0, D, cl, tys, NW, ad, wl, Aw⟩ := v
  obtain ⟨p, e, R, s, m, args, below, meth, c, A, cells, slots, Qw⟩ := r
  intro H locs ls hP hS hl'
  exact lv_ifnonnull C.1 C.2.1 hd ht (h H locs ls hP hS hl')
theorem mj_ifnullN (C : mj_Cx v r cc nL own Ts rm) {off : Int} {tgt : Nat} (hd : decode cc pc = .ok (.ifnull off, 3)) (ht : (pc : Int) + off = (tgt : Int)) (h : mj_G v r tgt L S x) : mj_G v r pc L (.null :: S) x := by
  obtain ⟨l0, D, cl, tys, NW, ad, wl, Aw⟩ := v
  obtain ⟨p, e, R, s, m, args, below, meth, c, A, cells, slots, Qw⟩ := r
  intro H locs ls hP hS hl'
  exact lv_ifnullN C.1 C.2.1 hd ht (h H locs ls hP hS hl')
theorem mj_ifnonnullN (C : mj_Cx v r cc nL own Ts rm) {off : Int} (hd : decode cc pc = .ok (.ifnonnull off, 3)) (h : mj_G v r (pc + 3) L S x) : mj_G v r pc L (.null :: S) x := by
  obtain ⟨l0, D, cl, tys, NW, ad, wl, Aw⟩ := v
  obtain ⟨p, e, R, s, m, args, below, meth, c, A, cells, slots, Qw⟩ := r
  intro H locs ls hP hS hl'
  exact lv_ifnonnullN C.1 C.2.1 hd (h H locs ls hP hS hl')
theorem mj_tableIn (C : mj_Cx v r cc nL own Ts rm) {dflt lo hi : Int} {offs : Array Int} {len : Nat} {a : Int32} {off : Int} {tgt : Nat} (hd : decode cc pc = .ok (.tableswitch dflt lo hi offs, len)) (h1 : ¬ a.toInt < lo) (h2 : ¬ hi < a.toInt) (ho : offs[(a.toInt - lo).toNat]? = some off) (ht : (pc : Int) + off = (tgt : Int)) (h : mj_G v r tgt L S x) : mj_G v r pc L (.int a :: S) x := by
  obtain ⟨l0, D, cl, tys, NW, ad, wl, Aw⟩ := v
  obtain ⟨p, e, R, s, m, args, below, meth, c, A, cells, slots, Qw⟩ := r
  intro H locs ls hP hS hl'
  exact lv_tableIn C.1 C.2.1 hd h1 h2 ho ht (h H locs ls hP hS hl')
theorem mj_tableOut (C : mj_Cx v r cc nL own Ts rm) {dflt lo hi : Int} {offs : Array Int} {len : Nat} {a : Int32} {tgt : Nat} (hd : decode cc pc = .ok (.tableswitch dflt lo hi offs, len)) (ha : a.toInt < lo ∨ hi < a.toInt) (ht : (pc : Int) + dflt = (tgt : Int)) (h : mj_G v r tgt L S x) : mj_G v r pc L (.int a :: S) x := by
  obtain ⟨l0, D, cl, tys, NW, ad, wl, Aw⟩ := v
  obtain ⟨p, e, R, s, m, args, below, meth, c, A, cells, slots, Qw⟩ := r
  intro H locs ls hP hS hl'
  exact lv_tableOut C.1 C.2.1 hd ha ht (h H locs ls hP hS hl')
theorem mj_lookup (C : mj_Cx v r cc nL own Ts rm) {dflt : Int} {ps : Array (Int × Int)} {len : Nat} {a : Int32} {off : Int} {tgt : Nat} (hd : decode cc pc = .ok (.lookupswitch dflt ps, len)) (hp : (ps.toList.zip (ps.toList.drop 1)).all (fun (a, next) => a.1 < next.1) = true) (ho : Op.lookupswitch.offset ps.toList dflt a.toInt = off) (ht : (pc : Int) + off = (tgt : Int)) (h : mj_G v r tgt L S x) : mj_G v r pc L (.int a :: S) x := by
  obtain ⟨l0, D, cl, tys, NW, ad, wl, Aw⟩ := v
  obtain ⟨p, e, R, s, m, args, below, meth, c, A, cells, slots, Qw⟩ := r
  intro H locs ls hP hS hl'
  exact lv_lookup C.1 C.2.1 hd hp ho ht (h H locs ls hP hS hl')
theorem mj_get (C : mj_Cx v r cc nL own Ts rm) {C0 : String} {T : u_T} {N ci index i q0 : Nat} {fs : List Value} (hin : ∀ w ∈ u_ws C0 T N, w ∈ Ts) (hc : v.2.2.1[ci]? = some (C0, T, N)) (he : (v.2.2.2.2.2.2.1 x)[q0]? = some (v.2.2.2.2.2.1 i, .inr (ci, fs))) (k : Nat) (hk : k < N) (hlink : Cond.fieldLink own index (T k).1 (T k).2.1 (T k).2.2.1 ∈ Ts) {a : Value} (hv : fs[k]? = some (mj_tr v.2.2.2.2.2.1 a)) (hd : decode cc pc = .ok (.getfield index, 3)) (h : mj_G v r (pc + 3) L (a :: S) x) : mj_G v r pc L (.ref i :: S) x := by
  obtain ⟨l0, D, cl, tys, NW, ad, wl, Aw⟩ := v
  obtain ⟨p, e, R, s, m, args, below, meth, c, A, cells, slots, Qw⟩ := r
  intro H locs ls hP hS hl'
  exact va_get C.1 C.2.1 C.2.2.2.2.1 hin C.2.2.2.1 C.2.2.2.2.2.1 hP q0 he hc k hk (C.2.2.2.2.1 _ hlink) (fun _ h9 => h9) hv hd (h H locs ls hP hS hl')
theorem mj_put (C : mj_Cx v r cc nL own Ts rm) {C0 : String} {T : u_T} {N ci index i q0 : Nat} {fs : List Value} {x2 : mj_X} (hin : ∀ w ∈ u_ws C0 T N, w ∈ Ts) (hc : v.2.2.1[ci]? = some (C0, T, N)) (ty0 : Nat → FieldType) (hty : ∀ k, k < N → parseFieldDescriptor (T k).2.2.1 = some (ty0 k)) (hnm : ∀ a, a < N → ∀ b, b < N → a ≠ b → (T a).2.1 ≠ (T b).2.1) (he : (v.2.2.2.2.2.2.1 x)[q0]? = some (v.2.2.2.2.2.1 i, .inr (ci, fs))) (k : Nat) (hk : k < N) (hlink : Cond.fieldLink own index (T k).1 (T k).2.1 (T k).2.2.1 ∈ Ts) (hfin : (T k).2.2.2 = false) (hdd : parseFieldDescriptor (T k).2.2.1 = some .int) {a : Int32} (hl : k < fs.length) (hset : (v.2.2.2.2.2.2.1 x).set q0 (v.2.2.2.2.2.1 i, .inr (ci, fs.set k (.int a))) = v.2.2.2.2.2.2.1 x2) (hd : decode cc pc = .ok (.putfield index, 3)) (h : mj_G v r (pc + 3) L S x2) : mj_G v r pc L (.int a :: .ref i :: S) x := by
  obtain ⟨l0, D, cl, tys, NW, ad, wl, Aw⟩ := v
  obtain ⟨p, e, R, s, m, args, below, meth, c, A, cells, slots, Qw⟩ := r
  intro H locs ls hP hS hl'
  refine va_put (ty := .int) (v := .int a) C.1 C.2.1 C.2.2.2.2.1 hin ty0 hty hnm C.2.2.2.1 C.2.2.2.2.2.1 hP (C.2.2.2.2.2.2.2.1 x) hS q0 he hc k hk (C.2.2.2.2.1 _ hlink) (fun _ h9 => h9) hfin hdd (vp_nar_int a) rfl hl hd (fun H1 locs1 hP1 _ hS1 => ?_)
  exact h H1 locs1 ls (Eq.mp (congrArg (fun w => va_P D cl w H1) hset) hP1) hS1 hl'

theorem mj_iald (C : mj_Cx v r cc nL own Ts rm) {i q0 t0 n : Nat} {cA : ClassId} {f : Nat → Int32} (he : (v.2.2.2.2.2.2.1 x)[q0]? = some (v.2.2.2.2.2.1 i, .inl (cA, n, .inl f))) (ht : v.2.2.2.1[t0]? = some (cA, .int)) {j : Int32} (hj : vp_in j n) (hd : decode cc pc = .ok (.iaload, 1)) (h : mj_G v r (pc + 1) L (.int (f j.toNatClampNeg) :: S) x) : mj_G v r pc L (.int j :: .ref i :: S) x := by
  obtain ⟨l0, D, cl, tys, NW, ad, wl, Aw⟩ := v
  obtain ⟨p, e, R, s, m, args, below, meth, c, A, cells, slots, Qw⟩ := r
  intro H locs ls hP hS hl'
  exact va_iald C.1 C.2.1 C.2.2.2.2.2.1 hP q0 t0 he ht hj hd (h H locs ls hP hS hl')
theorem mj_zald (C : mj_Cx v r cc nL own Ts rm) {i q0 t0 n : Nat} {cA : ClassId} {f : Nat → Int32} (he : (v.2.2.2.2.2.2.1 x)[q0]? = some (v.2.2.2.2.2.1 i, .inl (cA, n, .inl f))) (ht : v.2.2.2.1[t0]? = some (cA, .boolean)) {j : Int32} (hj : vp_in j n) (hd : decode cc pc = .ok (.baload, 1)) (h : mj_G v r (pc + 1) L (.int (f j.toNatClampNeg) :: S) x) : mj_G v r pc L (.int j :: .ref i :: S) x := by
  obtain ⟨l0, D, cl, tys, NW, ad, wl, Aw⟩ := v
  obtain ⟨p, e, R, s, m, args, below, meth, c, A, cells, slots, Qw⟩ := r
  intro H locs ls hP hS hl'
  exact va_zald C.1 C.2.1 C.2.2.2.2.2.1 hP q0 t0 he ht hj hd (h H locs ls hP hS hl')
theorem mj_iast (C : mj_Cx v r cc nL own Ts rm) {i q0 t0 n : Nat} {cA : ClassId} {f : Nat → Int32} {x2 : mj_X} {j a : Int32} (he : (v.2.2.2.2.2.2.1 x)[q0]? = some (v.2.2.2.2.2.1 i, .inl (cA, n, .inl f))) (ht : v.2.2.2.1[t0]? = some (cA, .int)) (hj : vp_in j n) (hset : (v.2.2.2.2.2.2.1 x).set q0 (v.2.2.2.2.2.1 i, .inl (cA, n, .inl (upd f j.toNatClampNeg a))) = v.2.2.2.2.2.2.1 x2) (hd : decode cc pc = .ok (.iastore, 1)) (h : mj_G v r (pc + 1) L S x2) : mj_G v r pc L (.int a :: .int j :: .ref i :: S) x := by
  obtain ⟨l0, D, cl, tys, NW, ad, wl, Aw⟩ := v
  obtain ⟨p, e, R, s, m, args, below, meth, c, A, cells, slots, Qw⟩ := r
  intro H locs ls hP hS hl'
  refine va_iast C.1 C.2.1 C.2.2.2.2.2.1 hP (C.2.2.2.2.2.2.2.1 x) hS q0 t0 he ht hj hd (fun H1 locs1 hP1 _ hS1 => ?_)
  exact h H1 locs1 ls (Eq.mp (congrArg (fun w => va_P D cl w H1) hset) hP1) hS1 hl'
theorem mj_zast (C : mj_Cx v r cc nL own Ts rm) {i q0 t0 n : Nat} {cA : ClassId} {f : Nat → Int32} {x2 : mj_X} {j a : Int32} (he : (v.2.2.2.2.2.2.1 x)[q0]? = some (v.2.2.2.2.2.1 i, .inl (cA, n, .inl f))) (ht : v.2.2.2.1[t0]? = some (cA, .boolean)) (hj : vp_in j n) (hz : mj_bz a) (hset : (v.2.2.2.2.2.2.1 x).set q0 (v.2.2.2.2.2.1 i, .inl (cA, n, .inl (upd f j.toNatClampNeg a))) = v.2.2.2.2.2.2.1 x2) (hd : decode cc pc = .ok (.bastore, 1)) (h : mj_G v r (pc + 1) L S x2) : mj_G v r pc L (.int a :: .int j :: .ref i :: S) x := by
  obtain ⟨l0, D, cl, tys, NW, ad, wl, Aw⟩ := v
  obtain ⟨p, e, R, s, m, args, below, meth, c, A, cells, slots, Qw⟩ := r
  intro H locs ls hP hS hl'
  refine va_zast C.1 C.2.1 C.2.2.2.2.2.1 hP (C.2.2.2.2.2.2.2.1 x) hS q0 t0 he ht hj hd (fun H1 locs1 hP1 _ hS1 => ?_)
  rw [mj_bz_vp hz] at hP1
  exact h H1 locs1 ls (Eq.mp (congrArg (fun w => va_P D cl w H1) hset) hP1) hS1 hl'
theorem mj_aald (C : mj_Cx v r cc nL own Ts rm) {i i2 q0 t0 n : Nat} {cA : ClassId} {C0 : String} {f : Nat → Option Nat} (he : (v.2.2.2.2.2.2.1 x)[q0]? = some (v.2.2.2.2.2.1 i, .inl (cA, n, .inr (.inr (.inr (.inr f)))))) (ht : v.2.2.2.1[t0]? = some (cA, .object C0)) {j : Int32} (hj : vp_in j n) (hf : f j.toNatClampNeg = some (v.2.2.2.2.2.1 i2)) (hd : decode cc pc = .ok (.aaload, 1)) (h : mj_G v r (pc + 1) L (.ref i2 :: S) x) : mj_G v r pc L (.int j :: .ref i :: S) x := by
  obtain ⟨l0, D, cl, tys, NW, ad, wl, Aw⟩ := v
  obtain ⟨p, e, R, s, m, args, below, meth, c, A, cells, slots, Qw⟩ := r
  intro H locs ls hP hS hl'
  refine va_aldq C.1 C.2.1 C.2.2.2.2.2.1 hP q0 t0 he ht hj hd ?_
  rw [hf]
  exact h H locs ls hP hS hl'
theorem mj_iret {Qf : Option Value → mj_X → Prop} (C : mj_Cx v r cc nL own Ts rm) (Z : mj_Cr v r (some .int) Qf) {a : Int32} (hd : decode cc pc = .ok (.ireturn, 1)) (h : Qf (some (.int a)) x) : mj_G v r pc L [.int a] x := by
  obtain ⟨l0, D, cl, tys, NW, ad, wl, Aw⟩ := v
  obtain ⟨p, e, R, s, m, args, below, meth, c, A, cells, slots, Qw⟩ := r
  intro H locs ls hP hS hl'
  obtain ⟨z1, z2, rfl, z4⟩ := Z
  exact W.iret (v := a) C.1 C.2.1 z1 (fun t ht _ => ⟨⟨some (.int a), x, rfl, h, by rw [ht]; exact hP⟩, by rw [ht]; exact hS.1, fun q h1 h2 => by rw [ht]; exact hS.2.1 q h1 (fun hA => h2 (z4 q hA))⟩) (fun q hq => z4 _ (hS.2.2 q hq)) hd z2
theorem mj_zret {Qf : Option Value → mj_X → Prop} (C : mj_Cx v r cc nL own Ts rm) (Z : mj_Cr v r (some .boolean) Qf) {a : Int32} (hz : mj_bz a) (hd : decode cc pc = .ok (.ireturn, 1)) (h : Qf (some (.int a)) x) : mj_G v r pc L [.int a] x := by
  obtain ⟨l0, D, cl, tys, NW, ad, wl, Aw⟩ := v
  obtain ⟨p, e, R, s, m, args, below, meth, c, A, cells, slots, Qw⟩ := r
  intro H locs ls hP hS hl'
  obtain ⟨z1, z2, rfl, z4⟩ := Z
  exact W.zret (v := a) C.1 C.2.1 z1 (mj_bz_nar hz) (fun t ht _ => ⟨⟨some (.int a), x, rfl, h, by rw [ht]; exact hP⟩, by rw [ht]; exact hS.1, fun q h1 h2 => by rw [ht]; exact hS.2.1 q h1 (fun hA => h2 (z4 q hA))⟩) (fun q hq => z4 _ (hS.2.2 q hq)) hd z2
theorem mj_vret {Qf : Option Value → mj_X → Prop} (C : mj_Cx v r cc nL own Ts rm) (Z : mj_Cr v r none Qf) (hd : decode cc pc = .ok (.return_, 1)) (h : Qf none x) : mj_G v r pc L [] x := by
  obtain ⟨l0, D, cl, tys, NW, ad, wl, Aw⟩ := v
  obtain ⟨p, e, R, s, m, args, below, meth, c, A, cells, slots, Qw⟩ := r
  intro H locs ls hP hS hl'
  obtain ⟨z1, z2, rfl, z4⟩ := Z
  exact W.vret C.1 C.2.1 z1 (fun t ht _ => ⟨⟨none, x, rfl, h, by rw [ht]; exact hP⟩, by rw [ht]; exact hS.1, fun q h1 h2 => by rw [ht]; exact hS.2.1 q h1 (fun hA => h2 (z4 q hA))⟩) (fun q hq => z4 _ (hS.2.2 q hq)) hd z2
theorem mj_aret {Qf : Option Value → mj_X → Prop} (C : mj_Cx v r cc nL own Ts rm) {C0 : String} (Z : mj_Cr v r (some (.object C0)) Qf) {a : Option Nat} (hd : decode cc pc = .ok (.areturn, 1)) (h : Qf (some (mj_rf a)) x) : mj_G v r pc L [mj_rf a] x := by
  obtain ⟨l0, D, cl, tys, NW, ad, wl, Aw⟩ := v
  obtain ⟨p, e, R, s, m, args, below, meth, c, A, cells, slots, Qw⟩ := r
  intro H locs ls hP hS hl'
  obtain ⟨z1, z2, rfl, z4⟩ := Z
  exact W.aret (v := mj_tr ad (mj_rf a)) C.1 C.2.1 z1 (Or.inl ⟨_, rfl⟩) (by cases a with | none => exact Or.inl rfl | some i => exact Or.inr ⟨_, rfl⟩) (fun t ht _ => ⟨⟨some (mj_rf a), x, rfl, h, by rw [ht]; exact hP⟩, by rw [ht]; exact hS.1, fun q h1 h2 => by rw [ht]; exact hS.2.1 q h1 (fun hA => h2 (z4 q hA))⟩) (fun q hq => z4 _ (hS.2.2 q hq)) hd z2
end MJ
section MJC
variable {p : Program} {l : Launch} {e : Env} {R : Room} {s : State} {m : MethodId} {args : Array Value} {below : List Frame} {meth : Method} {c : Code} {H : Heap} {locs : List Loc} {cells slots : Nat} {Q : State → Prop}
variable {pc : Nat} {ls : Array Slot} {rest st0 : List Value} {a : Array Value} {A0 Aw : Nat → Prop} {H0 : Heap} {D : va_G} {cl : List vw_C} {ad : Nat → Nat} {wl : mj_X → va_W}
theorem mj_back {Qf : Option Value → mj_X → Prop} (hr : va_Run p l e R s m args below meth c H locs cells slots 0 0 (F0 m pc ls st0) rest (mj_Qc D cl ad wl Aw Qf a) Aw) (hS : va_S A0 H0 H locs) (hA : ∀ q, Aw q → A0 q)
    (kk : ∀ (w : Option Value) (x : mj_X) (H1 : Heap) (locs1 : List Loc), Qf w x → va_P D cl (wl x) H1 → va_S A0 H0 H1 locs1 → W p l e R s m args below meth c H1 locs1 cells slots Q (F0 m (pc + 3) ls ((w.map (mj_tr ad)).toList ++ rest))) : W p l e R s m args below meth c H locs cells slots Q (F0 m pc ls st0) := by
  intro T hT X
  obtain ⟨w, st₀, t, T', L, h0, X', hL, e1, e2, ⟨⟨u, x, hv, hp, hb⟩, hz, hk⟩, st⟩ := hr T hT X
  cases hv
  rw [h0] at hz hk
  obtain ⟨t2, a1, b1⟩ := kk u x T'.heap (locs ++ L) hp (by rw [e1]; exact hb)
    ⟨Nat.le_trans hS.1 (by rw [e1]; exact hz), fun q h1 h2 => by rw [e1, hk q (Nat.lt_of_lt_of_le h1 hS.1) (fun z => h2 (hA q z))]; exact hS.2.1 q h1 h2, fun q hq => by
      rcases List.mem_append.mp hq with h | h
      · exact hS.2.2 q h
      · exact hA _ (hL q h)⟩ T' rfl X'
  exact ⟨t2, st t2 a1, b1⟩
end MJC
theorem mj_cats (ad : Nat → Nat) (S : List Value) : ((S.map (mj_tr ad)).map fun v => v.category) = S.map fun v => v.category := by
  rw [List.map_map]
  exact List.map_congr_left fun v _ => mj_tr_cat ad v
theorem mj_blind {D : va_G} {cl : List vw_C} {tys : List (ClassId × FieldType)} {NW : List Cond} {wl : mj_X → va_W} {x : mj_X} {av : List Value} (hn : ∀ w ∈ NW, mj_isN w) : FrameBlind (va_Pc av (mj_Pc D cl tys NW wl x)) := by
  intro a U g mk q
  obtain ⟨q0, q1, q2, q3⟩ := q
  exact ⟨q0, q1, va_K.moved (u := U) (U := U.calling g mk a) (Vm.Alike.refl U.vm) q2, mj_N.same (s := U) (U := U.calling g mk a) hn rfl q3⟩
section MJD
variable {v : mj_V} {r : mj_R} {cc : ByteArray} {nL : Nat} {own : String} {Ts : List Cond} {rm : Room} {pc : Nat} {L : List (Nat × Value)} {S As S2 : List Value} {x : mj_X} {y : MethodName} {ws ws' : List Cond} {bytes : ByteArray} {maxL n : Nat} {ret : Option FieldType} {rm2 : Room} {Qf : Option Value → mj_X → Prop} {index : Nat}
theorem mj_callS (C : mj_Cx v r cc nL own Ts rm) (hc : mj_Ct v y ws rm2 As x Qf) (hw : ws = Cond.code y bytes maxL ret :: ws') (hg : GoodIn Ts (wsS own index y ws)) (hd2 : y.cls = own ∧ y.cls ≠ "java/lang/invoke/MethodHandle" ∧ y.cls ≠ "java/lang/invoke/VarHandle" ∧ (parseMethodDescriptor y.desc).map (fun d => d.parameters.length) = some n) (hR : rm2.frames + 1 ≤ rm.frames ∧ 8 + (maxL + 11) + rm2.locals ≤ rm.locals ∧ rm2.cells = 0 ∧ rm2.slots = 0) (hn : As.length = n) (hst : S = As.reverse ++ S2) (hcat : (S2.map fun v => v.category).sum ≤ 8) (hd : decode cc pc = .ok (.invokestatic index, 3)) (kk : ∀ (w : Option Value) (x2 : mj_X), Qf w x2 → mj_G v r (pc + 3) L (w.toList ++ S2) x2) : mj_G v r pc L S x := by
  obtain ⟨l0, D, cl, tys, NW, ad, wl, Aw⟩ := v
  obtain ⟨p, e, R, s, m, args, below, meth, c, A, cells, slots, Qw⟩ := r
  intro H locs ls hP hS hl'
  obtain ⟨c1, c2, c3, c4, c5, c6, c7, c8, rfl, c10, c11, c12⟩ := C
  subst hst
  refine mj_back (va_runS (As := As.map (mj_tr ad)) (rest := S2.map (mj_tr ad)) ⟨c1, c2, c3, c4, c5⟩ hc (cwS n c5 hg hw hR.2.2.1 hR.2.2.2 hd2 ⟨hR.1, hR.2.1⟩) ⟨mj_blind c12, fun U hU hW => ⟨rfl, by rw [hU]; exact hP, va_K.moved hW.alike c6, mj_N.warm c12 hW c7⟩⟩ rfl (by rw [List.length_map]; exact hn) (hl'.1.trans c3) (by rw [List.map_append, List.map_reverse]) (lv_room (by rw [mj_cats]; exact hcat)) hd c11) hS c10 (fun w x2 H1 locs1 hq hP1 hS1 => by
    have h9 := kk w x2 hq H1 locs1 ls hP1 hS1 hl'
    rw [List.map_append] at h9
    cases w <;> exact h9)
theorem mj_callSN (C : mj_Cx v r cc nL own Ts rm) (hc : mj_Ct v y ws rm2 As x Qf) (hw : ws = Cond.code y bytes maxL ret :: ws') (hg : GoodIn Ts ws) {host : String} (hnw : Cond.methodLinkNest own index y host ∈ v.2.2.2.2.1) (hini : Cond.initialized y.cls ∈ Ts) (hsta : Cond.static y ∈ Ts) (hd2 : y.cls ≠ "java/lang/invoke/MethodHandle" ∧ y.cls ≠ "java/lang/invoke/VarHandle" ∧ (parseMethodDescriptor y.desc).map (fun d => d.parameters.length) = some n) (hR : rm2.frames + 1 ≤ rm.frames ∧ 8 + (maxL + 11) + rm2.locals ≤ rm.locals ∧ rm2.cells = 0 ∧ rm2.slots = 0) (hn : As.length = n) (hst : S = As.reverse ++ S2) (hcat : (S2.map fun v => v.category).sum ≤ 8) (hd : decode cc pc = .ok (.invokestatic index, 3)) (kk : ∀ (w : Option Value) (x2 : mj_X), Qf w x2 → mj_G v r (pc + 3) L (w.toList ++ S2) x2) : mj_G v r pc L S x := by
  obtain ⟨l0, D, cl, tys, NW, ad, wl, Aw⟩ := v
  obtain ⟨p, e, R, s, m, args, below, meth, c, A, cells, slots, Qw⟩ := r
  intro H locs ls hP hS hl'
  obtain ⟨c1, c2, c3, c4, c5, c6, c7, c8, rfl, c10, c11, c12⟩ := C
  subst hst
  refine mj_back (va_runSN (As := As.map (mj_tr ad)) (rest := S2.map (mj_tr ad)) ⟨c1, c2, c3, c4, c5⟩ hc ⟨va_cnB n c5 hg hw hR.2.2.1 hR.2.2.2 (c7 _ hnw) (c5 _ hini) hd2 ⟨hR.1, hR.2.1⟩, c5 _ hsta, trivial⟩ ⟨mj_blind c12, fun U hU hW => ⟨rfl, by rw [hU]; exact hP, va_K.moved hW.alike c6, mj_N.warm c12 hW c7⟩⟩ rfl (by rw [List.length_map]; exact hn) (hl'.1.trans c3) (by rw [List.map_append, List.map_reverse]) (lv_room (by rw [mj_cats]; exact hcat)) hd c11) hS c10 (fun w x2 H1 locs1 hq hP1 hS1 => by
    have h9 := kk w x2 hq H1 locs1 ls hP1 hS1 hl'
    rw [List.map_append] at h9
    cases w <;> exact h9)
theorem mj_callV (C : mj_Cx v r cc nL own Ts rm) {C0 : String} {T : u_T} {N ci i q0 : Nat} {fs : List Value} (hc : mj_Ct v y ws rm2 (.ref i :: As) x Qf) (hw : ws = Cond.code y bytes maxL ret :: ws') (hg : GoodIn Ts (wsV own index C0 y ws)) (hcl : v.2.2.1[ci]? = some (C0, T, N)) (he : (v.2.2.2.2.2.2.1 x)[q0]? = some (v.2.2.2.2.2.1 i, .inr (ci, fs))) (hd2 : y.cls = C0 ∧ y.cls ≠ "java/lang/invoke/MethodHandle" ∧ y.cls ≠ "java/lang/invoke/VarHandle" ∧ (parseMethodDescriptor y.desc).map (fun d => d.parameters.length) = some n) (hR : rm2.frames + 1 ≤ rm.frames ∧ 8 + (maxL + 11) + rm2.locals ≤ rm.locals ∧ rm2.cells = 0 ∧ rm2.slots = 0) (hn : As.length = n) (hst : S = As.reverse ++ .ref i :: S2) (hcat : (S2.map fun v => v.category).sum ≤ 8) (hd : decode cc pc = .ok (.invokevirtual index, 3)) (kk : ∀ (w : Option Value) (x2 : mj_X), Qf w x2 → mj_G v r (pc + 3) L (w.toList ++ S2) x2) : mj_G v r pc L S x := by
  obtain ⟨l0, D, cl, tys, NW, ad, wl, Aw⟩ := v
  obtain ⟨p, e, R, s, m, args, below, meth, c, A, cells, slots, Qw⟩ := r
  intro H locs ls hP hS hl'
  obtain ⟨c1, c2, c3, c4, c5, c6, c7, c8, rfl, c10, c11, c12⟩ := C
  subst hst
  refine mj_back (va_runV (As := As.map (mj_tr ad)) (rest := S2.map (mj_tr ad)) ⟨c1, c2, c3, c4, c5⟩ hc (cwV n c5 hg hw hR.2.2.1 hR.2.2.2 hd2 ⟨hR.1, hR.2.1⟩) ⟨mj_blind c12, va_recv c6 hP hcl he, fun U hU hW => ⟨rfl, by rw [hU]; exact hP, va_K.moved hW.alike c6, mj_N.warm c12 hW c7⟩⟩ rfl (by rw [List.length_map]; exact hn) (hl'.1.trans c3) (by rw [List.map_append, List.map_reverse]; rfl) (lv_room (by rw [mj_cats]; exact hcat)) hd c11) hS c10 (fun w x2 H1 locs1 hq hP1 hS1 => by
    have h9 := kk w x2 hq H1 locs1 ls hP1 hS1 hl'
    rw [List.map_append] at h9
    cases w <;> exact h9)
end MJD
theorem mj_args (ad : Nat → Nat) : ∀ (av : List Value) (i : Nat), lv_args i (av.map (mj_tr ad)) = (lv_args i av).map (fun q => (q.1, mj_tr ad q.2))
  | [], _ => rfl
  | a :: av, i => by
    show (i, mj_tr ad a) :: lv_args _ (av.map (mj_tr ad)) = (i, mj_tr ad a) :: _
    rw [mj_args ad av, mj_tr_cat]
theorem mj_enter {v : mj_V} {y : MethodName} {ws ws' : List Cond} {rm : Room} {av : List Value} {x : mj_X} {Qf : Option Value → mj_X → Prop} {cc : ByteArray} {maxL : Nat} {ret : Option FieldType} {L : List (Nat × Value)} (hok : mj_Ok v) (hy : plainName y.cls = true) (hw : ws = Cond.code y cc maxL ret :: ws') (hrm : rm.cells = 0 ∧ rm.slots = 0) (hlen : ∀ ad, (lg_sl (av.map (mj_tr ad))).length ≤ maxL) (hL : lv_args 0 av = L)
    (body : ∀ r, mj_Cx v r cc maxL y.cls ws rm → mj_Cr v r ret Qf → mj_G v r 0 L [] x) : mj_Ct v y ws rm av x Qf := by
  obtain ⟨l, D, cl, tys, NW, ad, wl, Aw⟩ := v
  refine Met.ofW (cc := cc) (maxL := maxL) (ret := ret) hy hw ?_
  intro p e s m args below meth c s₁ B hml hv
  obtain ⟨rfl, hP, hK, hN⟩ := hv
  have hl := lv_entry (av.map (mj_tr ad)) (n := maxL) (hlen ad)
  rw [lg_entry_eq]
  generalize (lg_sl (av.map (mj_tr ad)) ++ List.replicate (maxL - (lg_sl (av.map (mj_tr ad))).length) Slot.unset).toArray = ls at hl ⊢
  rw [mj_args, hL] at hl
  refine body (p, e, (headSpec ws rm).room, s, m, (av.map (mj_tr ad)).toArray, below, meth, c, Aw, 0, 0, MQ below (mj_Qc D cl ad wl Aw Qf) (av.map (mj_tr ad)).toArray s 0 0 Aw) ⟨B.exec, B.bytes, hml, findClass_of_methodNamed B.named, atoms_spec (ws := ws) B.pre, hK, hN, hok.1, rfl, fun _ h => h, ⟨Nat.zero_le _, Nat.zero_le _⟩, hok.2⟩ ⟨B.returns, B.notSynchronized, rfl, fun _ h => h⟩ s.heap [] ls hP va_S.rf ?_
  rw [hml]
  exact ⟨hl.1, hl.2.1, fun j w hj => hl.2.2 (j, mj_tr ad w) (List.mem_map.mpr ⟨(j, w), mj_lk_mem hj, rfl⟩)⟩
/-- posts by the kind of the answer, over the class's state (the reference's stays) and the other way round -/
def mj_iK (mm : mj_St) (Q : Int32 → mj_St → Prop) : Option Value → mj_X → Prop := fun w x => ∃ a k, w = some (.int a) ∧ x = (k, mm) ∧ Q a k
def mj_vK (mm : mj_St) (Q : mj_St → Prop) : Option Value → mj_X → Prop := fun w x => ∃ k, w = none ∧ x = (k, mm) ∧ Q k
def mj_aK (mm : mj_St) (Q : Option Nat → mj_St → Prop) : Option Value → mj_X → Prop := fun w x => ∃ a k, w = some (mj_rf a) ∧ x = (k, mm) ∧ Q a k
def mj_iM (kk : mj_St) (Q : Int32 → mj_St → Prop) : Option Value → mj_X → Prop := fun w x => ∃ a k, w = some (.int a) ∧ x = (kk, k) ∧ Q a k
def mj_vM (kk : mj_St) (Q : mj_St → Prop) : Option Value → mj_X → Prop := fun w x => ∃ k, w = none ∧ x = (kk, k) ∧ Q k

def mj_iR (x0 : mj_X) (Q : Int32 → Prop) : Option Value → mj_X → Prop := fun w x => ∃ a, w = some (.int a) ∧ x = x0 ∧ Q a
def mj_aR (x0 : mj_X) (Q : Option Nat → Prop) : Option Value → mj_X → Prop := fun w x => ∃ a, w = some (mj_rf a) ∧ x = x0 ∧ Q a
section MJE
variable {v : mj_V} {r : mj_R} {cc : ByteArray} {nL : Nat} {own : String} {Ts : List Cond} {rm : Room} {pc : Nat} {L : List (Nat × Value)} {S As S2 : List Value} {x : mj_X} {y : MethodName} {ws ws' : List Cond} {bytes : ByteArray} {maxL n : Nat} {ret : Option FieldType} {rm2 : Room} {index : Nat}
theorem mj_getI (C : mj_Cx v r cc nL own Ts rm) {C0 : String} {T : u_T} {N ci i q0 : Nat} {fs : List Value} (hin : ∀ w ∈ u_ws C0 T N, w ∈ Ts) (hc : v.2.2.1[ci]? = some (C0, T, N)) (he : (v.2.2.2.2.2.2.1 x)[q0]? = some (v.2.2.2.2.2.1 i, .inr (ci, fs))) (k : Nat) (hk : k < N) (hlink : Cond.fieldLink own index (T k).1 (T k).2.1 (T k).2.2.1 ∈ Ts) {a : Int32} (hv : fs[k]? = some (.int a)) (hd : decode cc pc = .ok (.getfield index, 3)) (h : mj_G v r (pc + 3) L (.int a :: S) x) : mj_G v r pc L (.ref i :: S) x := mj_get C hin hc he k hk hlink (a := .int a) hv hd h
theorem mj_getR (C : mj_Cx v r cc nL own Ts rm) {C0 : String} {T : u_T} {N ci i i2 q0 : Nat} {fs : List Value} (hin : ∀ w ∈ u_ws C0 T N, w ∈ Ts) (hc : v.2.2.1[ci]? = some (C0, T, N)) (he : (v.2.2.2.2.2.2.1 x)[q0]? = some (v.2.2.2.2.2.1 i, .inr (ci, fs))) (k : Nat) (hk : k < N) (hlink : Cond.fieldLink own index (T k).1 (T k).2.1 (T k).2.2.1 ∈ Ts) (hv : fs[k]? = some (.ref (v.2.2.2.2.2.1 i2))) (hd : decode cc pc = .ok (.getfield index, 3)) (h : mj_G v r (pc + 3) L (.ref i2 :: S) x) : mj_G v r pc L (.ref i :: S) x := mj_get C hin hc he k hk hlink (a := .ref i2) hv hd h
theorem mj_aretN {Qf : Option Value → mj_X → Prop} (C : mj_Cx v r cc nL own Ts rm) {C0 : String} (Z : mj_Cr v r (some (.object C0)) Qf) (hd : decode cc pc = .ok (.areturn, 1)) (h : Qf (some .null) x) : mj_G v r pc L [.null] x := mj_aret (a := none) C Z hd h
theorem mj_aretS {Qf : Option Value → mj_X → Prop} (C : mj_Cx v r cc nL own Ts rm) {C0 : String} (Z : mj_Cr v r (some (.object C0)) Qf) {a : Nat} (hd : decode cc pc = .ok (.areturn, 1)) (h : Qf (some (.ref a)) x) : mj_G v r pc L [.ref a] x := mj_aret (a := some a) C Z hd h
theorem mj_callS_iR (C : mj_Cx v r cc nL own Ts rm)  {Q : Int32 → Prop} (hc : mj_Ct v y (Cond.code y bytes maxL ret :: ws') rm2 As x (mj_iR x Q)) (hg : GoodIn Ts (wsS own index y (Cond.code y bytes maxL ret :: ws'))) (hd2 : y.cls = own ∧ y.cls ≠ "java/lang/invoke/MethodHandle" ∧ y.cls ≠ "java/lang/invoke/VarHandle" ∧ (parseMethodDescriptor y.desc).map (fun d => d.parameters.length) = some n) (hR : rm2.frames + 1 ≤ rm.frames ∧ 8 + (maxL + 11) + rm2.locals ≤ rm.locals ∧ rm2.cells = 0 ∧ rm2.slots = 0) (hn : As.length = n) (hst : S = As.reverse ++ S2) (hcat : (S2.map fun v => v.category).sum ≤ 8) (hd : decode cc pc = .ok (.invokestatic index, 3)) (kk : ∀ a : Int32, Q a → mj_G v r (pc + 3) L (.int a :: S2) x) : mj_G v r pc L S x := mj_callS C hc rfl hg hd2 hR hn hst hcat hd (fun w x2 hq => by obtain ⟨a, rfl, rfl, hq⟩ := hq; exact kk a hq)
theorem mj_callS_iWK (C : mj_Cx v r cc nL own Ts rm)  {k mm : mj_St} {Q : Int32 → mj_St → Prop} (hc : mj_Ct v y (Cond.code y bytes maxL ret :: ws') rm2 As (k, mm) (mj_iK mm Q)) (hg : GoodIn Ts (wsS own index y (Cond.code y bytes maxL ret :: ws'))) (hd2 : y.cls = own ∧ y.cls ≠ "java/lang/invoke/MethodHandle" ∧ y.cls ≠ "java/lang/invoke/VarHandle" ∧ (parseMethodDescriptor y.desc).map (fun d => d.parameters.length) = some n) (hR : rm2.frames + 1 ≤ rm.frames ∧ 8 + (maxL + 11) + rm2.locals ≤ rm.locals ∧ rm2.cells = 0 ∧ rm2.slots = 0) (hn : As.length = n) (hst : S = As.reverse ++ S2) (hcat : (S2.map fun v => v.category).sum ≤ 8) (hd : decode cc pc = .ok (.invokestatic index, 3)) (kk : ∀ (a : Int32) (k2 : mj_St), Q a k2 → mj_G v r (pc + 3) L (.int a :: S2) (k2, mm)) : mj_G v r pc L S (k, mm) := mj_callS C hc rfl hg hd2 hR hn hst hcat hd (fun w x2 hq => by obtain ⟨a, k2, rfl, rfl, hq⟩ := hq; exact kk a k2 hq)
theorem mj_callS_iWM (C : mj_Cx v r cc nL own Ts rm)  {k mm : mj_St} {Q : Int32 → mj_St → Prop} (hc : mj_Ct v y (Cond.code y bytes maxL ret :: ws') rm2 As (mm, k) (mj_iM mm Q)) (hg : GoodIn Ts (wsS own index y (Cond.code y bytes maxL ret :: ws'))) (hd2 : y.cls = own ∧ y.cls ≠ "java/lang/invoke/MethodHandle" ∧ y.cls ≠ "java/lang/invoke/VarHandle" ∧ (parseMethodDescriptor y.desc).map (fun d => d.parameters.length) = some n) (hR : rm2.frames + 1 ≤ rm.frames ∧ 8 + (maxL + 11) + rm2.locals ≤ rm.locals ∧ rm2.cells = 0 ∧ rm2.slots = 0) (hn : As.length = n) (hst : S = As.reverse ++ S2) (hcat : (S2.map fun v => v.category).sum ≤ 8) (hd : decode cc pc = .ok (.invokestatic index, 3)) (kk : ∀ (a : Int32) (k2 : mj_St), Q a k2 → mj_G v r (pc + 3) L (.int a :: S2) (mm, k2)) : mj_G v r pc L S (mm, k) := mj_callS C hc rfl hg hd2 hR hn hst hcat hd (fun w x2 hq => by obtain ⟨a, k2, rfl, rfl, hq⟩ := hq; exact kk a k2 hq)
theorem mj_callS_vWK (C : mj_Cx v r cc nL own Ts rm)  {k mm : mj_St} {Q : mj_St → Prop} (hc : mj_Ct v y (Cond.code y bytes maxL ret :: ws') rm2 As (k, mm) (mj_vK mm Q)) (hg : GoodIn Ts (wsS own index y (Cond.code y bytes maxL ret :: ws'))) (hd2 : y.cls = own ∧ y.cls ≠ "java/lang/invoke/MethodHandle" ∧ y.cls ≠ "java/lang/invoke/VarHandle" ∧ (parseMethodDescriptor y.desc).map (fun d => d.parameters.length) = some n) (hR : rm2.frames + 1 ≤ rm.frames ∧ 8 + (maxL + 11) + rm2.locals ≤ rm.locals ∧ rm2.cells = 0 ∧ rm2.slots = 0) (hn : As.length = n) (hst : S = As.reverse ++ S2) (hcat : (S2.map fun v => v.category).sum ≤ 8) (hd : decode cc pc = .ok (.invokestatic index, 3)) (kk : ∀ k2 : mj_St, Q k2 → mj_G v r (pc + 3) L S2 (k2, mm)) : mj_G v r pc L S (k, mm) := mj_callS C hc rfl hg hd2 hR hn hst hcat hd (fun w x2 hq => by obtain ⟨k2, rfl, rfl, hq⟩ := hq; exact kk k2 hq)
theorem mj_callS_vWM (C : mj_Cx v r cc nL own Ts rm)  {k mm : mj_St} {Q : mj_St → Prop} (hc : mj_Ct v y (Cond.code y bytes maxL ret :: ws') rm2 As (mm, k) (mj_vM mm Q)) (hg : GoodIn Ts (wsS own index y (Cond.code y bytes maxL ret :: ws'))) (hd2 : y.cls = own ∧ y.cls ≠ "java/lang/invoke/MethodHandle" ∧ y.cls ≠ "java/lang/invoke/VarHandle" ∧ (parseMethodDescriptor y.desc).map (fun d => d.parameters.length) = some n) (hR : rm2.frames + 1 ≤ rm.frames ∧ 8 + (maxL + 11) + rm2.locals ≤ rm.locals ∧ rm2.cells = 0 ∧ rm2.slots = 0) (hn : As.length = n) (hst : S = As.reverse ++ S2) (hcat : (S2.map fun v => v.category).sum ≤ 8) (hd : decode cc pc = .ok (.invokestatic index, 3)) (kk : ∀ k2 : mj_St, Q k2 → mj_G v r (pc + 3) L S2 (mm, k2)) : mj_G v r pc L S (mm, k) := mj_callS C hc rfl hg hd2 hR hn hst hcat hd (fun w x2 hq => by obtain ⟨k2, rfl, rfl, hq⟩ := hq; exact kk k2 hq)
theorem mj_callS_aR (C : mj_Cx v r cc nL own Ts rm)  {Q : Option Nat → Prop} (hc : mj_Ct v y (Cond.code y bytes maxL ret :: ws') rm2 As x (mj_aR x Q)) (hg : GoodIn Ts (wsS own index y (Cond.code y bytes maxL ret :: ws'))) (hd2 : y.cls = own ∧ y.cls ≠ "java/lang/invoke/MethodHandle" ∧ y.cls ≠ "java/lang/invoke/VarHandle" ∧ (parseMethodDescriptor y.desc).map (fun d => d.parameters.length) = some n) (hR : rm2.frames + 1 ≤ rm.frames ∧ 8 + (maxL + 11) + rm2.locals ≤ rm.locals ∧ rm2.cells = 0 ∧ rm2.slots = 0) (hn : As.length = n) (hst : S = As.reverse ++ S2) (hcat : (S2.map fun v => v.category).sum ≤ 8) (hd : decode cc pc = .ok (.invokestatic index, 3)) (kn : Q none → mj_G v r (pc + 3) L (.null :: S2) x) (ks : ∀ o : Nat, Q (some o) → mj_G v r (pc + 3) L (.ref o :: S2) x) : mj_G v r pc L S x := mj_callS C hc rfl hg hd2 hR hn hst hcat hd (fun w x2 hq => by obtain ⟨a, rfl, rfl, hq⟩ := hq; cases a with | none => exact kn hq | some o => exact ks o hq)
theorem mj_callSN_iR (C : mj_Cx v r cc nL own Ts rm)  {Q : Int32 → Prop} (hc : mj_Ct v y (Cond.code y bytes maxL ret :: ws') rm2 As x (mj_iR x Q)) (hg : GoodIn Ts (Cond.code y bytes maxL ret :: ws') ∧ Cond.initialized y.cls ∈ Ts ∧ Cond.static y ∈ Ts) {host : String} (hnw : Cond.methodLinkNest own index y host ∈ v.2.2.2.2.1) (hd2 : y.cls ≠ "java/lang/invoke/MethodHandle" ∧ y.cls ≠ "java/lang/invoke/VarHandle" ∧ (parseMethodDescriptor y.desc).map (fun d => d.parameters.length) = some n) (hR : rm2.frames + 1 ≤ rm.frames ∧ 8 + (maxL + 11) + rm2.locals ≤ rm.locals ∧ rm2.cells = 0 ∧ rm2.slots = 0) (hn : As.length = n) (hst : S = As.reverse ++ S2) (hcat : (S2.map fun v => v.category).sum ≤ 8) (hd : decode cc pc = .ok (.invokestatic index, 3)) (kk : ∀ a : Int32, Q a → mj_G v r (pc + 3) L (.int a :: S2) x) : mj_G v r pc L S x := mj_callSN C hc rfl hg.1 hnw hg.2.1 hg.2.2 hd2 hR hn hst hcat hd (fun w x2 hq => by obtain ⟨a, rfl, rfl, hq⟩ := hq; exact kk a hq)
theorem mj_callSN_iWK (C : mj_Cx v r cc nL own Ts rm)  {k mm : mj_St} {Q : Int32 → mj_St → Prop} (hc : mj_Ct v y (Cond.code y bytes maxL ret :: ws') rm2 As (k, mm) (mj_iK mm Q)) (hg : GoodIn Ts (Cond.code y bytes maxL ret :: ws') ∧ Cond.initialized y.cls ∈ Ts ∧ Cond.static y ∈ Ts) {host : String} (hnw : Cond.methodLinkNest own index y host ∈ v.2.2.2.2.1) (hd2 : y.cls ≠ "java/lang/invoke/MethodHandle" ∧ y.cls ≠ "java/lang/invoke/VarHandle" ∧ (parseMethodDescriptor y.desc).map (fun d => d.parameters.length) = some n) (hR : rm2.frames + 1 ≤ rm.frames ∧ 8 + (maxL + 11) + rm2.locals ≤ rm.locals ∧ rm2.cells = 0 ∧ rm2.slots = 0) (hn : As.length = n) (hst : S = As.reverse ++ S2) (hcat : (S2.map fun v => v.category).sum ≤ 8) (hd : decode cc pc = .ok (.invokestatic index, 3)) (kk : ∀ (a : Int32) (k2 : mj_St), Q a k2 → mj_G v r (pc + 3) L (.int a :: S2) (k2, mm)) : mj_G v r pc L S (k, mm) := mj_callSN C hc rfl hg.1 hnw hg.2.1 hg.2.2 hd2 hR hn hst hcat hd (fun w x2 hq => by obtain ⟨a, k2, rfl, rfl, hq⟩ := hq; exact kk a k2 hq)
theorem mj_callSN_iWM (C : mj_Cx v r cc nL own Ts rm)  {k mm : mj_St} {Q : Int32 → mj_St → Prop} (hc : mj_Ct v y (Cond.code y bytes maxL ret :: ws') rm2 As (mm, k) (mj_iM mm Q)) (hg : GoodIn Ts (Cond.code y bytes maxL ret :: ws') ∧ Cond.initialized y.cls ∈ Ts ∧ Cond.static y ∈ Ts) {host : String} (hnw : Cond.methodLinkNest own index y host ∈ v.2.2.2.2.1) (hd2 : y.cls ≠ "java/lang/invoke/MethodHandle" ∧ y.cls ≠ "java/lang/invoke/VarHandle" ∧ (parseMethodDescriptor y.desc).map (fun d => d.parameters.length) = some n) (hR : rm2.frames + 1 ≤ rm.frames ∧ 8 + (maxL + 11) + rm2.locals ≤ rm.locals ∧ rm2.cells = 0 ∧ rm2.slots = 0) (hn : As.length = n) (hst : S = As.reverse ++ S2) (hcat : (S2.map fun v => v.category).sum ≤ 8) (hd : decode cc pc = .ok (.invokestatic index, 3)) (kk : ∀ (a : Int32) (k2 : mj_St), Q a k2 → mj_G v r (pc + 3) L (.int a :: S2) (mm, k2)) : mj_G v r pc L S (mm, k) := mj_callSN C hc rfl hg.1 hnw hg.2.1 hg.2.2 hd2 hR hn hst hcat hd (fun w x2 hq => by obtain ⟨a, k2, rfl, rfl, hq⟩ := hq; exact kk a k2 hq)
theorem mj_callSN_vWK (C : mj_Cx v r cc nL own Ts rm)  {k mm : mj_St} {Q : mj_St → Prop} (hc : mj_Ct v y (Cond.code y bytes maxL ret :: ws') rm2 As (k, mm) (mj_vK mm Q)) (hg : GoodIn Ts (Cond.code y bytes maxL ret :: ws') ∧ Cond.initialized y.cls ∈ Ts ∧ Cond.static y ∈ Ts) {host : String} (hnw : Cond.methodLinkNest own index y host ∈ v.2.2.2.2.1) (hd2 : y.cls ≠ "java/lang/invoke/MethodHandle" ∧ y.cls ≠ "java/lang/invoke/VarHandle" ∧ (parseMethodDescriptor y.desc).map (fun d => d.parameters.length) = some n) (hR : rm2.frames + 1 ≤ rm.frames ∧ 8 + (maxL + 11) + rm2.locals ≤ rm.locals ∧ rm2.cells = 0 ∧ rm2.slots = 0) (hn : As.length = n) (hst : S = As.reverse ++ S2) (hcat : (S2.map fun v => v.category).sum ≤ 8) (hd : decode cc pc = .ok (.invokestatic index, 3)) (kk : ∀ k2 : mj_St, Q k2 → mj_G v r (pc + 3) L S2 (k2, mm)) : mj_G v r pc L S (k, mm) := mj_callSN C hc rfl hg.1 hnw hg.2.1 hg.2.2 hd2 hR hn hst hcat hd (fun w x2 hq => by obtain ⟨k2, rfl, rfl, hq⟩ := hq; exact kk k2 hq)
theorem mj_callSN_vWM (C : mj_Cx v r cc nL own Ts rm)  {k mm : mj_St} {Q : mj_St → Prop} (hc : mj_Ct v y (Cond.code y bytes maxL ret :: ws') rm2 As (mm, k) (mj_vM mm Q)) (hg : GoodIn Ts (Cond.code y bytes maxL ret :: ws') ∧ Cond.initialized y.cls ∈ Ts ∧ Cond.static y ∈ Ts) {host : String} (hnw : Cond.methodLinkNest own index y host ∈ v.2.2.2.2.1) (hd2 : y.cls ≠ "java/lang/invoke/MethodHandle" ∧ y.cls ≠ "java/lang/invoke/VarHandle" ∧ (parseMethodDescriptor y.desc).map (fun d => d.parameters.length) = some n) (hR : rm2.frames + 1 ≤ rm.frames ∧ 8 + (maxL + 11) + rm2.locals ≤ rm.locals ∧ rm2.cells = 0 ∧ rm2.slots = 0) (hn : As.length = n) (hst : S = As.reverse ++ S2) (hcat : (S2.map fun v => v.category).sum ≤ 8) (hd : decode cc pc = .ok (.invokestatic index, 3)) (kk : ∀ k2 : mj_St, Q k2 → mj_G v r (pc + 3) L S2 (mm, k2)) : mj_G v r pc L S (mm, k) := mj_callSN C hc rfl hg.1 hnw hg.2.1 hg.2.2 hd2 hR hn hst hcat hd (fun w x2 hq => by obtain ⟨k2, rfl, rfl, hq⟩ := hq; exact kk k2 hq)
theorem mj_callSN_aR (C : mj_Cx v r cc nL own Ts rm)  {Q : Option Nat → Prop} (hc : mj_Ct v y (Cond.code y bytes maxL ret :: ws') rm2 As x (mj_aR x Q)) (hg : GoodIn Ts (Cond.code y bytes maxL ret :: ws') ∧ Cond.initialized y.cls ∈ Ts ∧ Cond.static y ∈ Ts) {host : String} (hnw : Cond.methodLinkNest own index y host ∈ v.2.2.2.2.1) (hd2 : y.cls ≠ "java/lang/invoke/MethodHandle" ∧ y.cls ≠ "java/lang/invoke/VarHandle" ∧ (parseMethodDescriptor y.desc).map (fun d => d.parameters.length) = some n) (hR : rm2.frames + 1 ≤ rm.frames ∧ 8 + (maxL + 11) + rm2.locals ≤ rm.locals ∧ rm2.cells = 0 ∧ rm2.slots = 0) (hn : As.length = n) (hst : S = As.reverse ++ S2) (hcat : (S2.map fun v => v.category).sum ≤ 8) (hd : decode cc pc = .ok (.invokestatic index, 3)) (kn : Q none → mj_G v r (pc + 3) L (.null :: S2) x) (ks : ∀ o : Nat, Q (some o) → mj_G v r (pc + 3) L (.ref o :: S2) x) : mj_G v r pc L S x := mj_callSN C hc rfl hg.1 hnw hg.2.1 hg.2.2 hd2 hR hn hst hcat hd (fun w x2 hq => by obtain ⟨a, rfl, rfl, hq⟩ := hq; cases a with | none => exact kn hq | some o => exact ks o hq)
theorem mj_callV_iR (C : mj_Cx v r cc nL own Ts rm) {C0 : String} {T : u_T} {N ci i q0 : Nat} {fs : List Value} {Q : Int32 → Prop} (hc : mj_Ct v y (Cond.code y bytes maxL ret :: ws') rm2 (.ref i :: As) x (mj_iR x Q)) (hg : GoodIn Ts (wsV own index C0 y (Cond.code y bytes maxL ret :: ws'))) (hcl : v.2.2.1[ci]? = some (C0, T, N)) (he : (v.2.2.2.2.2.2.1 x)[q0]? = some (v.2.2.2.2.2.1 i, .inr (ci, fs))) (hd2 : y.cls = C0 ∧ y.cls ≠ "java/lang/invoke/MethodHandle" ∧ y.cls ≠ "java/lang/invoke/VarHandle" ∧ (parseMethodDescriptor y.desc).map (fun d => d.parameters.length) = some n) (hR : rm2.frames + 1 ≤ rm.frames ∧ 8 + (maxL + 11) + rm2.locals ≤ rm.locals ∧ rm2.cells = 0 ∧ rm2.slots = 0) (hn : As.length = n) (hst : S = As.reverse ++ .ref i :: S2) (hcat : (S2.map fun v => v.category).sum ≤ 8) (hd : decode cc pc = .ok (.invokevirtual index, 3)) (kk : ∀ a : Int32, Q a → mj_G v r (pc + 3) L (.int a :: S2) x) : mj_G v r pc L S x := mj_callV C hc rfl hg hcl he hd2 hR hn hst hcat hd (fun w x2 hq => by obtain ⟨a, rfl, rfl, hq⟩ := hq; exact kk a hq)
theorem mj_callV_iWK (C : mj_Cx v r cc nL own Ts rm) {C0 : String} {T : u_T} {N ci i q0 : Nat} {fs : List Value} {k mm : mj_St} {Q : Int32 → mj_St → Prop} (hc : mj_Ct v y (Cond.code y bytes maxL ret :: ws') rm2 (.ref i :: As) (k, mm) (mj_iK mm Q)) (hg : GoodIn Ts (wsV own index C0 y (Cond.code y bytes maxL ret :: ws'))) (hcl : v.2.2.1[ci]? = some (C0, T, N)) (he : (v.2.2.2.2.2.2.1 (k, mm))[q0]? = some (v.2.2.2.2.2.1 i, .inr (ci, fs))) (hd2 : y.cls = C0 ∧ y.cls ≠ "java/lang/invoke/MethodHandle" ∧ y.cls ≠ "java/lang/invoke/VarHandle" ∧ (parseMethodDescriptor y.desc).map (fun d => d.parameters.length) = some n) (hR : rm2.frames + 1 ≤ rm.frames ∧ 8 + (maxL + 11) + rm2.locals ≤ rm.locals ∧ rm2.cells = 0 ∧ rm2.slots = 0) (hn : As.length = n) (hst : S = As.reverse ++ .ref i :: S2) (hcat : (S2.map fun v => v.category).sum ≤ 8) (hd : decode cc pc = .ok (.invokevirtual index, 3)) (kk : ∀ (a : Int32) (k2 : mj_St), Q a k2 → mj_G v r (pc + 3) L (.int a :: S2) (k2, mm)) : mj_G v r pc L S (k, mm) := mj_callV C hc rfl hg hcl he hd2 hR hn hst hcat hd (fun w x2 hq => by obtain ⟨a, k2, rfl, rfl, hq⟩ := hq; exact kk a k2 hq)
theorem mj_callV_iWM (C : mj_Cx v r cc nL own Ts rm) {C0 : String} {T : u_T} {N ci i q0 : Nat} {fs : List Value} {k mm : mj_St} {Q : Int32 → mj_St → Prop} (hc : mj_Ct v y (Cond.code y bytes maxL ret :: ws') rm2 (.ref i :: As) (mm, k) (mj_iM mm Q)) (hg : GoodIn Ts (wsV own index C0 y (Cond.code y bytes maxL ret :: ws'))) (hcl : v.2.2.1[ci]? = some (C0, T, N)) (he : (v.2.2.2.2.2.2.1 (mm, k))[q0]? = some (v.2.2.2.2.2.1 i, .inr (ci, fs))) (hd2 : y.cls = C0 ∧ y.cls ≠ "java/lang/invoke/MethodHandle" ∧ y.cls ≠ "java/lang/invoke/VarHandle" ∧ (parseMethodDescriptor y.desc).map (fun d => d.parameters.length) = some n) (hR : rm2.frames + 1 ≤ rm.frames ∧ 8 + (maxL + 11) + rm2.locals ≤ rm.locals ∧ rm2.cells = 0 ∧ rm2.slots = 0) (hn : As.length = n) (hst : S = As.reverse ++ .ref i :: S2) (hcat : (S2.map fun v => v.category).sum ≤ 8) (hd : decode cc pc = .ok (.invokevirtual index, 3)) (kk : ∀ (a : Int32) (k2 : mj_St), Q a k2 → mj_G v r (pc + 3) L (.int a :: S2) (mm, k2)) : mj_G v r pc L S (mm, k) := mj_callV C hc rfl hg hcl he hd2 hR hn hst hcat hd (fun w x2 hq => by obtain ⟨a, k2, rfl, rfl, hq⟩ := hq; exact kk a k2 hq)
theorem mj_callV_vWK (C : mj_Cx v r cc nL own Ts rm) {C0 : String} {T : u_T} {N ci i q0 : Nat} {fs : List Value} {k mm : mj_St} {Q : mj_St → Prop} (hc : mj_Ct v y (Cond.code y bytes maxL ret :: ws') rm2 (.ref i :: As) (k, mm) (mj_vK mm Q)) (hg : GoodIn Ts (wsV own index C0 y (Cond.code y bytes maxL ret :: ws'))) (hcl : v.2.2.1[ci]? = some (C0, T, N)) (he : (v.2.2.2.2.2.2.1 (k, mm))[q0]? = some (v.2.2.2.2.2.1 i, .inr (ci, fs))) (hd2 : y.cls = C0 ∧ y.cls ≠ "java/lang/invoke/MethodHandle" ∧ y.cls ≠ "java/lang/invoke/VarHandle" ∧ (parseMethodDescriptor y.desc).map (fun d => d.parameters.length) = some n) (hR : rm2.frames + 1 ≤ rm.frames ∧ 8 + (maxL + 11) + rm2.locals ≤ rm.locals ∧ rm2.cells = 0 ∧ rm2.slots = 0) (hn : As.length = n) (hst : S = As.reverse ++ .ref i :: S2) (hcat : (S2.map fun v => v.category).sum ≤ 8) (hd : decode cc pc = .ok (.invokevirtual index, 3)) (kk : ∀ k2 : mj_St, Q k2 → mj_G v r (pc + 3) L S2 (k2, mm)) : mj_G v r pc L S (k, mm) := mj_callV C hc rfl hg hcl he hd2 hR hn hst hcat hd (fun w x2 hq => by obtain ⟨k2, rfl, rfl, hq⟩ := hq; exact kk k2 hq)
theorem mj_callV_vWM (C : mj_Cx v r cc nL own Ts rm) {C0 : String} {T : u_T} {N ci i q0 : Nat} {fs : List Value} {k mm : mj_St} {Q : mj_St → Prop} (hc : mj_Ct v y (Cond.code y bytes maxL ret :: ws') rm2 (.ref i :: As) (mm, k) (mj_vM mm Q)) (hg : GoodIn Ts (wsV own index C0 y (Cond.code y bytes maxL ret :: ws'))) (hcl : v.2.2.1[ci]? = some (C0, T, N)) (he : (v.2.2.2.2.2.2.1 (mm, k))[q0]? = some (v.2.2.2.2.2.1 i, .inr (ci, fs))) (hd2 : y.cls = C0 ∧ y.cls ≠ "java/lang/invoke/MethodHandle" ∧ y.cls ≠ "java/lang/invoke/VarHandle" ∧ (parseMethodDescriptor y.desc).map (fun d => d.parameters.length) = some n) (hR : rm2.frames + 1 ≤ rm.frames ∧ 8 + (maxL + 11) + rm2.locals ≤ rm.locals ∧ rm2.cells = 0 ∧ rm2.slots = 0) (hn : As.length = n) (hst : S = As.reverse ++ .ref i :: S2) (hcat : (S2.map fun v => v.category).sum ≤ 8) (hd : decode cc pc = .ok (.invokevirtual index, 3)) (kk : ∀ k2 : mj_St, Q k2 → mj_G v r (pc + 3) L S2 (mm, k2)) : mj_G v r pc L S (mm, k) := mj_callV C hc rfl hg hcl he hd2 hR hn hst hcat hd (fun w x2 hq => by obtain ⟨k2, rfl, rfl, hq⟩ := hq; exact kk k2 hq)
theorem mj_callV_aR (C : mj_Cx v r cc nL own Ts rm) {C0 : String} {T : u_T} {N ci i q0 : Nat} {fs : List Value} {Q : Option Nat → Prop} (hc : mj_Ct v y (Cond.code y bytes maxL ret :: ws') rm2 (.ref i :: As) x (mj_aR x Q)) (hg : GoodIn Ts (wsV own index C0 y (Cond.code y bytes maxL ret :: ws'))) (hcl : v.2.2.1[ci]? = some (C0, T, N)) (he : (v.2.2.2.2.2.2.1 x)[q0]? = some (v.2.2.2.2.2.1 i, .inr (ci, fs))) (hd2 : y.cls = C0 ∧ y.cls ≠ "java/lang/invoke/MethodHandle" ∧ y.cls ≠ "java/lang/invoke/VarHandle" ∧ (parseMethodDescriptor y.desc).map (fun d => d.parameters.length) = some n) (hR : rm2.frames + 1 ≤ rm.frames ∧ 8 + (maxL + 11) + rm2.locals ≤ rm.locals ∧ rm2.cells = 0 ∧ rm2.slots = 0) (hn : As.length = n) (hst : S = As.reverse ++ .ref i :: S2) (hcat : (S2.map fun v => v.category).sum ≤ 8) (hd : decode cc pc = .ok (.invokevirtual index, 3)) (kn : Q none → mj_G v r (pc + 3) L (.null :: S2) x) (ks : ∀ o : Nat, Q (some o) → mj_G v r (pc + 3) L (.ref o :: S2) x) : mj_G v r pc L S x := mj_callV C hc rfl hg hcl he hd2 hR hn hst hcat hd (fun w x2 hq => by obtain ⟨a, rfl, rfl, hq⟩ := hq; cases a with | none => exact kn hq | some o => exact ks o hq)
end MJE
theorem mj_enterA {Tall : List Cond} {v : mj_V} {y : MethodName} {rm : Room} {av : List Value} {x : mj_X} {Qf : Option Value → mj_X → Prop} {cc : ByteArray} {maxL : Nat} {ret : Option FieldType} {L : List (Nat × Value)} (hok : mj_Ok v) (hy : plainName y.cls = true) (hrm : rm.cells = 0 ∧ rm.slots = 0) (hlen : ∀ ad, (lg_sl (av.map (mj_tr ad))).length ≤ maxL) (hL : lv_args 0 av = L)
    (body : ∀ r, mj_Cx v r cc maxL y.cls Tall rm → mj_Cr v r ret Qf → mj_G v r 0 L [] x) : mj_Ct v y (Cond.code y cc maxL ret :: Tall) rm av x Qf :=
  mj_enter hok hy rfl hrm hlen hL (fun r C Z => body r (by
    obtain ⟨l0, D, cl, tys, NW, ad, wl, Aw⟩ := v
    obtain ⟨p, e, R, s, m, args, below, meth, c, A, cells, slots, Qw⟩ := r
    obtain ⟨c1, c2, c3, c4, c5, c6⟩ := C
    exact ⟨c1, c2, c3, c4, fun w hw => c5 w (List.mem_cons_of_mem _ hw), c6⟩) Z)

/-! ONE ROW AN INSTRUCTION, over rp_G -/
theorem rp_rvr (E : rp_E) {k : Nat} (h : k < 170) : rp_rv E (.ref k) = .ref (E.2.2.1 k) := by
  show Value.ref (if k < 1000 then _ else _) = _
  rw [if_pos (by omega)]
theorem rp_rvs (E : rp_E) (j : Nat) : rp_rv E (.ref (1000 + j)) = .ref (E.2.2.2.2 j) := by
  show Value.ref (if 1000 + j < 1000 then _ else E.2.2.2.2 (1000 + j - 1000)) = _
  rw [if_neg (by omega), show 1000 + j - 1000 = j by omega]
theorem rp_cat (E : rp_E) (v : Value) : (rp_rv E v).category = v.category := by
  cases v <;> rfl
theorem rp_cats (E : rp_E) (l : List Value) : ((l.map (rp_rv E)).map fun v => v.category).sum = (l.map fun v => v.category).sum := by
  rw [List.map_map]
  congr 1
  exact List.map_congr_left (fun v _ => rp_cat E v)
def rp_lv (E : rp_E) (L : List Value) : List (Nat × Value) := (List.range L.length).filterMap (fun i => match L[i]? with
  | some Value.null => none
  | some v => some (i, rp_rv E v)
  | none => none)
theorem rp_lv_mem {E : rp_E} {L : List Value} {q : Nat × Value} : q ∈ rp_lv E L ↔ ∃ v, L[q.1]? = some v ∧ v ≠ .null ∧ q.2 = rp_rv E v := by
  unfold rp_lv
  rw [List.mem_filterMap]
  constructor
  · rintro ⟨i, hi, h⟩
    cases hL : L[i]? with
    | none => rw [hL] at h; cases h
    | some v =>
      rw [hL] at h
      cases v <;> first | (cases h; done) | (cases h; exact ⟨_, hL, (fun z => by cases z), rfl⟩)
  · rintro ⟨v, h1, h2, h3⟩
    refine ⟨q.1, List.mem_range.mpr (List.getElem?_eq_some_iff.mp h1).1, ?_⟩
    rw [h1]
    obtain ⟨i, w⟩ := q
    simp only at h3
    subst h3
    cases v <;> first | exact absurd rfl h2 | rfl
theorem rp_L.has {E : rp_E} {ls : Array Slot} {nL : Nat} {L : List Value} (h : rp_L E ls nL L) : lv_has ls nL (rp_lv E L) := by
  refine ⟨h.1, h.2.1, fun q hq => ?_⟩
  obtain ⟨v, h1, h2, h3⟩ := rp_lv_mem.mp hq
  rw [h3]
  exact h.2.2 q.1 v h1 h2
theorem rp_L.of {E : rp_E} {ls : Array Slot} {nL : Nat} {L : List Value} (h : lv_has ls nL (rp_lv E L)) : rp_L E ls nL L :=
  ⟨h.1, h.2.1, fun i v h1 h2 => h.2.2 (i, rp_rv E v) (rp_lv_mem.mpr ⟨v, h1, h2, rfl⟩)⟩
/-- no long stands just ahead of local i -/
def rp_nl (L : List Value) (i : Nat) : Bool := match i with
  | 0 => true
  | j + 1 => match L[j]? with
    | some v => v.category == 1
    | none => true
theorem rp_nl_use {E : rp_E} {L : List Value} {i j : Nat} {v : Value} (h : rp_nl L i = true) (hj : j + 1 = i) (hv : L[j]? = some v) : (rp_rv E v).category = 1 := by
  subst hj
  rw [rp_cat]
  simpa [rp_nl, hv] using h
theorem rp_L_set {E : rp_E} {ls : Array Slot} {nL i : Nat} {L : List Value} {x : Int32} (hnl : rp_nl L i = true) (h : lv_has ls nL ((i, Value.int x) :: (rp_lv E L).filter (fun q => !(q.1 == i) && !(q.1 + 1 == i && q.2.category == 2)))) : rp_L E ls nL (L.set i (.int x)) := by
  refine ⟨h.1, h.2.1, fun j v h1 h2 => ?_⟩
  by_cases hj : i = j
  · subst hj
    have hl : i < L.length := by
      have := (List.getElem?_eq_some_iff.mp h1).1
      simpa using this
    rw [List.getElem?_set_self hl] at h1
    cases h1
    exact h.2.2 (i, .int x) List.mem_cons_self
  · rw [List.getElem?_set_ne hj] at h1
    refine h.2.2 (j, rp_rv E v) (List.mem_cons_of_mem _ (List.mem_filter.mpr ⟨rp_lv_mem.mpr ⟨v, h1, h2, rfl⟩, ?_⟩))
    have e1 : (j == i) = false := by simpa using fun z => hj z.symm
    by_cases hq : j + 1 = i
    · have := rp_nl_use (E := E) hnl hq h1
      simp [e1, this]
    · simp [e1, hq]
theorem rp_L_setl {E : rp_E} {ls : Array Slot} {nL i : Nat} {L : List Value} {x : Int64} (hnl : rp_nl L i = true) (h : lv_has ls nL ((i, Value.long x) :: (rp_lv E L).filter (fun q => !(q.1 == i) && (!(q.1 == i + 1) && !(q.1 + 1 == i && q.2.category == 2))))) : rp_L E ls nL ((L.set i (.long x)).set (i + 1) .null) := by
  refine ⟨h.1, h.2.1, fun j v h1 h2 => ?_⟩
  by_cases hk : i + 1 = j
  · subst hk
    rw [List.getElem?_set] at h1
    simp only [if_true] at h1
    split at h1
    · cases h1
      exact absurd rfl h2
    · cases h1
  rw [List.getElem?_set_ne hk] at h1
  by_cases hj : i = j
  · subst hj
    have hl : i < L.length := by
      have := (List.getElem?_eq_some_iff.mp h1).1
      simpa using this
    rw [List.getElem?_set_self hl] at h1
    cases h1
    exact h.2.2 (i, .long x) List.mem_cons_self
  · rw [List.getElem?_set_ne hj] at h1
    refine h.2.2 (j, rp_rv E v) (List.mem_cons_of_mem _ (List.mem_filter.mpr ⟨rp_lv_mem.mpr ⟨v, h1, h2, rfl⟩, ?_⟩))
    have e1 : (j == i) = false := by simpa using fun z => hj z.symm
    have e2 : (j == i + 1) = false := by simpa using fun z => hk z.symm
    by_cases hq : j + 1 = i
    · have := rp_nl_use (E := E) hnl hq h1
      simp [e1, e2, this]
    · simp [e1, e2, hq]
section RPO
variable {E : rp_E} {Y : rp_Y} {post : Option Int32 → rp_M → Prop} {pc : Nat} {L st : List Value} {M : rp_M}
theorem ok_iconst {n : Int} {v : Int32} (hd : decode Y.2.1 pc = .ok (.iconst n, 1)) (hv : Int32.ofInt n = v) (kk : rp_G E Y post (pc + 1) L (.int v :: st) M) : rp_G E Y post pc L st M :=
  fun p e s m args below meth c H locs ls X => lv_iconst X.1.1 X.1.2.1 hd hv (kk p e s m args below meth c H locs ls X)
theorem ok_bipush {n : Int} {v : Int32} (hd : decode Y.2.1 pc = .ok (.bipush n, 2)) (hv : (Int8.ofInt n).toInt32 = v) (kk : rp_G E Y post (pc + 2) L (.int v :: st) M) : rp_G E Y post pc L st M :=
  fun p e s m args below meth c H locs ls X => lv_bipush X.1.1 X.1.2.1 hd hv (kk p e s m args below meth c H locs ls X)
theorem ok_sipush {n : Int} {v : Int32} (hd : decode Y.2.1 pc = .ok (.sipush n, 3)) (hv : (Int16.ofInt n).toInt32 = v) (kk : rp_G E Y post (pc + 3) L (.int v :: st) M) : rp_G E Y post pc L st M :=
  fun p e s m args below meth c H locs ls X => lv_sipush X.1.1 X.1.2.1 hd hv (kk p e s m args below meth c H locs ls X)
theorem ok_ldc {i : Nat} {v : Int32} (hw : Cond.constant Y.1.cls i v ∈ Y.2.2.2.2.1) (hd : decode Y.2.1 pc = .ok (.ldc i, 2)) (kk : rp_G E Y post (pc + 2) L (.int v :: st) M) : rp_G E Y post pc L st M :=
  fun p e s m args below meth c H locs ls X => lv_ldc X.1.1 X.1.2.1 X.1.2.2.2.2.2.1 (X.1.2.2.2.2.2.2.1 _ hw) hd (kk p e s m args below meth c H locs ls X)
theorem ok_ldcw {i : Nat} {v : Int32} (hw : Cond.constant Y.1.cls i v ∈ Y.2.2.2.2.1) (hd : decode Y.2.1 pc = .ok (.ldc_w i, 3)) (kk : rp_G E Y post (pc + 3) L (.int v :: st) M) : rp_G E Y post pc L st M :=
  fun p e s m args below meth c H locs ls X => lv_ldcw X.1.1 X.1.2.1 X.1.2.2.2.2.2.1 (X.1.2.2.2.2.2.2.1 _ hw) hd (kk p e s m args below meth c H locs ls X)
theorem ok_lconst {n : Fin 2} {v : Int64} (hd : decode Y.2.1 pc = .ok (.lconst n, 1)) (hv : Int64.ofNat (n : Nat) = v) (kk : rp_G E Y post (pc + 1) L (.long v :: st) M) : rp_G E Y post pc L st M :=
  fun p e s m args below meth c H locs ls X => lv_lconst X.1.1 X.1.2.1 hd hv (kk p e s m args below meth c H locs ls X)
theorem ok_iload_n {k : Fin 4} {i : Nat} {x : Int32} (hd : decode Y.2.1 pc = .ok (.iload_n k, 1)) (hi : (k : Nat) = i) (hl : L[i]? = some (.int x)) (kk : rp_G E Y post (pc + 1) L (.int x :: st) M) : rp_G E Y post pc L st M :=
  fun p e s m args below meth c H locs ls X => lv_iload_n X.1.1 X.1.2.1 hd hi (X.2.2.2.2 i _ hl (fun z => by cases z)) (kk p e s m args below meth c H locs ls X)
theorem ok_iload {i : Nat} {x : Int32} (hd : decode Y.2.1 pc = .ok (.iload i, 2)) (hl : L[i]? = some (.int x)) (kk : rp_G E Y post (pc + 2) L (.int x :: st) M) : rp_G E Y post pc L st M :=
  fun p e s m args below meth c H locs ls X => lv_iload X.1.1 X.1.2.1 hd (X.2.2.2.2 i _ hl (fun z => by cases z)) (kk p e s m args below meth c H locs ls X)
theorem ok_lload_n {k : Fin 4} {i : Nat} {x : Int64} (hd : decode Y.2.1 pc = .ok (.lload_n k, 1)) (hi : (k : Nat) = i) (hl : L[i]? = some (.long x)) (kk : rp_G E Y post (pc + 1) L (.long x :: st) M) : rp_G E Y post pc L st M :=
  fun p e s m args below meth c H locs ls X => lv_lload_n X.1.1 X.1.2.1 hd hi (X.2.2.2.2 i _ hl (fun z => by cases z)) (kk p e s m args below meth c H locs ls X)
theorem ok_lload {i : Nat} {x : Int64} (hd : decode Y.2.1 pc = .ok (.lload i, 2)) (hl : L[i]? = some (.long x)) (kk : rp_G E Y post (pc + 2) L (.long x :: st) M) : rp_G E Y post pc L st M :=
  fun p e s m args below meth c H locs ls X => lv_lload X.1.1 X.1.2.1 hd (X.2.2.2.2 i _ hl (fun z => by cases z)) (kk p e s m args below meth c H locs ls X)
theorem ok_aload_n {k : Fin 4} {i : Nat} {x : Nat} (hd : decode Y.2.1 pc = .ok (.aload_n k, 1)) (hi : (k : Nat) = i) (hl : L[i]? = some (.ref x)) (kk : rp_G E Y post (pc + 1) L (.ref x :: st) M) : rp_G E Y post pc L st M :=
  fun p e s m args below meth c H locs ls X => lv_aload_n X.1.1 X.1.2.1 hd hi (X.2.2.2.2 i _ hl (fun z => by cases z)) (kk p e s m args below meth c H locs ls X)
theorem ok_aload {i : Nat} {x : Nat} (hd : decode Y.2.1 pc = .ok (.aload i, 2)) (hl : L[i]? = some (.ref x)) (kk : rp_G E Y post (pc + 2) L (.ref x :: st) M) : rp_G E Y post pc L st M :=
  fun p e s m args below meth c H locs ls X => lv_aload X.1.1 X.1.2.1 hd (X.2.2.2.2 i _ hl (fun z => by cases z)) (kk p e s m args below meth c H locs ls X)
theorem ok_istore_n {k : Fin 4} {i : Nat} {x : Int32} (hd : decode Y.2.1 pc = .ok (.istore_n k, 1)) (hi : (k : Nat) = i) (hn : i < Y.2.2.1) (hnl : rp_nl L i = true) (kk : rp_G E Y post (pc + 1) (L.set i (.int x)) st M) : rp_G E Y post pc L (.int x :: st) M :=
  fun p e s m args below meth c H locs ls X => lv_istore_n X.1.1 X.1.2.1 hd hi X.2.2.has hn rfl (fun ls' hl' => kk p e s m args below meth c H locs ls' ⟨X.1, X.2.1, rp_L_set hnl hl'⟩)
theorem ok_istore {i : Nat} {x : Int32} (hd : decode Y.2.1 pc = .ok (.istore i, 2)) (hn : i < Y.2.2.1) (hnl : rp_nl L i = true) (kk : rp_G E Y post (pc + 2) (L.set i (.int x)) st M) : rp_G E Y post pc L (.int x :: st) M :=
  fun p e s m args below meth c H locs ls X => lv_istore X.1.1 X.1.2.1 hd X.2.2.has hn rfl (fun ls' hl' => kk p e s m args below meth c H locs ls' ⟨X.1, X.2.1, rp_L_set hnl hl'⟩)
theorem ok_lstore_n {k : Fin 4} {i : Nat} {x : Int64} (hd : decode Y.2.1 pc = .ok (.lstore_n k, 1)) (hi : (k : Nat) = i) (hn : i + 1 < Y.2.2.1) (hnl : rp_nl L i = true) (kk : rp_G E Y post (pc + 1) ((L.set i (.long x)).set (i + 1) .null) st M) : rp_G E Y post pc L (.long x :: st) M :=
  fun p e s m args below meth c H locs ls X => lv_lstore_n X.1.1 X.1.2.1 hd hi X.2.2.has hn rfl (fun ls' hl' => kk p e s m args below meth c H locs ls' ⟨X.1, X.2.1, rp_L_setl hnl hl'⟩)
theorem ok_lstore {i : Nat} {x : Int64} (hd : decode Y.2.1 pc = .ok (.lstore i, 2)) (hn : i + 1 < Y.2.2.1) (hnl : rp_nl L i = true) (kk : rp_G E Y post (pc + 2) ((L.set i (.long x)).set (i + 1) .null) st M) : rp_G E Y post pc L (.long x :: st) M :=
  fun p e s m args below meth c H locs ls X => lv_lstore X.1.1 X.1.2.1 hd X.2.2.has hn rfl (fun ls' hl' => kk p e s m args below meth c H locs ls' ⟨X.1, X.2.1, rp_L_setl hnl hl'⟩)
theorem ok_iinc {i : Nat} {n : Int} {x v : Int32} (hd : decode Y.2.1 pc = .ok (.iinc i n, 3)) (hl : L[i]? = some (.int x)) (hv : x + Int32.ofInt n = v) (hn : i < Y.2.2.1) (hnl : rp_nl L i = true) (kk : rp_G E Y post (pc + 3) (L.set i (.int v)) st M) : rp_G E Y post pc L st M := by
  intro p e s m args below meth c H locs ls X
  obtain ⟨k, hk⟩ := List.getElem?_of_mem (rp_lv_mem (E := E) (L := L) (q := (i, Value.int x)) |>.mpr ⟨_, hl, (fun z => by cases z), rfl⟩)
  exact lv_iinc X.1.1 X.1.2.1 hd X.2.2.has hk hv hn rfl (fun ls' hl' => kk p e s m args below meth c H locs ls' ⟨X.1, X.2.1, rp_L_set hnl hl'⟩)
theorem ok_iadd {x y : Int32} (hd : decode Y.2.1 pc = .ok (.iadd, 1)) (kk : rp_G E Y post (pc + 1) L (.int (x + y) :: st) M) : rp_G E Y post pc L (.int y :: .int x :: st) M :=
  fun p e s m args below meth c H locs ls X => lv_iadd X.1.1 X.1.2.1 hd (kk p e s m args below meth c H locs ls X)
theorem ok_isub {x y : Int32} (hd : decode Y.2.1 pc = .ok (.isub, 1)) (kk : rp_G E Y post (pc + 1) L (.int (x - y) :: st) M) : rp_G E Y post pc L (.int y :: .int x :: st) M :=
  fun p e s m args below meth c H locs ls X => lv_isub X.1.1 X.1.2.1 hd (kk p e s m args below meth c H locs ls X)
theorem ok_imul {x y : Int32} (hd : decode Y.2.1 pc = .ok (.imul, 1)) (kk : rp_G E Y post (pc + 1) L (.int (x * y) :: st) M) : rp_G E Y post pc L (.int y :: .int x :: st) M :=
  fun p e s m args below meth c H locs ls X => lv_imul X.1.1 X.1.2.1 hd (kk p e s m args below meth c H locs ls X)
theorem ok_iand {x y : Int32} (hd : decode Y.2.1 pc = .ok (.iand, 1)) (kk : rp_G E Y post (pc + 1) L (.int (x &&& y) :: st) M) : rp_G E Y post pc L (.int y :: .int x :: st) M :=
  fun p e s m args below meth c H locs ls X => lv_iand X.1.1 X.1.2.1 hd (kk p e s m args below meth c H locs ls X)
theorem ok_ior {x y : Int32} (hd : decode Y.2.1 pc = .ok (.ior, 1)) (kk : rp_G E Y post (pc + 1) L (.int (x ||| y) :: st) M) : rp_G E Y post pc L (.int y :: .int x :: st) M :=
  fun p e s m args below meth c H locs ls X => lv_ior X.1.1 X.1.2.1 hd (kk p e s m args below meth c H locs ls X)
theorem ok_ixor {x y : Int32} (hd : decode Y.2.1 pc = .ok (.ixor, 1)) (kk : rp_G E Y post (pc + 1) L (.int (x ^^^ y) :: st) M) : rp_G E Y post pc L (.int y :: .int x :: st) M :=
  fun p e s m args below meth c H locs ls X => lv_ixor X.1.1 X.1.2.1 hd (kk p e s m args below meth c H locs ls X)
theorem ok_idiv {x y : Int32} (hd : decode Y.2.1 pc = .ok (.idiv, 1)) (hne : ¬ y = 0) (kk : rp_G E Y post (pc + 1) L (.int (x / y) :: st) M) : rp_G E Y post pc L (.int y :: .int x :: st) M :=
  fun p e s m args below meth c H locs ls X => lv_idiv X.1.1 X.1.2.1 hd hne (kk p e s m args below meth c H locs ls X)
theorem ok_ishl {x y : Int32} (hd : decode Y.2.1 pc = .ok (.ishl, 1)) (kk : rp_G E Y post (pc + 1) L (.int (x <<< (y &&& 31)) :: st) M) : rp_G E Y post pc L (.int y :: .int x :: st) M :=
  fun p e s m args below meth c H locs ls X => lv_ishl X.1.1 X.1.2.1 hd (kk p e s m args below meth c H locs ls X)
theorem ok_ishr {x y : Int32} (hd : decode Y.2.1 pc = .ok (.ishr, 1)) (kk : rp_G E Y post (pc + 1) L (.int (x >>> (y &&& 31)) :: st) M) : rp_G E Y post pc L (.int y :: .int x :: st) M :=
  fun p e s m args below meth c H locs ls X => lv_ishr X.1.1 X.1.2.1 hd (kk p e s m args below meth c H locs ls X)
/-- >>> on ints -/
def rp_ush (x y : Int32) : Int32 := (x.toUInt32 >>> (y.toUInt32 &&& Int32.toUInt32 31)).toInt32
theorem ok_iushr {x y : Int32} (hd : decode Y.2.1 pc = .ok (.iushr, 1)) (kk : rp_G E Y post (pc + 1) L (.int (rp_ush x y) :: st) M) : rp_G E Y post pc L (.int y :: .int x :: st) M :=
  fun p e s m args below meth c H locs ls X => lv_iushr X.1.1 X.1.2.1 hd rfl (kk p e s m args below meth c H locs ls X)
def rp_lush (x : Int64) (y : Int32) : Int64 := (x.toUInt64 >>> (y.toInt64.toUInt64 &&& Int64.toUInt64 63)).toInt64
theorem ok_lushr {x : Int64} {y : Int32} (hd : decode Y.2.1 pc = .ok (.lushr, 1)) (kk : rp_G E Y post (pc + 1) L (.long (rp_lush x y) :: st) M) : rp_G E Y post pc L (.int y :: .long x :: st) M :=
  fun p e s m args below meth c H locs ls X => lv_lushr X.1.1 X.1.2.1 hd rfl (kk p e s m args below meth c H locs ls X)
theorem ok_lshr {x : Int64} {y : Int32} (hd : decode Y.2.1 pc = .ok (.lshr, 1)) (kk : rp_G E Y post (pc + 1) L (.long (x >>> (y.toInt64 &&& 63)) :: st) M) : rp_G E Y post pc L (.int y :: .long x :: st) M :=
  fun p e s m args below meth c H locs ls X => lv_lshr X.1.1 X.1.2.1 hd rfl (kk p e s m args below meth c H locs ls X)
theorem ok_land {x y : Int64} (hd : decode Y.2.1 pc = .ok (.land, 1)) (kk : rp_G E Y post (pc + 1) L (.long (x &&& y) :: st) M) : rp_G E Y post pc L (.long y :: .long x :: st) M :=
  fun p e s m args below meth c H locs ls X => lv_land X.1.1 X.1.2.1 hd (kk p e s m args below meth c H locs ls X)
theorem ok_l2i {x : Int64} (hd : decode Y.2.1 pc = .ok (.l2i, 1)) (kk : rp_G E Y post (pc + 1) L (.int x.toInt32 :: st) M) : rp_G E Y post pc L (.long x :: st) M :=
  fun p e s m args below meth c H locs ls X => lv_l2i X.1.1 X.1.2.1 hd rfl (kk p e s m args below meth c H locs ls X)
theorem ok_lcmp {x y : Int64} (hd : decode Y.2.1 pc = .ok (.lcmp, 1)) (kk : rp_G E Y post (pc + 1) L (.int (lg_cmp x y) :: st) M) : rp_G E Y post pc L (.long y :: .long x :: st) M :=
  fun p e s m args below meth c H locs ls X => W.lcmp X.1.1 X.1.2.1 hd (kk p e s m args below meth c H locs ls X)
theorem ok_ldc2 {i : Nat} {v : Int64} (hw : Cond.constantLong Y.1.cls i v ∈ Y.2.2.2.2.1) (hd : decode Y.2.1 pc = .ok (.ldc2_w i, 3)) (kk : rp_G E Y post (pc + 3) L (.long v :: st) M) : rp_G E Y post pc L st M :=
  fun p e s m args below meth c H locs ls X => lv_ldc2 X.1.1 X.1.2.1 X.1.2.2.2.2.2.1 (X.1.2.2.2.2.2.2.1 _ hw) hd (kk p e s m args below meth c H locs ls X)
theorem ok_dup {v : Value} (hd : decode Y.2.1 pc = .ok (.dup, 1)) (hc : v.category = 1) (kk : rp_G E Y post (pc + 1) L (v :: v :: st) M) : rp_G E Y post pc L (v :: st) M :=
  fun p e s m args below meth c H locs ls X => lv_dup X.1.1 X.1.2.1 hd (by rw [rp_cat]; exact hc) (kk p e s m args below meth c H locs ls X)
theorem ok_dup2 {v w : Value} (hd : decode Y.2.1 pc = .ok (.dup2, 1)) (hc : v.category = 1) (hw : w.category = 1) (kk : rp_G E Y post (pc + 1) L (v :: w :: v :: w :: st) M) : rp_G E Y post pc L (v :: w :: st) M :=
  fun p e s m args below meth c H locs ls X => lv_dup2_11 X.1.1 X.1.2.1 hd (by rw [rp_cat]; exact hc) (by rw [rp_cat]; exact hw) (kk p e s m args below meth c H locs ls X)
theorem ok_goto {off : Int} {tgt : Nat} (hd : decode Y.2.1 pc = .ok (.goto off, 3)) (ht : (pc : Int) + off = (tgt : Int)) (kk : rp_G E Y post tgt L st M) : rp_G E Y post pc L st M :=
  fun p e s m args below meth c H locs ls X => lv_goto X.1.1 X.1.2.1 hd ht (kk p e s m args below meth c H locs ls X)
theorem ok_if_eq {x : Int32} {off : Int} {tgt : Nat} (hd : decode Y.2.1 pc = .ok (.ifCond .eq off, 3)) (ht : (pc : Int) + off = (tgt : Int)) (kt : x = 0 → rp_G E Y post tgt L st M) (kf : ¬ x = 0 → rp_G E Y post (pc + 3) L st M) : rp_G E Y post pc L (.int x :: st) M :=
  fun p e s m args below meth c H locs ls X => lv_if_eq X.1.1 X.1.2.1 hd ht (fun h => kt h p e s m args below meth c H locs ls X) (fun h => kf h p e s m args below meth c H locs ls X)
theorem ok_if_ne {x : Int32} {off : Int} {tgt : Nat} (hd : decode Y.2.1 pc = .ok (.ifCond .ne off, 3)) (ht : (pc : Int) + off = (tgt : Int)) (kt : ¬ x = 0 → rp_G E Y post tgt L st M) (kf : x = 0 → rp_G E Y post (pc + 3) L st M) : rp_G E Y post pc L (.int x :: st) M :=
  fun p e s m args below meth c H locs ls X => lv_if_ne X.1.1 X.1.2.1 hd ht (fun h => kt (by simpa using h) p e s m args below meth c H locs ls X) (fun h => kf (by simpa using h) p e s m args below meth c H locs ls X)
theorem ok_if_lt {x : Int32} {off : Int} {tgt : Nat} (hd : decode Y.2.1 pc = .ok (.ifCond .lt off, 3)) (ht : (pc : Int) + off = (tgt : Int)) (kt : x < 0 → rp_G E Y post tgt L st M) (kf : ¬ x < 0 → rp_G E Y post (pc + 3) L st M) : rp_G E Y post pc L (.int x :: st) M :=
  fun p e s m args below meth c H locs ls X => lv_if_lt X.1.1 X.1.2.1 hd ht (fun h => kt h p e s m args below meth c H locs ls X) (fun h => kf h p e s m args below meth c H locs ls X)
theorem ok_if_ge {x : Int32} {off : Int} {tgt : Nat} (hd : decode Y.2.1 pc = .ok (.ifCond .ge off, 3)) (ht : (pc : Int) + off = (tgt : Int)) (kt : 0 ≤ x → rp_G E Y post tgt L st M) (kf : ¬ 0 ≤ x → rp_G E Y post (pc + 3) L st M) : rp_G E Y post pc L (.int x :: st) M :=
  fun p e s m args below meth c H locs ls X => lv_if_ge X.1.1 X.1.2.1 hd ht (fun h => kt h p e s m args below meth c H locs ls X) (fun h => kf h p e s m args below meth c H locs ls X)
theorem ok_if_gt {x : Int32} {off : Int} {tgt : Nat} (hd : decode Y.2.1 pc = .ok (.ifCond .gt off, 3)) (ht : (pc : Int) + off = (tgt : Int)) (kt : 0 < x → rp_G E Y post tgt L st M) (kf : ¬ 0 < x → rp_G E Y post (pc + 3) L st M) : rp_G E Y post pc L (.int x :: st) M :=
  fun p e s m args below meth c H locs ls X => lv_if_gt X.1.1 X.1.2.1 hd ht (fun h => kt h p e s m args below meth c H locs ls X) (fun h => kf h p e s m args below meth c H locs ls X)
theorem ok_if_le {x : Int32} {off : Int} {tgt : Nat} (hd : decode Y.2.1 pc = .ok (.ifCond .le off, 3)) (ht : (pc : Int) + off = (tgt : Int)) (kt : x ≤ 0 → rp_G E Y post tgt L st M) (kf : ¬ x ≤ 0 → rp_G E Y post (pc + 3) L st M) : rp_G E Y post pc L (.int x :: st) M :=
  fun p e s m args below meth c H locs ls X => lv_if_le X.1.1 X.1.2.1 hd ht (fun h => kt h p e s m args below meth c H locs ls X) (fun h => kf h p e s m args below meth c H locs ls X)
theorem ok_icmp_eq {x y : Int32} {off : Int} {tgt : Nat} (hd : decode Y.2.1 pc = .ok (.if_icmp .eq off, 3)) (ht : (pc : Int) + off = (tgt : Int)) (kt : x = y → rp_G E Y post tgt L st M) (kf : ¬ x = y → rp_G E Y post (pc + 3) L st M) : rp_G E Y post pc L (.int y :: .int x :: st) M :=
  fun p e s m args below meth c H locs ls X => lv_icmp_eq X.1.1 X.1.2.1 hd ht (fun h => kt h p e s m args below meth c H locs ls X) (fun h => kf h p e s m args below meth c H locs ls X)
theorem ok_icmp_ne {x y : Int32} {off : Int} {tgt : Nat} (hd : decode Y.2.1 pc = .ok (.if_icmp .ne off, 3)) (ht : (pc : Int) + off = (tgt : Int)) (kt : ¬ x = y → rp_G E Y post tgt L st M) (kf : x = y → rp_G E Y post (pc + 3) L st M) : rp_G E Y post pc L (.int y :: .int x :: st) M :=
  fun p e s m args below meth c H locs ls X => lv_icmp_ne X.1.1 X.1.2.1 hd ht (fun h => kt (by simpa using h) p e s m args below meth c H locs ls X) (fun h => kf (by simpa using h) p e s m args below meth c H locs ls X)
theorem ok_icmp_lt {x y : Int32} {off : Int} {tgt : Nat} (hd : decode Y.2.1 pc = .ok (.if_icmp .lt off, 3)) (ht : (pc : Int) + off = (tgt : Int)) (kt : x < y → rp_G E Y post tgt L st M) (kf : ¬ x < y → rp_G E Y post (pc + 3) L st M) : rp_G E Y post pc L (.int y :: .int x :: st) M :=
  fun p e s m args below meth c H locs ls X => lv_icmp_lt X.1.1 X.1.2.1 hd ht (fun h => kt h p e s m args below meth c H locs ls X) (fun h => kf h p e s m args below meth c H locs ls X)
theorem ok_icmp_ge {x y : Int32} {off : Int} {tgt : Nat} (hd : decode Y.2.1 pc = .ok (.if_icmp .ge off, 3)) (ht : (pc : Int) + off = (tgt : Int)) (kt : y ≤ x → rp_G E Y post tgt L st M) (kf : ¬ y ≤ x → rp_G E Y post (pc + 3) L st M) : rp_G E Y post pc L (.int y :: .int x :: st) M :=
  fun p e s m args below meth c H locs ls X => lv_icmp_ge X.1.1 X.1.2.1 hd ht (fun h => kt h p e s m args below meth c H locs ls X) (fun h => kf h p e s m args below meth c H locs ls X)
theorem ok_icmp_gt {x y : Int32} {off : Int} {tgt : Nat} (hd : decode Y.2.1 pc = .ok (.if_icmp .gt off, 3)) (ht : (pc : Int) + off = (tgt : Int)) (kt : y < x → rp_G E Y post tgt L st M) (kf : ¬ y < x → rp_G E Y post (pc + 3) L st M) : rp_G E Y post pc L (.int y :: .int x :: st) M :=
  fun p e s m args below meth c H locs ls X => lv_icmp_gt X.1.1 X.1.2.1 hd ht (fun h => kt h p e s m args below meth c H locs ls X) (fun h => kf h p e s m args below meth c H locs ls X)
theorem ok_icmp_le {x y : Int32} {off : Int} {tgt : Nat} (hd : decode Y.2.1 pc = .ok (.if_icmp .le off, 3)) (ht : (pc : Int) + off = (tgt : Int)) (kt : x ≤ y → rp_G E Y post tgt L st M) (kf : ¬ x ≤ y → rp_G E Y post (pc + 3) L st M) : rp_G E Y post pc L (.int y :: .int x :: st) M :=
  fun p e s m args below meth c H locs ls X => lv_icmp_le X.1.1 X.1.2.1 hd ht (fun h => kt h p e s m args below meth c H locs ls X) (fun h => kf h p e s m args below meth c H locs ls X)
/-- a switch over 0, 1, .. : place by place -/
theorem ok_tabIn {dflt hi : Int} {offs : Array Int} {len k tgt : Nat} {x : Int32} {off : Int} (hd : decode Y.2.1 pc = .ok (.tableswitch dflt 0 hi offs, len)) (hx : x.toInt = (k : Int)) (hk : (k : Int) ≤ hi) (ho : offs[k]? = some off) (ht : (pc : Int) + off = (tgt : Int)) (kk : rp_G E Y post tgt L st M) : rp_G E Y post pc L (.int x :: st) M :=
  fun p e s m args below meth c H locs ls X => lv_tableIn X.1.1 X.1.2.1 hd (by omega) (by omega) (by rw [hx, Int.sub_zero, Int.toNat_natCast]; exact ho) ht (kk p e s m args below meth c H locs ls X)
theorem ok_tabOut {dflt hi : Int} {offs : Array Int} {len tgt : Nat} {x : Int32} (hd : decode Y.2.1 pc = .ok (.tableswitch dflt 0 hi offs, len)) (hx : x.toInt < 0 ∨ hi < x.toInt) (ht : (pc : Int) + dflt = (tgt : Int)) (kk : rp_G E Y post tgt L st M) : rp_G E Y post pc L (.int x :: st) M :=
  fun p e s m args below meth c H locs ls X => lv_tableOut X.1.1 X.1.2.1 hd hx ht (kk p e s m args below meth c H locs ls X)
theorem rp_tab_out {x : Int32} (n : Nat) (hn : n < 1000) (h : ∀ j, j < n → ¬ x = nI j) : x.toInt < 0 ∨ ((n : Int) - 1) < x.toInt := by
  by_cases h0 : x.toInt < 0
  · exact Or.inl h0
  · right
    apply Classical.byContradiction
    intro h1
    refine h x.toInt.toNat (by omega) ?_
    apply Int32.toInt_inj.mp
    rw [nI_toInt (by omega)]
    omega
/-- fewer locals are known -/
def rp_mask : List Bool → List Value → List Value
  | [], _ => []
  | _, [] => []
  | true :: m, v :: l => v :: rp_mask m l
  | false :: m, _ :: l => .null :: rp_mask m l
theorem rp_mask_at : ∀ (m : List Bool) (l : List Value) (i : Nat) (v : Value), (rp_mask m l)[i]? = some v → v ≠ .null → l[i]? = some v
  | [], _, i, v, h, _ => by simp [rp_mask] at h
  | true :: m, [], i, v, h, _ => by simp [rp_mask] at h
  | false :: m, [], i, v, h, _ => by simp [rp_mask] at h
  | true :: m, w :: l, 0, v, h, _ => h
  | false :: m, w :: l, 0, v, h, h2 => by
    simp only [rp_mask, List.getElem?_cons_zero, Option.some.injEq] at h
    exact absurd h.symm h2
  | true :: m, w :: l, i + 1, v, h, h2 => rp_mask_at m l i v h h2
  | false :: m, w :: l, i + 1, v, h, h2 => rp_mask_at m l i v h h2
theorem ok_mask (mk : List Bool) (kk : rp_G E Y post pc (rp_mask mk L) st M) : rp_G E Y post pc L st M :=
  fun p e s m args below meth c H locs ls X => kk p e s m args below meth c H locs ls ⟨X.1, X.2.1, X.2.2.1, X.2.2.2.1, fun i v h1 h2 => X.2.2.2.2 i v (rp_mask_at mk L i v h1 h2) h2⟩
theorem ok_ireturn {v : Int32} (hd : decode Y.2.1 pc = .ok (.ireturn, 1)) (hr : Y.2.2.2.1 = some .int) (h : post (some v) M) : rp_G E Y post pc L [.int v] M :=
  fun p e s m args below meth c H locs ls X => W.iret X.1.1 X.1.2.1 (X.1.2.2.2.1.trans hr) (fun t ht hW => ⟨⟨some v, M, rfl, h, rp_B_of X ht hW⟩, X.2.1.2.2.F ht⟩) X.2.1.2.2.2.2 hd X.1.2.2.2.2.1
theorem ok_zreturn {v : Int32} (hd : decode Y.2.1 pc = .ok (.ireturn, 1)) (hr : Y.2.2.2.1 = some .boolean) (hn : narrow .boolean (.int v) = .int v) (h : post (some v) M) : rp_G E Y post pc L [.int v] M :=
  fun p e s m args below meth c H locs ls X => W.zret X.1.1 X.1.2.1 (X.1.2.2.2.1.trans hr) hn (fun t ht hW => ⟨⟨some v, M, rfl, h, rp_B_of X ht hW⟩, X.2.1.2.2.F ht⟩) X.2.1.2.2.2.2 hd X.1.2.2.2.2.1
theorem ok_return (hd : decode Y.2.1 pc = .ok (.return_, 1)) (hr : Y.2.2.2.1 = none) (h : post none M) : rp_G E Y post pc L [] M :=
  fun p e s m args below meth c H locs ls X => W.vret X.1.1 X.1.2.1 (X.1.2.2.2.1.trans hr) (fun t ht hW => ⟨⟨none, M, rfl, h, rp_B_of X ht hW⟩, X.2.1.2.2.F ht⟩) X.2.1.2.2.2.2 hd X.1.2.2.2.2.1
end RPO

/-! THE BASE: one world for all objects of class and reference (cells by number, the mutable ints as one function), and one judgement rp_G that hides the machine's own state -/
abbrev rp_M : Type := Nat → Nat → Int32
/-- launch, class numbers, addresses of the cells, classes of the arrays, addresses of the static arrays -/
abbrev rp_E : Type := Launch × va_G × (Nat → Nat) × (Nat → ClassId) × (Nat → Nat)
/-- a method: name, code, locals, return type, words, room -/
abbrev rp_Y : Type := MethodName × ByteArray × Nat × Option FieldType × List Cond × Room
/-- the shape of cell k: kind (0 int[], 1 boolean[], 2 int[][], 3 State[], c + 4 an object of class c), length, references -/
def rp_sh (k : Nat) : Nat × Nat × List (Option Nat) :=
  if k < 130 then
    (if k % 10 = 0 then (8, 0, [some (k + 1), some (k + 7), some (k + 8), some (k + 9), none])
     else if k % 10 = 1 then (2, 5, [some (k + 1), some (k + 2), some (k + 3), some (k + 4), some (k + 5)])
     else if k % 10 = 9 then (0, 3, [])
     else (0, 12, []))
  else if k = 130 then (3, 12, [some 10, some 20, some 30, some 40, some 50, some 60, some 70, some 80, some 90, some 100, some 110, some 120])
  else if k = 131 then (5, 0, [some 132, none, some 133, none, none])
  else if k = 132 then (0, 80, [])
  else if k = 133 then (2, 5, [some 134, some 135, some 136, some 137, some 138])
  else if k < 139 then (0, 20, [])
  else if k = 139 then (4, 0, [some 140, some 141, some 142, some 143, some 144, some 145, some 146, none, none, none])
  else if k < 145 then (0, 4096, [])
  else if k < 147 then (0, 12, [])
  else if k = 147 then (7, 0, [some 148, none])
  else if k = 148 then (0, 10000, [])
  else if k = 149 then (6, 0, [some 150, some 151, some 152, some 153, none])
  else if k < 153 then (0, 4096, [])
  else if k = 153 then (0, 12, [])
  else if k = 154 then (9, 0, [some 0, some 130, none, none, some 131, some 139, some 147, some 149])
  else if k = 155 then (10, 0, [some 156, some 157, none, some 158, none, none, none, some 159, none, some 160, some 161, some 162, some 163, some 164, none, some 165, some 166, some 167, some 168, some 169, none])
  else if k = 156 then (0, 88, [])
  else if k = 157 then (0, 1056, [])
  else if k = 158 then (0, 80, [])
  else if k = 159 then (0, 120, [])
  else if k = 162 then (1, 4096, [])
  else if k = 165 then (0, 13, [])
  else (0, 4096, [])
def rp_fs (ad : Nat → Nat) (f : Nat → Int32) : Nat → List (Option Nat) → List Value
  | _, [] => []
  | j, none :: l => .int (f j) :: rp_fs ad f (j + 1) l
  | j, some i :: l => .ref (ad i) :: rp_fs ad f (j + 1) l
def rp_en (ad : Nat → Nat) (ca : Nat → ClassId) (sh : Nat × Nat × List (Option Nat)) (f : Nat → Int32) : va_E :=
  match sh.1 with
  | 0 => .inl (ca 0, sh.2.1, .inl f)
  | 1 => .inl (ca 1, sh.2.1, .inl f)
  | 2 => .inl (ca 2, sh.2.1, .inr (.inr (.inr (.inr (fun j => (sh.2.2.getD j none).map ad)))))
  | 3 => .inl (ca 3, sh.2.1, .inr (.inr (.inr (.inr (fun j => (sh.2.2.getD j none).map ad)))))
  | c + 4 => .inr (c, rp_fs ad f 0 sh.2.2)
def rp_ws (E : rp_E) (M : rp_M) : va_W := (List.range 170).map (fun k => (E.2.2.1 k, rp_en E.2.2.1 E.2.2.2.1 (rp_sh k) (M k)))
def rp_A (E : rp_E) : Nat → Prop := fun q => ∃ k : Nat, k < 170 ∧ q = E.2.2.1 k
def rp_tys (E : rp_E) : List (ClassId × FieldType) := [(E.2.2.2.1 0, .int), (E.2.2.2.1 1, .boolean), (E.2.2.2.1 2, .array .int), (E.2.2.2.1 3, .object "RobustPacking$State")]
def rp_rv (E : rp_E) : Value → Value
  | .ref k => .ref (if k < 1000 then E.2.2.1 k else E.2.2.2.2 (k - 1000))
  | v => v
/-- the static arrays: name, length, contents -/
def rp_sn : Nat → String
  | 0 => "LEAST_OF_PROPERTY"
  | 1 => "MOST_OF_PROPERTY"
  | _ => "MOST_OF_SETTING"
def rp_sv : Nat → List Int32
  | 0 => [1, 1, 0, 0, -1]
  | 1 => [999, 999, 999, 999, 3]
  | _ => [9999, 12, 12]
def rp_St (E : rp_E) (U : State) : Prop :=
  (∀ j, j < 3 → va_Z "RobustPacking" (rp_sn j) "[I" (.ref (E.2.2.2.2 j)) (rp_A E) U U.heap ∧ va_T .int (E.2.2.2.2 j) (rp_sv j).length (fun i => .int ((rp_sv j).getD i 0)) (rp_A E) U U.heap) ∧
  va_Nw (.methodLinkNest RX0 55 yX5_sumUp RX5) U ∧ va_Nw (.methodLinkNest RX2 37 yX5_sumUp RX5) U
def rp_B (E : rp_E) (M : rp_M) (U : State) : Prop := va_P E.2.1 vwCl (rp_ws E M) U.heap ∧ va_D (rp_A E) (rp_ws E M) ∧ va_K E.2.1 vwCl (rp_tys E) U ∧ rp_St E U
def rp_Q (E : rp_E) (post : Option Int32 → rp_M → Prop) : Array Value → State → Outcome → State → Prop := fun _ st oc t =>
  (∃ (r : Option Int32) (M : rp_M), oc = .returned (r.map .int) ∧ post r M ∧ rp_B E M t) ∧ va_F (rp_A E) st t
/-- the contract of method Y with these arguments over this memory: it returns, and answer and memory are as post says -/
def rp_Run (E : rp_E) (Y : rp_Y) (as : List Value) (M : rp_M) (post : Option Int32 → rp_M → Prop) : Prop :=
  Met E.1 Y.1 Y.2.2.2.2.1 Y.2.2.2.2.2 (va_Pc (as.map (rp_rv E)) (rp_B E M)) (rp_Q E post) 0 0 (rp_A E)
/-- the contract as a function -/
def rp_C (E : rp_E) (Y : rp_Y) (as : List Value) (M : rp_M) (r : Option Int32) (M' : rp_M) : Prop := rp_Run E Y as M (fun r2 M2 => r2 = r ∧ M2 = M')
def rp_L (E : rp_E) (ls : Array Slot) (nL : Nat) (L : List Value) : Prop := ls.size = nL ∧ lv_wf ls ∧ ∀ (i : Nat) (v : Value), L[i]? = some v → v ≠ .null → ls[i]? = some (.val (rp_rv E v))
def rp_X (E : rp_E) (Y : rp_Y) (M : rp_M) (L : List Value) (p : Program) (s : State) (m : MethodId) (args : Array Value) (meth : Method) (c : Code) (H : Heap) (locs : List Loc) (ls : Array Slot) : Prop :=
  (p.tables.exec = Jvm.exec ∧ c.code = Y.2.1 ∧ c.maxLocals = Y.2.2.1 ∧ meth.sig.returnType = Y.2.2.2.1 ∧ meth.locks = false ∧ s.vm.findClass Y.1.cls = some m.cls ∧ (∀ w ∈ Y.2.2.2.2.1, w.before args s = true) ∧ va_K E.2.1 vwCl (rp_tys E) s ∧ rp_St E s) ∧
  (va_P E.2.1 vwCl (rp_ws E M) H ∧ va_D (rp_A E) (rp_ws E M) ∧ va_S (rp_A E) s.heap H locs) ∧ rp_L E ls Y.2.2.1 L
/-- from this frame over this memory the method comes to its end, and post holds there -/
def rp_G (E : rp_E) (Y : rp_Y) (post : Option Int32 → rp_M → Prop) (pc : Nat) (L st : List Value) (M : rp_M) : Prop :=
  ∀ (p : Program) (e : Env) (s : State) (m : MethodId) (args : Array Value) (below : List Frame) (meth : Method) (c : Code) (H : Heap) (locs : List Loc) (ls : Array Slot), rp_X E Y M L p s m args meth c H locs ls →
    W p E.1 e Y.2.2.2.2.2 s m args below meth c H locs 0 0 (MQ below (rp_Q E post) args s 0 0 (rp_A E)) (F0 m pc ls (st.map (rp_rv E)))
/-- one int of the memory changes -/
def rp_s (M : rp_M) (k i : Nat) (x : Int32) : rp_M := fun q j => if q = k ∧ j = i then x else M q j
def rp_row (M : rp_M) (k : Nat) (f : Nat → Int32) : rp_M := fun q => if q = k then f else M q
theorem rp_s_row (M : rp_M) (k i : Nat) (x : Int32) : rp_row M k (upd (M k) i x) = rp_s M k i x := by
  funext q j
  unfold rp_row rp_s
  by_cases h : q = k
  · subst h
    by_cases hj : j = i
    · subst hj
      simp [pk_us]
    · simp [pk_un hj, hj]
  · simp [h]
/-! the world's list -/
theorem rp_ws_at (E : rp_E) (M : rp_M) {k : Nat} (h : k < 170) : (rp_ws E M)[k]? = some (E.2.2.1 k, rp_en E.2.2.1 E.2.2.2.1 (rp_sh k) (M k)) := by
  unfold rp_ws
  rw [List.getElem?_map, List.getElem?_range h]
  rfl
theorem rp_ws_set (E : rp_E) (M : rp_M) {k : Nat} (h : k < 170) (f : Nat → Int32) {e : va_E} (he : rp_en E.2.2.1 E.2.2.2.1 (rp_sh k) f = e) : (rp_ws E M).set k (E.2.2.1 k, e) = rp_ws E (rp_row M k f) := by
  subst he
  apply List.ext_getElem?
  intro j
  by_cases hj : j < 170
  · rw [rp_ws_at E _ hj]
    by_cases hk : k = j
    · subst hk
      rw [List.getElem?_set_self (by unfold rp_ws; simpa using h)]
      simp [rp_row]
    · rw [List.getElem?_set_ne hk, rp_ws_at E _ hj]
      simp [rp_row, Ne.symm hk]
  · have h1 : (rp_ws E (rp_row M k f)).length ≤ j := by unfold rp_ws; simp; omega
    have h2 : ((rp_ws E M).set k (E.2.2.1 k, rp_en E.2.2.1 E.2.2.2.1 (rp_sh k) f)).length ≤ j := by unfold rp_ws; simp; omega
    rw [List.getElem?_eq_none h1, List.getElem?_eq_none h2]
theorem rp_fs_get (ad : Nat → Nat) (f : Nat → Int32) : ∀ (l : List (Option Nat)) (j k : Nat) (r : Option Nat), l[k]? = some r → (rp_fs ad f j l)[k]? = some (match r with | none => .int (f (j + k)) | some i => .ref (ad i))
  | [], j, k, r, h => by simp at h
  | none :: l, j, 0, r, h => by
    simp only [List.getElem?_cons_zero, Option.some.injEq] at h
    subst h
    rfl
  | some i :: l, j, 0, r, h => by
    simp only [List.getElem?_cons_zero, Option.some.injEq] at h
    subst h
    rfl
  | none :: l, j, k + 1, r, h => by
    rw [List.getElem?_cons_succ] at h
    show (rp_fs ad f (j + 1) l)[k]? = _
    rw [rp_fs_get ad f l (j + 1) k r h, show j + 1 + k = j + (k + 1) by omega]
  | some i :: l, j, k + 1, r, h => by
    rw [List.getElem?_cons_succ] at h
    show (rp_fs ad f (j + 1) l)[k]? = _
    rw [rp_fs_get ad f l (j + 1) k r h, show j + 1 + k = j + (k + 1) by omega]
theorem rp_fs_other (ad : Nat → Nat) (f : Nat → Int32) (x : Int32) (i : Nat) : ∀ (l : List (Option Nat)) (j : Nat), i < j → rp_fs ad (upd f i x) j l = rp_fs ad f j l
  | [], _, _ => rfl
  | none :: l, j, h => by
    show Value.int (upd f i x j) :: rp_fs ad (upd f i x) (j + 1) l = Value.int (f j) :: rp_fs ad f (j + 1) l
    rw [pk_un (by omega), rp_fs_other ad f x i l (j + 1) (by omega)]
  | some q :: l, j, h => by
    show Value.ref (ad q) :: rp_fs ad (upd f i x) (j + 1) l = Value.ref (ad q) :: rp_fs ad f (j + 1) l
    rw [rp_fs_other ad f x i l (j + 1) (by omega)]
theorem rp_fs_set (ad : Nat → Nat) (f : Nat → Int32) (x : Int32) : ∀ (l : List (Option Nat)) (j k : Nat), l[k]? = some none → (rp_fs ad f j l).set k (.int x) = rp_fs ad (upd f (j + k) x) j l
  | [], j, k, h => by simp at h
  | none :: l, j, 0, h => by
    show Value.int x :: rp_fs ad f (j + 1) l = Value.int (upd f j x j) :: rp_fs ad (upd f j x) (j + 1) l
    rw [pk_us, rp_fs_other ad f x j l (j + 1) (by omega)]
  | some i :: l, j, 0, h => by simp at h
  | none :: l, j, k + 1, h => by
    rw [List.getElem?_cons_succ] at h
    show Value.int (f j) :: (rp_fs ad f (j + 1) l).set k (.int x) = Value.int (upd f (j + (k + 1)) x j) :: rp_fs ad (upd f (j + (k + 1)) x) (j + 1) l
    rw [rp_fs_set ad f x l (j + 1) k h, pk_un (by omega), show j + 1 + k = j + (k + 1) by omega]
  | some i :: l, j, k + 1, h => by
    rw [List.getElem?_cons_succ] at h
    show Value.ref (ad i) :: (rp_fs ad f (j + 1) l).set k (.int x) = Value.ref (ad i) :: rp_fs ad (upd f (j + (k + 1)) x) (j + 1) l
    rw [rp_fs_set ad f x l (j + 1) k h, show j + 1 + k = j + (k + 1) by omega]
theorem rp_fs_len (ad : Nat → Nat) (f : Nat → Int32) : ∀ (l : List (Option Nat)) (j : Nat), (rp_fs ad f j l).length = l.length
  | [], _ => rfl
  | none :: l, j => congrArg (· + 1) (rp_fs_len ad f l (j + 1))
  | some _ :: l, j => congrArg (· + 1) (rp_fs_len ad f l (j + 1))
/-! what isn't the world's stays -/
theorem rp_St.moved {E : rp_E} {s U : State} {H : Heap} {locs : List Loc} (h : rp_St E s) (hS : va_S (rp_A E) s.heap H locs) (hH : U.heap = H) (hW : s.WarmedH U.vm) : rp_St E U := by
  refine ⟨fun j hj => ?_, va_Nw.warmM hW h.2.1, va_Nw.warmM hW h.2.2⟩
  obtain ⟨hz, ht⟩ := h.1 j hj
  have key : ∀ (a : Nat) (cell : Cell), s.heap[a]? = some cell → ¬ rp_A E a → U.heap[a]? = some cell := fun a cell h1 h2 => by
    rw [hH, hS.2.1 a (Array.getElem?_eq_some_iff.mp h1).1 h2]
    exact h1
  constructor
  · have hz2 := hz.moved hW.alike
    obtain ⟨cf, kf, fi, f, a, cell, h1, h2, h3, h4, h5, h6, h7, h8⟩ := hz2
    exact ⟨cf, kf, fi, f, a, cell, h1, h2, h3, h4, key a cell h5 h8, h6, h7, h8⟩
  · have ht2 := ht.moved hW.alike
    obtain ⟨cell, h1, h2, h3, h4, h5, h6, h7⟩ := ht2
    exact ⟨cell, key _ cell h1 h7, h2, h3, h4, h5, h6, h7⟩
theorem rp_B_of {E : rp_E} {Y : rp_Y} {M : rp_M} {L : List Value} {p : Program} {s U : State} {m : MethodId} {args : Array Value} {meth : Method} {c : Code} {H : Heap} {locs : List Loc} {ls : Array Slot} (X : rp_X E Y M L p s m args meth c H locs ls) (hH : U.heap = H) (hW : s.WarmedH U.vm) : rp_B E M U := by
  obtain ⟨⟨-, -, -, -, -, -, -, hK, hSt⟩, ⟨hP, hD, hS⟩, -⟩ := X
  exact ⟨by rw [hH]; exact hP, hD, va_K.moved hW.alike hK, hSt.moved hS hH hW⟩
theorem rp_B_blind (E : rp_E) (as : List Value) (M : rp_M) : FrameBlind (va_Pc as (rp_B E M)) := by
  intro a U g mk q
  obtain ⟨q0, h1, h2, h3, h4⟩ := q
  exact ⟨q0, h1, h2, va_K.moved (u := U) (U := U.calling g mk a) (Vm.Alike.refl U.vm) h3, ⟨fun j hj => ⟨(h4.1 j hj).1.moved (U := U.calling g mk a) (Vm.Alike.refl U.vm), (h4.1 j hj).2.moved (U := U.calling g mk a) (Vm.Alike.refl U.vm)⟩, va_Nw.same (U := U.calling g mk a) rfl rfl h4.2.1, va_Nw.same (U := U.calling g mk a) rfl rfl h4.2.2⟩⟩

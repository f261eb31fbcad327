/-! fields, arrays, statics, calls, the start of a method -/
/-- the words of a field access: entry idx of the method's pool is field k of class ci -/
def rp_fl (Y : rp_Y) (idx ci k : Nat) : Prop := ∃ q : vw_C, vwCl[ci]? = some q ∧ k < q.2.2 ∧ (q.2.1 k).1 = q.1 ∧ Cond.fieldLink Y.1.cls idx q.1 (q.2.1 k).2.1 (q.2.1 k).2.2.1 ∈ Y.2.2.2.2.1 ∧ ∀ w ∈ u_ws q.1 q.2.1 q.2.2, w ∈ Y.2.2.2.2.1
/-- and for a write: its type, not final -/
def rp_pl (Y : rp_Y) (idx ci k : Nat) (ty : FieldType) : Prop := ∃ (q : vw_C) (ty0 : Nat → FieldType), vwCl[ci]? = some q ∧ k < q.2.2 ∧ (q.2.1 k).1 = q.1 ∧ Cond.fieldLink Y.1.cls idx q.1 (q.2.1 k).2.1 (q.2.1 k).2.2.1 ∈ Y.2.2.2.2.1 ∧ (∀ w ∈ u_ws q.1 q.2.1 q.2.2, w ∈ Y.2.2.2.2.1) ∧ (∀ k, k < q.2.2 → parseFieldDescriptor (q.2.1 k).2.2.1 = some (ty0 k)) ∧ (∀ a, a < q.2.2 → ∀ b, b < q.2.2 → a ≠ b → (q.2.1 a).2.1 ≠ (q.2.1 b).2.1) ∧ (q.2.1 k).2.2.2 = false ∧ parseFieldDescriptor (q.2.1 k).2.2.1 = some ty
/-- a call: words, number of arguments, room -/
def rp_room (Y Y' : rp_Y) : Prop := Y'.2.2.2.2.2.cells = 0 ∧ Y'.2.2.2.2.2.slots = 0 ∧ Y'.2.2.2.2.2.frames + 1 ≤ Y.2.2.2.2.2.frames ∧ 8 + (Y'.2.2.1 + 11) + Y'.2.2.2.2.2.locals ≤ Y.2.2.2.2.2.locals
def rp_name (Y' : rp_Y) (n : Nat) : Prop := Y'.1.cls ≠ "java/lang/invoke/MethodHandle" ∧ Y'.1.cls ≠ "java/lang/invoke/VarHandle" ∧ (parseMethodDescriptor Y'.1.desc).map (fun d => d.parameters.length) = some n
def rp_code (Y' : rp_Y) : Prop := ∃ ws', Y'.2.2.2.2.1 = Cond.code Y'.1 Y'.2.1 Y'.2.2.1 Y'.2.2.2.1 :: ws'
def rp_cv (Y : rp_Y) (idx : Nat) (Y' : rp_Y) (n ci : Nat) : Prop := GoodIn Y.2.2.2.2.1 (wsV Y.1.cls idx Y'.1.cls Y'.1 Y'.2.2.2.2.1) ∧ rp_code Y' ∧ rp_name Y' n ∧ rp_room Y Y' ∧ (∃ q : vw_C, vwCl[ci]? = some q ∧ q.1 = Y'.1.cls)
def rp_cs (Y : rp_Y) (idx : Nat) (Y' : rp_Y) (n : Nat) : Prop := GoodIn Y.2.2.2.2.1 (va_wsS Y.1.cls idx Y'.1 Y'.2.2.2.2.1) ∧ rp_code Y' ∧ rp_name Y' n ∧ rp_room Y Y'
theorem rp_inc {a b : List Cond} (h : a.all (fun w => decide (w ∈ b)) = true) : ∀ w ∈ a, w ∈ b := fun w hw => by
  have := List.all_eq_true.mp h w hw
  simpa using this
theorem rp_sz {M : rp_M} {k i : Nat} {x : Int32} {E : rp_E} (h : k < 170) {e : va_E} (he : rp_en E.2.2.1 E.2.2.2.1 (rp_sh k) (upd (M k) i x) = e) : (rp_ws E M).set k (E.2.2.1 k, e) = rp_ws E (rp_s M k i x) := by
  rw [rp_ws_set E M h _ he, rp_s_row]
section RPF
variable {E : rp_E} {Y : rp_Y} {post : Option Int32 → rp_M → Prop} {pc : Nat} {L st : List Value} {M : rp_M}
theorem ok_getI {idx ci k id : Nat} {refs : List (Option Nat)} (hd : decode Y.2.1 pc = .ok (.getfield idx, 3)) (hf : rp_fl Y idx ci k) (hid : id < 170) (hsh : rp_sh id = (ci + 4, 0, refs)) (hr : refs[k]? = some none) (kk : rp_G E Y post (pc + 3) L (.int (M id k) :: st) M) : rp_G E Y post pc L (.ref id :: st) M := by
  intro p e s m args below meth c H locs ls X
  obtain ⟨q, h1, h2, h3, h4, h5⟩ := hf
  rw [List.map_cons, rp_rvr E hid]
  refine va_get (C := q.1) (T := q.2.1) (N := q.2.2) X.1.1 X.1.2.1 X.1.2.2.2.2.2.2.1 h5 X.1.2.2.2.2.2.1 X.1.2.2.2.2.2.2.2.1 X.2.1.1 id (rp_ws_at E M hid |>.trans (by rw [hsh]; rfl)) h1 k h2 (X.1.2.2.2.2.2.2.1 _ h4) (fun x hx => by rw [← h3]; exact hx) (v := .int (M id k)) ?_ hd (kk p e s m args below meth c H locs ls X)
  have := rp_fs_get E.2.2.1 (M id) refs 0 k none hr
  rw [Nat.zero_add] at this
  exact this
theorem ok_getR {idx ci k id j : Nat} {refs : List (Option Nat)} (hd : decode Y.2.1 pc = .ok (.getfield idx, 3)) (hf : rp_fl Y idx ci k) (hid : id < 170) (hsh : rp_sh id = (ci + 4, 0, refs)) (hr : refs[k]? = some (some j)) (hj : j < 170) (kk : rp_G E Y post (pc + 3) L (.ref j :: st) M) : rp_G E Y post pc L (.ref id :: st) M := by
  intro p e s m args below meth c H locs ls X
  obtain ⟨q, h1, h2, h3, h4, h5⟩ := hf
  have K := kk p e s m args below meth c H locs ls X
  rw [List.map_cons, rp_rvr E hj] at K
  rw [List.map_cons, rp_rvr E hid]
  exact va_get (C := q.1) (T := q.2.1) (N := q.2.2) X.1.1 X.1.2.1 X.1.2.2.2.2.2.2.1 h5 X.1.2.2.2.2.2.1 X.1.2.2.2.2.2.2.2.1 X.2.1.1 id (rp_ws_at E M hid |>.trans (by rw [hsh]; rfl)) h1 k h2 (X.1.2.2.2.2.2.2.1 _ h4) (fun x hx => by rw [← h3]; exact hx) (v := .ref (E.2.2.1 j)) (rp_fs_get E.2.2.1 (M id) refs 0 k (some j) hr) hd K
theorem ok_put {idx ci k id : Nat} {refs : List (Option Nat)} {ty : FieldType} {x : Int32} (hd : decode Y.2.1 pc = .ok (.putfield idx, 3)) (hf : rp_pl Y idx ci k ty) (hid : id < 170) (hsh : rp_sh id = (ci + 4, 0, refs)) (hr : refs[k]? = some none) (hn : narrow ty (.int x) = .int x) (hfit : fits ty (.int x) = true) (kk : rp_G E Y post (pc + 3) L st (rp_s M id k x)) : rp_G E Y post pc L (.int x :: .ref id :: st) M := by
  intro p e s m args below meth c H locs ls X
  obtain ⟨q, ty0, h1, h2, h3, h4, h5, h6, h7, h8, h9⟩ := hf
  rw [List.map_cons, List.map_cons, rp_rvr E hid]
  have hw : rp_en E.2.2.1 E.2.2.2.1 (rp_sh id) (upd (M id) k x) = .inr (ci, (rp_fs E.2.2.1 (M id) 0 refs).set k (.int x)) := by
    rw [rp_fs_set E.2.2.1 (M id) x refs 0 k hr, hsh, Nat.zero_add]
    rfl
  refine va_put (C := q.1) (T := q.2.1) (N := q.2.2) X.1.1 X.1.2.1 X.1.2.2.2.2.2.2.1 h5 ty0 h6 h7 X.1.2.2.2.2.2.1 X.1.2.2.2.2.2.2.2.1 X.2.1.1 X.2.1.2.1 X.2.1.2.2 id (fs := rp_fs E.2.2.1 (M id) 0 refs) (rp_ws_at E M hid |>.trans (by rw [hsh]; rfl)) h1 k h2 (X.1.2.2.2.2.2.2.1 _ h4) (fun x hx => by rw [← h3]; exact hx) h8 h9 hn hfit (by rw [rp_fs_len]; exact (List.getElem?_eq_some_iff.mp hr).1) hd (fun H1 locs1 a1 a2 a3 => ?_)
  rw [show rp_rv E (Value.int x) = Value.int x from rfl, rp_sz hid hw] at a1 a2
  exact kk p e s m args below meth c H1 locs1 ls ⟨X.1, ⟨a1, a2, a3⟩, X.2.2⟩
theorem ok_iaload {id n j : Nat} {i : Int32} (hd : decode Y.2.1 pc = .ok (.iaload, 1)) (hid : id < 170) (hsh : rp_sh id = (0, n, [])) (hin : vp_in i n) (hj : i.toNatClampNeg = j) (kk : rp_G E Y post (pc + 1) L (.int (M id j) :: st) M) : rp_G E Y post pc L (.int i :: .ref id :: st) M := by
  subst hj
  intro p e s m args below meth c H locs ls X
  rw [List.map_cons, List.map_cons, rp_rvr E hid]
  exact va_iald X.1.1 X.1.2.1 X.1.2.2.2.2.2.2.2.1 X.2.1.1 id 0 (n := n) (f := M id) (rp_ws_at E M hid |>.trans (by rw [hsh]; rfl)) rfl hin hd (kk p e s m args below meth c H locs ls X)
theorem ok_zaload {id n j : Nat} {i : Int32} (hd : decode Y.2.1 pc = .ok (.baload, 1)) (hid : id < 170) (hsh : rp_sh id = (1, n, [])) (hin : vp_in i n) (hj : i.toNatClampNeg = j) (kk : rp_G E Y post (pc + 1) L (.int (M id j) :: st) M) : rp_G E Y post pc L (.int i :: .ref id :: st) M := by
  subst hj
  intro p e s m args below meth c H locs ls X
  rw [List.map_cons, List.map_cons, rp_rvr E hid]
  exact va_zald X.1.1 X.1.2.1 X.1.2.2.2.2.2.2.2.1 X.2.1.1 id 1 (n := n) (f := M id) (rp_ws_at E M hid |>.trans (by rw [hsh]; rfl)) rfl hin hd (kk p e s m args below meth c H locs ls X)
theorem ok_iastore {id n j : Nat} {i x : Int32} (hd : decode Y.2.1 pc = .ok (.iastore, 1)) (hid : id < 170) (hsh : rp_sh id = (0, n, [])) (hin : vp_in i n) (hj : i.toNatClampNeg = j) (kk : rp_G E Y post (pc + 1) L st (rp_s M id j x)) : rp_G E Y post pc L (.int x :: .int i :: .ref id :: st) M := by
  subst hj
  intro p e s m args below meth c H locs ls X
  rw [List.map_cons, List.map_cons, List.map_cons, rp_rvr E hid]
  refine va_iast X.1.1 X.1.2.1 X.1.2.2.2.2.2.2.2.1 X.2.1.1 X.2.1.2.1 X.2.1.2.2 id 0 (n := n) (f := M id) (rp_ws_at E M hid |>.trans (by rw [hsh]; rfl)) rfl hin hd (fun H1 locs1 a1 a2 a3 => ?_)
  rw [rp_sz hid (by rw [hsh]; rfl)] at a1 a2
  exact kk p e s m args below meth c H1 locs1 ls ⟨X.1, ⟨a1, a2, a3⟩, X.2.2⟩
theorem ok_zastore {id n j : Nat} {i x : Int32} (hd : decode Y.2.1 pc = .ok (.bastore, 1)) (hid : id < 170) (hsh : rp_sh id = (1, n, [])) (hin : vp_in i n) (hj : i.toNatClampNeg = j) (hx : vp_nar .boolean x = x) (kk : rp_G E Y post (pc + 1) L st (rp_s M id j x)) : rp_G E Y post pc L (.int x :: .int i :: .ref id :: st) M := by
  subst hj
  intro p e s m args below meth c H locs ls X
  rw [List.map_cons, List.map_cons, List.map_cons, rp_rvr E hid]
  refine va_zast X.1.1 X.1.2.1 X.1.2.2.2.2.2.2.2.1 X.2.1.1 X.2.1.2.1 X.2.1.2.2 id 1 (n := n) (f := M id) (rp_ws_at E M hid |>.trans (by rw [hsh]; rfl)) rfl hin hd (fun H1 locs1 a1 a2 a3 => ?_)
  rw [hx] at a1 a2
  rw [rp_sz hid (by rw [hsh]; rfl)] at a1 a2
  exact kk p e s m args below meth c H1 locs1 ls ⟨X.1, ⟨a1, a2, a3⟩, X.2.2⟩
/-- a row of int[][] -/
theorem ok_aaload2 {id n j : Nat} {i : Int32} {refs : List (Option Nat)} (hd : decode Y.2.1 pc = .ok (.aaload, 1)) (hid : id < 170) (hsh : rp_sh id = (2, n, refs)) (hin : vp_in i n) (hr : refs[i.toNatClampNeg]? = some (some j)) (hj : j < 170) (kk : rp_G E Y post (pc + 1) L (.ref j :: st) M) : rp_G E Y post pc L (.int i :: .ref id :: st) M := by
  intro p e s m args below meth c H locs ls X
  have K := kk p e s m args below meth c H locs ls X
  rw [List.map_cons, rp_rvr E hj] at K
  rw [List.map_cons, List.map_cons, rp_rvr E hid]
  have hlt : i.toNatClampNeg < n := Nat.not_le.mp fun q => hin (Or.inr q)
  have ha : (rp_ws E M)[id]? = some (E.2.2.1 id, .inl (E.2.2.2.1 2, n, .inr (.inr (.inr (.inr (fun j => (refs.getD j none).map E.2.2.1)))))) := rp_ws_at E M hid |>.trans (by rw [hsh]; rfl)
  have hv : (refs.getD i.toNatClampNeg none).map E.2.2.1 = some (E.2.2.1 j) := by rw [List.getD_eq_getElem?_getD, hr]; rfl
  exact W.aald (v := .ref (E.2.2.1 j)) (ty := .array .int) X.1.1 X.1.2.1 (X.2.1.1 id _ ha) ((X.1.2.2.2.2.2.2.2.1.2 2 (E.2.2.2.1 2, .array .int) rfl).1 n (fun j => va_rf ((refs.getD j none).map E.2.2.1))) rfl (fun q => by cases q) (by show ¬ (i < 0 ∨ (arrV _ _ _).slots.size ≤ _); rw [arrV_size]; exact hin) (by show (arrV _ _ _).slots[_]? = _; rw [arrV_read _ _ hlt]; show some (va_rf ((refs.getD i.toNatClampNeg none).map E.2.2.1)) = _; rw [hv]; rfl) rfl rfl hd K
/-- an object of State[] -/
theorem ok_aaload3 {id n j : Nat} {i : Int32} {refs : List (Option Nat)} (hd : decode Y.2.1 pc = .ok (.aaload, 1)) (hid : id < 170) (hsh : rp_sh id = (3, n, refs)) (hin : vp_in i n) (hr : refs[i.toNatClampNeg]? = some (some j)) (hj : j < 170) (kk : rp_G E Y post (pc + 1) L (.ref j :: st) M) : rp_G E Y post pc L (.int i :: .ref id :: st) M := by
  intro p e s m args below meth c H locs ls X
  have K := kk p e s m args below meth c H locs ls X
  rw [List.map_cons, rp_rvr E hj] at K
  rw [List.map_cons, List.map_cons, rp_rvr E hid]
  have hv : (refs.getD i.toNatClampNeg none).map E.2.2.1 = some (E.2.2.1 j) := by rw [List.getD_eq_getElem?_getD, hr]; rfl
  refine va_aldq X.1.1 X.1.2.1 X.1.2.2.2.2.2.2.2.1 X.2.1.1 id 3 (n := n) (C := "RobustPacking$State") (f := fun j => (refs.getD j none).map E.2.2.1) (rp_ws_at E M hid |>.trans (by rw [hsh]; rfl)) rfl hin hd ?_
  rw [hv]
  exact K
/-! rows of State's properties, of the pad's items; the history's states -/
theorem rp_b {i : Int32} {n : Nat} (h : vp_in i n) : i.toNatClampNeg < n := Nat.not_le.mp fun q => h (Or.inr q)
theorem rp_sh_st {s : Nat} (hs : s < 13) : rp_sh (10 * s) = (4 + 4, 0, [some (10 * s + 1), some (10 * s + 7), some (10 * s + 8), some (10 * s + 9), none]) := by
  unfold rp_sh
  rw [if_pos (by omega), if_pos (by omega)]
theorem rp_sh_s1 {s : Nat} (hs : s < 13) : rp_sh (10 * s + 1) = (2, 5, [some (10 * s + 1 + 1), some (10 * s + 1 + 2), some (10 * s + 1 + 3), some (10 * s + 1 + 4), some (10 * s + 1 + 5)]) := by
  unfold rp_sh
  rw [if_pos (by omega), if_neg (by omega), if_pos (by omega)]
theorem rp_sh_s7 {s : Nat} (hs : s < 13) : rp_sh (10 * s + 7) = (0, 12, []) := by
  unfold rp_sh
  rw [if_pos (by omega), if_neg (by omega), if_neg (by omega), if_neg (by omega)]
theorem rp_sh_s8 {s : Nat} (hs : s < 13) : rp_sh (10 * s + 8) = (0, 12, []) := by
  unfold rp_sh
  rw [if_pos (by omega), if_neg (by omega), if_neg (by omega), if_neg (by omega)]
theorem rp_sh_s9 {s : Nat} (hs : s < 13) : rp_sh (10 * s + 9) = (0, 3, []) := by
  unfold rp_sh
  rw [if_pos (by omega), if_neg (by omega), if_neg (by omega), if_pos (by omega)]
theorem rp_sh_ps {s q : Nat} (hs : s < 13) (hq : q < 5) : rp_sh (10 * s + 2 + q) = (0, 12, []) := by
  unfold rp_sh
  rw [if_pos (by omega), if_neg (by omega), if_neg (by omega), if_neg (by omega)]
theorem rp_sh_p0 {q : Nat} (hq : q < 5) : rp_sh (2 + q) = (0, 12, []) := by
  unfold rp_sh
  rw [if_pos (by omega), if_neg (by omega), if_neg (by omega), if_neg (by omega)]
theorem rp_sh_pP {q : Nat} (hq : q < 5) : rp_sh (134 + q) = (0, 20, []) := by
  unfold rp_sh
  rw [if_neg (by omega), if_neg (by omega), if_neg (by omega), if_neg (by omega), if_neg (by omega), if_pos (by omega)]
theorem rp_h12 {i : Int32} (h : vp_in i 12) : 1 + i.toNatClampNeg < 13 := by
  have := rp_b h
  omega
theorem ok_props {s : Nat} (hs : s < 13) {i : Int32} (hd : decode Y.2.1 pc = .ok (.aaload, 1)) (hin : vp_in i 5) (kk : rp_G E Y post (pc + 1) L (.ref (10 * s + 2 + i.toNatClampNeg) :: st) M) : rp_G E Y post pc L (.int i :: .ref (10 * s + 1) :: st) M := by
  have hq := rp_b hin
  refine ok_aaload2 hd (by omega) (rp_sh_s1 hs) hin ?_ (by omega) kk
  generalize i.toNatClampNeg = q at hq
  match q, hq with
  | 0, _ => rfl
  | 1, _ => rfl
  | 2, _ => rfl
  | 3, _ => rfl
  | 4, _ => rfl
  | q + 5, hq => omega
theorem ok_prop0 {i : Int32} (hd : decode Y.2.1 pc = .ok (.aaload, 1)) (hin : vp_in i 5) (kk : rp_G E Y post (pc + 1) L (.ref (2 + i.toNatClampNeg) :: st) M) : rp_G E Y post pc L (.int i :: .ref 1 :: st) M := by
  have hq := rp_b hin
  refine ok_aaload2 (refs := [some 2, some 3, some 4, some 5, some 6]) hd (by omega) rfl hin ?_ (by omega) kk
  generalize i.toNatClampNeg = q at hq
  match q, hq with
  | 0, _ => rfl
  | 1, _ => rfl
  | 2, _ => rfl
  | 3, _ => rfl
  | 4, _ => rfl
  | q + 5, hq => omega
theorem ok_propP {i : Int32} (hd : decode Y.2.1 pc = .ok (.aaload, 1)) (hin : vp_in i 5) (kk : rp_G E Y post (pc + 1) L (.ref (134 + i.toNatClampNeg) :: st) M) : rp_G E Y post pc L (.int i :: .ref 133 :: st) M := by
  have hq := rp_b hin
  refine ok_aaload2 (refs := [some 134, some 135, some 136, some 137, some 138]) hd (by omega) rfl hin ?_ (by omega) kk
  generalize i.toNatClampNeg = q at hq
  match q, hq with
  | 0, _ => rfl
  | 1, _ => rfl
  | 2, _ => rfl
  | 3, _ => rfl
  | 4, _ => rfl
  | q + 5, hq => omega
theorem ok_hist {i : Int32} (hd : decode Y.2.1 pc = .ok (.aaload, 1)) (hin : vp_in i 12) (kk : rp_G E Y post (pc + 1) L (.ref (10 * (1 + i.toNatClampNeg)) :: st) M) : rp_G E Y post pc L (.int i :: .ref 130 :: st) M := by
  have hq := rp_b hin
  refine ok_aaload3 (refs := [some 10, some 20, some 30, some 40, some 50, some 60, some 70, some 80, some 90, some 100, some 110, some 120]) hd (by omega) rfl hin ?_ (by omega) kk
  generalize i.toNatClampNeg = q at hq
  match q, hq with
  | 0, _ => rfl
  | 1, _ => rfl
  | 2, _ => rfl
  | 3, _ => rfl
  | 4, _ => rfl
  | 5, _ => rfl
  | 6, _ => rfl
  | 7, _ => rfl
  | 8, _ => rfl
  | 9, _ => rfl
  | 10, _ => rfl
  | 11, _ => rfl
  | q + 12, hq => omega
/-- a static array, and its places -/
theorem ok_gets {idx j : Nat} (hd : decode Y.2.1 pc = .ok (.getstatic idx, 3)) (hj : j < 3) (hw : Cond.fieldLink Y.1.cls idx "RobustPacking" (rp_sn j) "[I" ∈ Y.2.2.2.2.1) (kk : rp_G E Y post (pc + 3) L (.ref (1000 + j) :: st) M) : rp_G E Y post pc L st M := by
  intro p e s m args below meth c H locs ls X
  have K := kk p e s m args below meth c H locs ls X
  rw [List.map_cons, rp_rvs] at K
  exact va_gets X.1.1 X.1.2.1 (X.1.2.2.2.2.2.2.2.2.1 j hj).1 X.2.1.2.2 X.1.2.2.2.2.2.1 (X.1.2.2.2.2.2.2.1 _ hw) (fun _ h => h) hd K
theorem ok_saload {j : Nat} {i : Int32} (hd : decode Y.2.1 pc = .ok (.iaload, 1)) (hj : j < 3) (hin : vp_in i (rp_sv j).length) (kk : rp_G E Y post (pc + 1) L (.int ((rp_sv j).getD i.toNatClampNeg 0) :: st) M) : rp_G E Y post pc L (.int i :: .ref (1000 + j) :: st) M := by
  intro p e s m args below meth c H locs ls X
  rw [List.map_cons, List.map_cons, rp_rvs]
  exact va_ti X.1.1 X.1.2.1 (X.1.2.2.2.2.2.2.2.2.1 j hj).2 X.2.1.2.2 hin rfl hd (kk p e s m args below meth c H locs ls X)
/-- System.arraycopy of ints -/
theorem ok_copy {idx id0 id1 n0 n1 : Nat} {sp dp n : Int32} (hd : decode Y.2.1 pc = .ok (.invokestatic idx, 3)) (hw : Cond.methodLink Y.1.cls idx arraycopyName ∈ Y.2.2.2.2.1 ∧ Cond.native arraycopyName ∈ Y.2.2.2.2.1 ∧ Cond.static arraycopyName ∈ Y.2.2.2.2.1 ∧ Cond.initialized "java/lang/System" ∈ Y.2.2.2.2.1) (hid0 : id0 < 170) (hid1 : id1 < 170) (hsh0 : rp_sh id0 = (0, n0, [])) (hsh1 : rp_sh id1 = (0, n1, []))
    (hroom : 1 ≤ Y.2.2.2.2.2.frames ∧ (st.map fun v => v.category).sum + (nativeFrameWords "java/lang/System" "arraycopy" 5 + 11) ≤ Y.2.2.2.2.2.locals) (h1 : ¬ sp < 0) (h2 : ¬ dp < 0) (h3 : ¬ n < 0) (h4 : sp.toNatClampNeg + n.toNatClampNeg ≤ n0) (h5 : dp.toNatClampNeg + n.toNatClampNeg ≤ n1)
    (kk : rp_G E Y post (pc + 3) L st (rp_row M id1 (va_cpy (M id0) (M id1) sp.toNatClampNeg dp.toNatClampNeg n.toNatClampNeg))) : rp_G E Y post pc L (.int n :: .int dp :: .ref id1 :: .int sp :: .ref id0 :: st) M := by
  intro p e s m args below meth c H locs ls X
  rw [List.map_cons, List.map_cons, List.map_cons, List.map_cons, List.map_cons, rp_rvr E hid0, rp_rvr E hid1]
  refine va_copyi X.1.1 X.1.2.1 (X.1.2.2.1.trans X.2.2.1.symm) X.1.2.2.2.2.2.1 (X.1.2.2.2.2.2.2.1 _ hw.1) (X.1.2.2.2.2.2.2.1 _ hw.2.1) (X.1.2.2.2.2.2.2.1 _ hw.2.2.1) (X.1.2.2.2.2.2.2.1 _ hw.2.2.2) X.1.2.2.2.2.2.2.2.1 X.2.1.1 X.2.1.2.1 X.2.1.2.2 id0 id1 0 0 (n0 := n0) (n1 := n1) (f := M id0) (g := M id1) (ty := .int) (rp_ws_at E M hid0 |>.trans (by rw [hsh0]; rfl)) (rp_ws_at E M hid1 |>.trans (by rw [hsh1]; rfl)) rfl rfl rfl h1 h2 h3 h4 h5 (fun i _ => rfl) hroom.1 (by rw [rp_cats]; exact hroom.2) hd (fun H1 locs1 a1 a2 a3 => ?_)
  rw [rp_ws_set E M hid1 (va_cpy (M id0) (M id1) sp.toNatClampNeg dp.toNatClampNeg n.toNatClampNeg) (by rw [hsh1]; rfl)] at a1 a2
  exact kk p e s m args below meth c H1 locs1 ls ⟨X.1, ⟨a1, a2, a3⟩, X.2.2⟩
/-- Math.max, Math.min -/
theorem ok_mmax {idx : Nat} {x y : Int32} (hd : decode Y.2.1 pc = .ok (.invokestatic idx, 3)) (hw : Cond.methodLink Y.1.cls idx Lib.Math.max.name ∈ Y.2.2.2.2.1 ∧ Cond.static Lib.Math.max.name ∈ Y.2.2.2.2.1 ∧ Cond.initialized "java/lang/Math" ∈ Y.2.2.2.2.1 ∧ Cond.code Lib.Math.max.name Lib.Math.max.code 2 (some .int) ∈ Y.2.2.2.2.1) (hroom : 1 ≤ Y.2.2.2.2.2.frames ∧ (st.map fun v => v.category).sum + 13 ≤ Y.2.2.2.2.2.locals)
    (kk : rp_G E Y post (pc + 3) L (.int (if x < y then y else x) :: st) M) : rp_G E Y post pc L (.int y :: .int x :: st) M :=
  fun p e s m args below meth c H locs ls X => va_mmax X.1.1 X.1.2.1 (X.1.2.2.1.trans X.2.2.1.symm) X.1.2.2.2.2.2.1 (X.1.2.2.2.2.2.2.1 _ hw.1) (X.1.2.2.2.2.2.2.1 _ hw.2.1) (X.1.2.2.2.2.2.2.1 _ hw.2.2.1) (X.1.2.2.2.2.2.2.1 _ hw.2.2.2) hroom.1 (by rw [rp_cats]; exact hroom.2) (Nat.zero_le _) (Nat.zero_le _) hd (kk p e s m args below meth c H locs ls X)
theorem ok_mmin {idx : Nat} {x y : Int32} (hd : decode Y.2.1 pc = .ok (.invokestatic idx, 3)) (hw : Cond.methodLink Y.1.cls idx Lib.Math.min.name ∈ Y.2.2.2.2.1 ∧ Cond.static Lib.Math.min.name ∈ Y.2.2.2.2.1 ∧ Cond.initialized "java/lang/Math" ∈ Y.2.2.2.2.1 ∧ Cond.code Lib.Math.min.name Lib.Math.min.code 2 (some .int) ∈ Y.2.2.2.2.1) (hroom : 1 ≤ Y.2.2.2.2.2.frames ∧ (st.map fun v => v.category).sum + 13 ≤ Y.2.2.2.2.2.locals)
    (kk : rp_G E Y post (pc + 3) L (.int (if y < x then y else x) :: st) M) : rp_G E Y post pc L (.int y :: .int x :: st) M :=
  fun p e s m args below meth c H locs ls X => va_mmin X.1.1 X.1.2.1 (X.1.2.2.1.trans X.2.2.1.symm) X.1.2.2.2.2.2.1 (X.1.2.2.2.2.2.2.1 _ hw.1) (X.1.2.2.2.2.2.2.1 _ hw.2.1) (X.1.2.2.2.2.2.2.1 _ hw.2.2.1) (X.1.2.2.2.2.2.2.1 _ hw.2.2.2) hroom.1 (by rw [rp_cats]; exact hroom.2) (Nat.zero_le _) (Nat.zero_le _) hd (kk p e s m args below meth c H locs ls X)
/-- behind a call -/
theorem rp_call {p : Program} {e : Env} {s : State} {m : MethodId} {args a : Array Value} {below : List Frame} {meth : Method} {c : Code} {H : Heap} {locs : List Loc} {ls : Array Slot} {rest st0 : List Value} {P : Option Int32 → rp_M → Prop} (X : rp_X E Y M L p s m args meth c H locs ls)
    (hr : va_Run p E.1 e Y.2.2.2.2.2 s m args below meth c H locs 0 0 0 0 (F0 m pc ls st0) (rest.map (rp_rv E)) (rp_Q E P a) (rp_A E)) (kk : ∀ r M', P r M' → rp_G E Y post (pc + 3) L ((r.map Value.int).toList ++ rest) M') : W p E.1 e Y.2.2.2.2.2 s m args below meth c H locs 0 0 (MQ below (rp_Q E post) args s 0 0 (rp_A E)) (F0 m pc ls st0) := by
  intro T hT XT
  obtain ⟨v, st₀, t, T', Lc, h0, X', hL, e1, e2, ⟨⟨r, M', hv, hp, hB⟩, hz, hk⟩, st⟩ := hr T hT XT
  rw [h0] at hz hk
  have hv2 : v = r.map Value.int := by injection hv
  subst hv2
  obtain ⟨t2, a1, b1⟩ := kk r M' hp p e s m args below meth c T'.heap (locs ++ Lc) ls ⟨X.1, ⟨by rw [e1]; exact hB.1, hB.2.1, ⟨Nat.le_trans X.2.1.2.2.1 (by rw [e1]; exact hz), fun q h1 h2 => by rw [e1, hk q (Nat.lt_of_lt_of_le h1 X.2.1.2.2.1) h2]; exact X.2.1.2.2.2.1 q h1 h2, fun q hq => by
      rcases List.mem_append.mp hq with h | h
      · exact X.2.1.2.2.2.2 q h
      · exact hL q h⟩⟩, X.2.2⟩ T' rfl X'
  refine ⟨t2, st t2 ?_, b1⟩
  cases r <;> exact a1
theorem ok_callV {Y' : rp_Y} {idx id n ci : Nat} {refs : List (Option Nat)} {as rest : List Value} {P : Option Int32 → rp_M → Prop} (hd : decode Y.2.1 pc = .ok (.invokevirtual idx, 3)) (hc : rp_cv Y idx Y' n ci) (hid : id < 170) (hsh : rp_sh id = (ci + 4, 0, refs)) (hst : st = as.reverse ++ .ref id :: rest) (hn : as.length = n) (hcat : (rest.map fun v => v.category).sum ≤ 8) (hrun : rp_Run E Y' (.ref id :: as) M P) (kk : ∀ r M', P r M' → rp_G E Y post (pc + 3) L ((r.map Value.int).toList ++ rest) M') : rp_G E Y post pc L st M := by
  intro p e s m args below meth c H locs ls X
  obtain ⟨hg, ⟨ws', hw⟩, hnm, hrm, q, hq, hq1⟩ := hc
  subst hst
  refine rp_call X (va_runV (b := E.2.2.1 id) (As := as.map (rp_rv E)) (rest := rest.map (rp_rv E)) (bytes := Y'.2.1) (maxL := Y'.2.2.1) (ret := Y'.2.2.2.1) ⟨X.1.1, X.1.2.1, X.1.2.2.1, X.1.2.2.2.2.2.1, X.1.2.2.2.2.2.2.1⟩ hrun (cwV n X.1.2.2.2.2.2.2.1 hg hw hrm.1 hrm.2.1 ⟨rfl, hnm⟩ ⟨hrm.2.2.1, hrm.2.2.2⟩) ⟨rp_B_blind E _ M, ?_, fun U hU hW => ⟨by rw [List.map_cons, rp_rvr E hid], rp_B_of X hU hW⟩⟩ rfl (by rw [List.length_map]; exact hn) X.2.2.1 ?_ (lv_room (by rw [rp_cats]; exact hcat)) hd ⟨Nat.zero_le _, Nat.zero_le _⟩) kk
  · rw [← hq1]
    exact va_recv X.1.2.2.2.2.2.2.2.1 X.2.1.1 hq (rp_ws_at E M hid |>.trans (by rw [hsh]; rfl))
  · show (as.reverse ++ Value.ref id :: rest).map (rp_rv E) = _
    rw [List.map_append, List.map_reverse, List.map_cons, rp_rvr E hid]
theorem ok_callS {Y' : rp_Y} {idx n : Nat} {as rest : List Value} {P : Option Int32 → rp_M → Prop} (hd : decode Y.2.1 pc = .ok (.invokestatic idx, 3)) (hc : rp_cs Y idx Y' n) (hst : st = as.reverse ++ rest) (hn : as.length = n) (hcat : (rest.map fun v => v.category).sum ≤ 8) (hrun : rp_Run E Y' as M P) (kk : ∀ r M', P r M' → rp_G E Y post (pc + 3) L ((r.map Value.int).toList ++ rest) M') : rp_G E Y post pc L st M := by
  intro p e s m args below meth c H locs ls X
  obtain ⟨hg, ⟨ws', hw⟩, hnm, hrm⟩ := hc
  subst hst
  refine rp_call X (va_runS (As := as.map (rp_rv E)) (rest := rest.map (rp_rv E)) (bytes := Y'.2.1) (maxL := Y'.2.2.1) (ret := Y'.2.2.2.1) ⟨X.1.1, X.1.2.1, X.1.2.2.1, X.1.2.2.2.2.2.1, X.1.2.2.2.2.2.2.1⟩ hrun (va_cwS n X.1.2.2.2.2.2.2.1 hg hw hrm.1 hrm.2.1 hnm ⟨hrm.2.2.1, hrm.2.2.2⟩) ⟨rp_B_blind E _ M, fun U hU hW => ⟨rfl, rp_B_of X hU hW⟩⟩ rfl (by rw [List.length_map]; exact hn) X.2.2.1 ?_ (lv_room (by rw [rp_cats]; exact hcat)) hd ⟨Nat.zero_le _, Nat.zero_le _⟩) kk
  show (as.reverse ++ rest).map (rp_rv E) = _
  rw [List.map_append, List.map_reverse]
/-- the private static method of the outer class, from a nested one -/
theorem ok_callN {Y' : rp_Y} {idx n : Nat} {host : String} {as rest : List Value} {P : Option Int32 → rp_M → Prop} (hd : decode Y.2.1 pc = .ok (.invokestatic idx, 3)) (hG : GoodIn Y.2.2.2.2.1 Y'.2.2.2.2.1) (hco : rp_code Y') (hnm : rp_name Y' n) (hrm : rp_room Y Y') (hl : ∀ U, rp_St E U → va_Nw (.methodLinkNest Y.1.cls idx Y'.1 host) U) (hin : Cond.initialized Y'.1.cls ∈ Y.2.2.2.2.1) (hstt : Cond.static Y'.1 ∈ Y.2.2.2.2.1) (hst : st = as.reverse ++ rest) (hn : as.length = n) (hcat : (rest.map fun v => v.category).sum ≤ 8) (hrun : rp_Run E Y' as M P) (kk : ∀ r M', P r M' → rp_G E Y post (pc + 3) L ((r.map Value.int).toList ++ rest) M') : rp_G E Y post pc L st M := by
  intro p e s m args below meth c H locs ls X
  obtain ⟨ws', hw⟩ := hco
  subst hst
  refine rp_call X (va_runSN (As := as.map (rp_rv E)) (rest := rest.map (rp_rv E)) (bytes := Y'.2.1) (maxL := Y'.2.2.1) (ret := Y'.2.2.2.1) (host := host) ⟨X.1.1, X.1.2.1, X.1.2.2.1, X.1.2.2.2.2.2.1, X.1.2.2.2.2.2.2.1⟩ hrun ⟨va_cnB n X.1.2.2.2.2.2.2.1 hG hw hrm.1 hrm.2.1 (hl s X.1.2.2.2.2.2.2.2.2) (X.1.2.2.2.2.2.2.1 _ hin) hnm ⟨hrm.2.2.1, hrm.2.2.2⟩, X.1.2.2.2.2.2.2.1 _ hstt, trivial⟩ ⟨rp_B_blind E _ M, fun U hU hW => ⟨rfl, rp_B_of X hU hW⟩⟩ rfl (by rw [List.length_map]; exact hn) X.2.2.1 ?_ (lv_room (by rw [rp_cats]; exact hcat)) hd ⟨Nat.zero_le _, Nat.zero_le _⟩) kk
  show (as.reverse ++ rest).map (rp_rv E) = _
  rw [List.map_append, List.map_reverse]
end RPF
/-! the start -/
def rp_al : List Value → List Value
  | [] => []
  | v :: vs => if v.category = 2 then v :: .null :: rp_al vs else v :: rp_al vs
theorem rp_al_mem (E : rp_E) : ∀ (as : List Value) (i j : Nat) (v : Value), (rp_al as)[i]? = some v → v ≠ .null → (i + j, rp_rv E v) ∈ lv_args j (as.map (rp_rv E))
  | [], i, j, v, h, _ => by simp [rp_al] at h
  | w :: as, i, j, v, h, hv => by
    rw [List.map_cons]
    show (i + j, rp_rv E v) ∈ (j, rp_rv E w) :: lv_args (if (rp_rv E w).category = 2 then j + 2 else j + 1) (as.map (rp_rv E))
    rw [rp_cat]
    by_cases hc : w.category = 2
    · simp only [rp_al, hc, if_true] at h ⊢
      match i, h with
      | 0, h =>
        simp only [List.getElem?_cons_zero, Option.some.injEq] at h
        subst h
        rw [Nat.zero_add]
        exact List.mem_cons_self
      | 1, h =>
        simp only [List.getElem?_cons_succ, List.getElem?_cons_zero, Option.some.injEq] at h
        exact absurd h.symm hv
      | i + 2, h =>
        rw [List.getElem?_cons_succ, List.getElem?_cons_succ] at h
        have := rp_al_mem E as i (j + 2) v h hv
        rw [show i + (j + 2) = i + 2 + j by omega] at this
        exact List.mem_cons_of_mem _ this
    · simp only [rp_al, hc, if_false] at h ⊢
      match i, h with
      | 0, h =>
        simp only [List.getElem?_cons_zero, Option.some.injEq] at h
        subst h
        rw [Nat.zero_add]
        exact List.mem_cons_self
      | i + 1, h =>
        rw [List.getElem?_cons_succ] at h
        have := rp_al_mem E as i (j + 1) v h hv
        rw [show i + (j + 1) = i + 1 + j by omega] at this
        exact List.mem_cons_of_mem _ this
theorem rp_al_len (E : rp_E) : ∀ as : List Value, (lg_sl (as.map (rp_rv E))).length = (rp_al as).length
  | [] => rfl
  | v :: as => by
    have ih := rp_al_len E as
    unfold lg_sl at ih ⊢
    rw [List.map_cons, List.flatMap_cons, List.length_append, rp_cat, ih]
    by_cases hc : v.category = 2
    · simp [rp_al, hc]
      omega
    · simp [rp_al, hc]
      omega
theorem ok_start {E : rp_E} {Y : rp_Y} {post : Option Int32 → rp_M → Prop} {as : List Value} {M : rp_M} (hy : plainName Y.1.cls = true) (hco : rp_code Y) (hlen : (rp_al as).length ≤ Y.2.2.1) (kk : rp_G E Y post 0 (rp_al as ++ List.replicate (Y.2.2.1 - (rp_al as).length) .null) [] M) : rp_Run E Y as M post := by
  obtain ⟨ws', hw⟩ := hco
  refine Met.ofW (cc := Y.2.1) (maxL := Y.2.2.1) (ret := Y.2.2.2.1) hy hw ?_
  intro p e s m args below meth c s₁ B hml hv
  obtain ⟨rfl, hP, hD, hK, hSt⟩ := hv
  have hts := atoms_spec (ws := Y.2.2.2.2.1) B.pre
  have hown : s.vm.findClass Y.1.cls = some m.cls := findClass_of_methodNamed B.named
  have hl := lv_entry (as.map (rp_rv E)) (n := Y.2.2.1) (by rw [rp_al_len]; exact hlen)
  rw [lg_entry_eq]
  refine kk p e s m _ below meth c s.heap [] _ ⟨⟨B.exec, B.bytes, hml, B.returns, B.notSynchronized, hown, hts, hK, hSt⟩, ⟨hP, hD, va_S.rf⟩, hl.1, hl.2.1, fun i v h1 h2 => ?_⟩
  by_cases hi : i < (rp_al as).length
  · rw [List.getElem?_append_left hi] at h1
    exact hl.2.2 (i, rp_rv E v) (rp_al_mem E as i 0 v h1 h2)
  · rw [List.getElem?_append_right (by omega)] at h1
    rw [List.getElem?_replicate] at h1
    split at h1
    · cases h1
      exact absurd rfl h2
    · cases h1

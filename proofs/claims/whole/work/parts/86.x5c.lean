/-! CONSTRUCTORS, 4: the class's own -/
abbrev r5 : Room := { frames := 2, cells := 154, slots := 44284, locals := 52 }
def row5 (u : Nat → Nat) (i : Nat) : Nat → Option Nat := fun j => if j < i then some (u (10 * (j + 1))) else none
abbrev ob5 (a b c d e f : Value) : va_E := .inr (5, [a, b, .int 0, .int 0, c, d, e, f])
abbrev rw5 (ca : Nat → ClassId) (f : Nat → Option Nat) : va_E := .inl (ca 3, 12, .inr (.inr (.inr (.inr f))))
def nxt5 (u v : Nat → Nat) (i : Nat) : Nat → Nat := fun k => if k < 10 * (i + 1) then u k else v (k - 10 * (i + 1))
theorem nxt5_seg (u v : Nat → Nat) (ca : Nat → ClassId) {i : Nat} (hi : i < 12) : seg (nxt5 u v i) ca 0 (10 * (i + 1 + 1)) = seg u ca 0 (10 * (i + 1)) ++ seg v ca 0 10 := by
  rw [show 10 * (i + 1 + 1) = 10 * (i + 1) + 10 by omega, seg_app, Nat.zero_add]
  congr 1
  · exact seg_cg (inr_st (i + 1) (by omega)) (fun k _ h2 => if_pos (by omega))
  · refine seg_st (s := i + 1) (by omega) (fun j hj => ?_)
    show (if 10 * (i + 1) + j < 10 * (i + 1) then _ else v (10 * (i + 1) + j - 10 * (i + 1))) = v j
    rw [if_neg (by omega), Nat.add_sub_cancel_left]
theorem nxt5_row (u v : Nat → Nat) (i : Nat) : va_up (row5 u i) i (some (v 0)) = row5 (nxt5 u v i) (i + 1) := by
  funext j
  unfold va_up row5 nxt5
  by_cases e : j = i
  · subst e
    rw [if_pos rfl, if_pos (by omega), if_neg (by omega), Nat.sub_self]
  · rw [if_neg e]
    by_cases h : j < i
    · rw [if_pos h, if_pos (by omega), if_pos (by omega)]
    · rw [if_neg h, if_neg (by omega)]
theorem row5_full (u : Nat → Nat) : row5 u 12 = fun j => (([some 10, some 20, some 30, some 40, some 50, some 60, some 70, some 80, some 90, some 100, some 110, some 120] : List (Option Nat)).getD j none).map u := by
  funext j
  match j with
  | 0 => rfl
  | 1 => rfl
  | 2 => rfl
  | 3 => rfl
  | 4 => rfl
  | 5 => rfl
  | 6 => rfl
  | 7 => rfl
  | 8 => rfl
  | 9 => rfl
  | 10 => rfl
  | 11 => rfl
  | j + 12 =>
    unfold row5
    rw [if_neg (by omega)]
    rfl
section X5C
variable {p : Program} {l : Launch} {e : Env} {s : State} {m : MethodId} {args : Array Value} {below : List Frame} {meth : Method} {c : Code} {Q : State → Prop} {D : va_G} {ca : Nat → ClassId} {A : Nat → Prop} {h0 q1 : Nat}
set_option maxHeartbeats 4000000 in
set_option maxRecDepth 100000 in
theorem x5_loop (hF : CallFix p m c cX5_init 2 s args wsX5_init RX5) (hinc : ∀ w ∈ u_ws RX5 TX5 8, w ∈ wsX5_init) (hK : va_K D vwCl (rc_tys ca) s) (hAOA : va_AOA .int s) (hAO : va_AO "RobustPacking$State" s) (hA : ∀ q : Nat, s.heap.size ≤ q → A q)
    (kk : ∀ (u : Nat → Nat) (H : Heap) (locs : List Loc) (ls : Array Slot), va_P D vwCl ((h0, ob5 (.ref (u 0)) (.ref q1) .null .null .null .null) :: (q1, rw5 ca (row5 u 12)) :: seg u ca 0 130) H → va_D A ((h0, ob5 (.ref (u 0)) (.ref q1) .null .null .null .null) :: (q1, rw5 ca (row5 u 12)) :: seg u ca 0 130) → va_S A s.heap H locs → lv_has ls 2 [(0, .ref h0)] → W p l e r5 s m args below meth c H locs 131 1273 Q (F0 m 51 ls [])) :
    ∀ i, i ≤ 12 → ∀ (u : Nat → Nat) (H : Heap) (locs : List Loc) (ls : Array Slot), va_P D vwCl ((h0, ob5 (.ref (u 0)) (.ref q1) .null .null .null .null) :: (q1, rw5 ca (row5 u i)) :: seg u ca 0 (10 * (i + 1))) H → va_D A ((h0, ob5 (.ref (u 0)) (.ref q1) .null .null .null .null) :: (q1, rw5 ca (row5 u i)) :: seg u ca 0 (10 * (i + 1))) → va_S A s.heap H locs → lv_has ls 2 [(1, .int (nI i)), (0, .ref h0)] → W p l e r5 s m args below meth c H locs (11 + 10 * i) (109 + 97 * i) Q (F0 m 26 ls []) := by
  have hx := hF.1
  have hb := hF.2.1
  have hown := hF.2.2.2.1
  have hts := hF.2.2.2.2
  refine up_loop (fun i hi ih u H locs ls hP hD hS hl => ?_)
  refine lv_iload_n hx hb dX5_init_26 rfl (lv_at hl 0 rfl) ?_
  refine lv_bipush (v := 12) hx hb dX5_init_27 (by decide) ?_
  refine lv_icmp_ge (tgt := 51) hx hb dX5_init_29 (by decide) (fun h => ?_) (fun h => ?_)
  · have e12 : i = 12 := by
      rw [show (12 : Int32) = nI 12 by rfl, nI_leI (by omega) (by omega)] at h
      omega
    subst e12
    exact kk u H locs ls hP hD hS (lv_sub hl [1] rfl)
  · have hi2 : i < 12 := by
      rw [show (12 : Int32) = nI 12 by rfl, nI_leI (by omega) (by omega)] at h
      omega
    generalize hs0 : seg u ca 0 (10 * (i + 1)) = s0 at hP hD
    refine lv_aload_n hx hb dX5_init_32 rfl (lv_at hl 1 rfl) ?_
    refine va_get (D := D) (ci := 5) (v := .ref q1) (C := RX5) (T := TX5) (N := 8) hx hb hts hinc hown hK hP 0 rfl rfl 1 (by decide) (hts (.fieldLink RX5 16 "RobustPacking" "history" "[LRobustPacking$State;") (by decide +kernel)) (fun _ h9 => h9) rfl dX5_init_33 ?_
    refine lv_iload_n hx hb dX5_init_36 rfl (lv_at hl 0 rfl) ?_
    refine rc_make (ws := (h0, ob5 (.ref (u 0)) (.ref q1) .null .null .null .null) :: (q1, rw5 ca (row5 u i)) :: s0) (ci := 4) (T := TX4) (N := 5) (k0 := 0) (y := yX4_init) hF tyX4 (rp_inc (by decide +kernel)) tyX4_ok (hts (.classLink RX5 7 RX4) (by decide +kernel)) (hts (.instantiable RX4 5) (by decide +kernel)) (hts (.initialized RX4) (by decide +kernel)) hK hAOA hAO hP hD hS hA rfl (fun j hj => by rcases (show j = 0 ∨ j = 1 ∨ j = 2 ∨ j = 3 ∨ j = 4 by omega) with rfl | rfl | rfl | rfl | rfl <;> rfl) (rc_g (iX4 l D ca)) (cwI (bytes := cX4_init) (maxL := 1) 0 hts gX5_init_X4_init rfl rfl rfl (hts (.initialized RX4) (by decide +kernel)) (hts (.methodLink RX5 9 yX4_init) (by decide +kernel)) (hts (.instanceMethod yX4_init) (by decide +kernel)) rfl (by decide +kernel) ⟨Nat.le_of_ble_eq_true rfl, Nat.le_of_ble_eq_true rfl⟩) hl.1 (Nat.le_of_ble_eq_true rfl) (show 11 + 10 * i + 1 + 9 ≤ 154 by omega) (show 109 + 97 * i + 5 + 92 ≤ 44284 by omega) dX5_init_37 dX5_init_40 dX5_init_41 (fun v H locs hP hD hS => ?_)
    generalize hs1 : seg v ca 0 10 = s1 at hP hD
    have h10 : s1[0]? = some (v 0, .inr (4, [.ref (v 1), .ref (v 7), .ref (v 8), .ref (v 9), .int 0])) := by
      rw [← hs1]
      rfl
    refine va_astq (ws := ((h0, ob5 (.ref (u 0)) (.ref q1) .null .null .null .null) :: (q1, rw5 ca (row5 u i)) :: s0) ++ s1) (r := (RX4, TX4, 5)) (vs := [.ref (v 1), .ref (v 7), .ref (v 8), .ref (v 9), .int 0]) (n := 12) (f := row5 u i) (cA := ca 3) hx hb hK hP hD hS 1 3 ((h0, ob5 (.ref (u 0)) (.ref q1) .null .null .null .null) :: (q1, rw5 ca (row5 u i)) :: s0).length 4 rfl rfl (by rw [List.getElem?_append_right (Nat.le_refl _), Nat.sub_self]; exact h10) rfl (nI_inb (by omega) (by omega)) dX5_init_44 (fun H locs hP hD hS => ?_)
    rw [nI_clamp (by omega), nxt5_row] at hP hD
    have hP : va_P D vwCl ((h0, ob5 (.ref (u 0)) (.ref q1) .null .null .null .null) :: (q1, rw5 ca (row5 (nxt5 u v i) (i + 1))) :: (s0 ++ s1)) H := hP
    have hD : va_D A ((h0, ob5 (.ref (u 0)) (.ref q1) .null .null .null .null) :: (q1, rw5 ca (row5 (nxt5 u v i) (i + 1))) :: (s0 ++ s1)) := hD
    rw [← hs0, ← hs1, ← nxt5_seg u v ca hi2, show u 0 = nxt5 u v i 0 from (if_pos (by omega)).symm] at hP hD
    refine lv_iinc (v := nI (i + 1)) (lv' := [(1, .int (nI (i + 1))), (0, .ref h0)]) hx hb dX5_init_45 hl (k := 0) rfl (by rw [nI_succ]; rfl) (by decide) rfl (fun ls hl => ?_)
    refine lv_goto (tgt := 26) hx hb dX5_init_48 (by decide) ?_
    refine W.widen (k := 11 + 10 * (i + 1)) (n := 109 + 97 * (i + 1)) (by omega) (by omega) ?_
    exact ih hi2 (nxt5 u v i) H locs ls hP hD hS hl
set_option maxHeartbeats 4000000 in
set_option maxRecDepth 100000 in
theorem x5_tail (hF : CallFix p m c cX5_init 2 s args wsX5_init RX5) (hinc : ∀ w ∈ u_ws RX5 TX5 8, w ∈ wsX5_init) (hin : meth.name = "<init>") (hK : va_K D vwCl (rc_tys ca) s) (hAOA : va_AOA .int s) (hAO : va_AO "RobustPacking$State" s) (hA : ∀ q : Nat, s.heap.size ≤ q → A q) {a0 b0 : Value} {r0 : Nat × va_E} {s0 : va_W} {H : Heap} {locs : List Loc} {ls : Array Slot}
    (hP : va_P D vwCl ((h0, ob5 a0 b0 .null .null .null .null) :: r0 :: s0) H) (hD : va_D A ((h0, ob5 a0 b0 .null .null .null .null) :: r0 :: s0)) (hS : va_S A s.heap H locs) (hl : lv_has ls 2 [(0, .ref h0)])
    (kk : ∀ (v1 v2 v3 v4 : Nat → Nat) (H : Heap) (locs : List Loc), va_P D vwCl ((h0, ob5 a0 b0 (.ref (v1 131)) (.ref (v2 139)) (.ref (v3 147)) (.ref (v4 149))) :: r0 :: ((((s0 ++ seg v1 ca 131 8) ++ seg v2 ca 139 8) ++ seg v3 ca 147 2) ++ seg v4 ca 149 5)) H → va_D A ((h0, ob5 a0 b0 (.ref (v1 131)) (.ref (v2 139)) (.ref (v3 147)) (.ref (v4 149))) :: r0 :: ((((s0 ++ seg v1 ca 131 8) ++ seg v2 ca 139 8) ++ seg v3 ca 147 2) ++ seg v4 ca 149 5)) → va_S A s.heap H locs → W p l e r5 s m args below meth c H locs 154 44284 Q (F0 m 105 ls [])) :
    W p l e r5 s m args below meth c H locs 131 1273 Q (F0 m 51 ls []) := by
  have hx := hF.1
  have hb := hF.2.1
  have hown := hF.2.2.2.1
  have hts := hF.2.2.2.2
  refine lv_aload_n hx hb dX5_init_51 rfl (lv_at hl 0 rfl) ?_
  refine lv_iconst (v := 0) hx hb dX5_init_52 (by decide) ?_
  refine va_put (D := D) (ci := 5) (v := .int 0) (ty := .int) (C := RX5) (T := TX5) (N := 8) hx hb hts hinc tyX5 tyX5_ok nmX5 hown hK hP hD hS 0 rfl rfl 2 (by decide) (hts (.fieldLink RX5 20 "RobustPacking" "kept" "I") (by decide +kernel)) (fun _ h9 => h9) rfl (by decide +kernel) rfl rfl (Nat.le_of_ble_eq_true rfl) dX5_init_53 (fun H locs hP hD hS => ?_)
  have hP : va_P D vwCl ((h0, ob5 a0 b0 .null .null .null .null) :: r0 :: s0) H := hP
  have hD : va_D A ((h0, ob5 a0 b0 .null .null .null .null) :: r0 :: s0) := hD
  refine lv_aload_n hx hb dX5_init_56 rfl (lv_at hl 0 rfl) ?_
  refine lv_iconst (v := 0) hx hb dX5_init_57 (by decide) ?_
  refine va_put (D := D) (ci := 5) (v := .int 0) (ty := .int) (C := RX5) (T := TX5) (N := 8) hx hb hts hinc tyX5 tyX5_ok nmX5 hown hK hP hD hS 0 rfl rfl 3 (by decide) (hts (.fieldLink RX5 24 "RobustPacking" "nextKept" "I") (by decide +kernel)) (fun _ h9 => h9) rfl (by decide +kernel) rfl rfl (Nat.le_of_ble_eq_true rfl) dX5_init_58 (fun H locs hP hD hS => ?_)
  have hP : va_P D vwCl ((h0, ob5 a0 b0 .null .null .null .null) :: r0 :: s0) H := hP
  have hD : va_D A ((h0, ob5 a0 b0 .null .null .null .null) :: r0 :: s0) := hD
  refine lv_aload_n hx hb dX5_init_61 rfl (lv_at hl 0 rfl) ?_
  refine rc_make (ws := ((h0, ob5 a0 b0 .null .null .null .null) :: r0 :: s0)) (ci := 1) (T := TX1) (N := 5) (k0 := 131) (y := yX1_init) hF tyX1 (rp_inc (by decide +kernel)) tyX1_ok (hts (.classLink RX5 27 RX1) (by decide +kernel)) (hts (.instantiable RX1 5) (by decide +kernel)) (hts (.initialized RX1) (by decide +kernel)) hK hAOA hAO hP hD hS hA rfl (fun j hj => by rcases (show j = 0 ∨ j = 1 ∨ j = 2 ∨ j = 3 ∨ j = 4 by omega) with rfl | rfl | rfl | rfl | rfl <;> rfl) (rc_g (iX1 l D ca)) (cwI (bytes := cX1_init) (maxL := 1) 0 hts gX5_init_X1_init rfl rfl rfl (hts (.initialized RX1) (by decide +kernel)) (hts (.methodLink RX5 29 yX1_init) (by decide +kernel)) (hts (.instanceMethod yX1_init) (by decide +kernel)) rfl (by decide +kernel) ⟨Nat.le_of_ble_eq_true rfl, Nat.le_of_ble_eq_true rfl⟩) hl.1 (Nat.le_of_ble_eq_true rfl) (Nat.le_of_ble_eq_true rfl) (Nat.le_of_ble_eq_true rfl) dX5_init_62 dX5_init_65 dX5_init_66 (fun v1 H locs hP hD hS => ?_)
  generalize hs1 : seg v1 ca 131 8 = s1 at hP hD
  have hP : va_P D vwCl ((h0, ob5 a0 b0 .null .null .null .null) :: r0 :: (s0 ++ s1)) H := hP
  have hD : va_D A ((h0, ob5 a0 b0 .null .null .null .null) :: r0 :: (s0 ++ s1)) := hD
  refine W.widen (k := 139) (n := 1463) (Nat.le_of_ble_eq_true rfl) (Nat.le_of_ble_eq_true rfl) ?_
  refine va_putF (D := D) (ci := 5) (v := .ref (v1 131)) (ty := .object "RobustPacking$Pad") (C := RX5) (T := TX5) (N := 8) hx hb hts hinc tyX5 tyX5_ok nmX5 hown hK hP hD hS 0 rfl rfl 4 (by decide) (hts (.fieldLink RX5 30 "RobustPacking" "pad" "LRobustPacking$Pad;") (by decide +kernel)) (fun _ h9 => h9) rfl hin rfl (by decide +kernel) rfl rfl (Nat.le_of_ble_eq_true rfl) dX5_init_69 (fun H locs hP hD hS => ?_)
  have hP : va_P D vwCl ((h0, ob5 a0 b0 (.ref (v1 131)) .null .null .null) :: r0 :: (s0 ++ s1)) H := hP
  have hD : va_D A ((h0, ob5 a0 b0 (.ref (v1 131)) .null .null .null) :: r0 :: (s0 ++ s1)) := hD
  refine lv_aload_n hx hb dX5_init_72 rfl (lv_at hl 0 rfl) ?_
  refine rc_make (ws := ((h0, ob5 a0 b0 (.ref (v1 131)) .null .null .null) :: r0 :: (s0 ++ s1))) (ci := 0) (T := TX0) (N := 10) (k0 := 139) (y := yX0_init) hF tyX0 (rp_inc (by decide +kernel)) tyX0_ok (hts (.classLink RX5 34 RX0) (by decide +kernel)) (hts (.instantiable RX0 10) (by decide +kernel)) (hts (.initialized RX0) (by decide +kernel)) hK hAOA hAO hP hD hS hA rfl (fun j hj => by rcases (show j = 0 ∨ j = 1 ∨ j = 2 ∨ j = 3 ∨ j = 4 ∨ j = 5 ∨ j = 6 ∨ j = 7 ∨ j = 8 ∨ j = 9 by omega) with rfl | rfl | rfl | rfl | rfl | rfl | rfl | rfl | rfl | rfl <;> rfl) (rc_g (iX0 l D ca)) (cwI (bytes := cX0_init) (maxL := 1) 0 hts gX5_init_X0_init rfl rfl rfl (hts (.initialized RX0) (by decide +kernel)) (hts (.methodLink RX5 36 yX0_init) (by decide +kernel)) (hts (.instanceMethod yX0_init) (by decide +kernel)) rfl (by decide +kernel) ⟨Nat.le_of_ble_eq_true rfl, Nat.le_of_ble_eq_true rfl⟩) hl.1 (Nat.le_of_ble_eq_true rfl) (Nat.le_of_ble_eq_true rfl) (Nat.le_of_ble_eq_true rfl) dX5_init_73 dX5_init_76 dX5_init_77 (fun v2 H locs hP hD hS => ?_)
  generalize hs2 : seg v2 ca 139 8 = s2 at hP hD
  have hP : va_P D vwCl ((h0, ob5 a0 b0 (.ref (v1 131)) .null .null .null) :: r0 :: ((s0 ++ s1) ++ s2)) H := hP
  have hD : va_D A ((h0, ob5 a0 b0 (.ref (v1 131)) .null .null .null) :: r0 :: ((s0 ++ s1) ++ s2)) := hD
  refine W.widen (k := 147) (n := 21977) (Nat.le_of_ble_eq_true rfl) (Nat.le_of_ble_eq_true rfl) ?_
  refine va_putF (D := D) (ci := 5) (v := .ref (v2 139)) (ty := .object "RobustPacking$Choices") (C := RX5) (T := TX5) (N := 8) hx hb hts hinc tyX5 tyX5_ok nmX5 hown hK hP hD hS 0 rfl rfl 5 (by decide) (hts (.fieldLink RX5 37 "RobustPacking" "choices" "LRobustPacking$Choices;") (by decide +kernel)) (fun _ h9 => h9) rfl hin rfl (by decide +kernel) rfl rfl (Nat.le_of_ble_eq_true rfl) dX5_init_80 (fun H locs hP hD hS => ?_)
  have hP : va_P D vwCl ((h0, ob5 a0 b0 (.ref (v1 131)) (.ref (v2 139)) .null .null) :: r0 :: ((s0 ++ s1) ++ s2)) H := hP
  have hD : va_D A ((h0, ob5 a0 b0 (.ref (v1 131)) (.ref (v2 139)) .null .null) :: r0 :: ((s0 ++ s1) ++ s2)) := hD
  refine lv_aload_n hx hb dX5_init_83 rfl (lv_at hl 0 rfl) ?_
  refine rc_make (ws := ((h0, ob5 a0 b0 (.ref (v1 131)) (.ref (v2 139)) .null .null) :: r0 :: ((s0 ++ s1) ++ s2))) (ci := 3) (T := TX3) (N := 2) (k0 := 147) (y := yX3_init) hF tyX3 (rp_inc (by decide +kernel)) tyX3_ok (hts (.classLink RX5 41 RX3) (by decide +kernel)) (hts (.instantiable RX3 2) (by decide +kernel)) (hts (.initialized RX3) (by decide +kernel)) hK hAOA hAO hP hD hS hA rfl (fun j hj => by rcases (show j = 0 ∨ j = 1 by omega) with rfl | rfl <;> rfl) (rc_g (iX3 l D ca)) (cwI (bytes := cX3_init) (maxL := 1) 0 hts gX5_init_X3_init rfl rfl rfl (hts (.initialized RX3) (by decide +kernel)) (hts (.methodLink RX5 43 yX3_init) (by decide +kernel)) (hts (.instanceMethod yX3_init) (by decide +kernel)) rfl (by decide +kernel) ⟨Nat.le_of_ble_eq_true rfl, Nat.le_of_ble_eq_true rfl⟩) hl.1 (Nat.le_of_ble_eq_true rfl) (Nat.le_of_ble_eq_true rfl) (Nat.le_of_ble_eq_true rfl) dX5_init_84 dX5_init_87 dX5_init_88 (fun v3 H locs hP hD hS => ?_)
  generalize hs3 : seg v3 ca 147 2 = s3 at hP hD
  have hP : va_P D vwCl ((h0, ob5 a0 b0 (.ref (v1 131)) (.ref (v2 139)) .null .null) :: r0 :: (((s0 ++ s1) ++ s2) ++ s3)) H := hP
  have hD : va_D A ((h0, ob5 a0 b0 (.ref (v1 131)) (.ref (v2 139)) .null .null) :: r0 :: (((s0 ++ s1) ++ s2) ++ s3)) := hD
  refine W.widen (k := 149) (n := 31979) (Nat.le_of_ble_eq_true rfl) (Nat.le_of_ble_eq_true rfl) ?_
  refine va_putF (D := D) (ci := 5) (v := .ref (v3 147)) (ty := .object "RobustPacking$Staircase") (C := RX5) (T := TX5) (N := 8) hx hb hts hinc tyX5 tyX5_ok nmX5 hown hK hP hD hS 0 rfl rfl 6 (by decide) (hts (.fieldLink RX5 44 "RobustPacking" "staircase" "LRobustPacking$Staircase;") (by decide +kernel)) (fun _ h9 => h9) rfl hin rfl (by decide +kernel) rfl rfl (Nat.le_of_ble_eq_true rfl) dX5_init_91 (fun H locs hP hD hS => ?_)
  have hP : va_P D vwCl ((h0, ob5 a0 b0 (.ref (v1 131)) (.ref (v2 139)) (.ref (v3 147)) .null) :: r0 :: (((s0 ++ s1) ++ s2) ++ s3)) H := hP
  have hD : va_D A ((h0, ob5 a0 b0 (.ref (v1 131)) (.ref (v2 139)) (.ref (v3 147)) .null) :: r0 :: (((s0 ++ s1) ++ s2) ++ s3)) := hD
  refine lv_aload_n hx hb dX5_init_94 rfl (lv_at hl 0 rfl) ?_
  refine rc_make (ws := ((h0, ob5 a0 b0 (.ref (v1 131)) (.ref (v2 139)) (.ref (v3 147)) .null) :: r0 :: (((s0 ++ s1) ++ s2) ++ s3))) (ci := 2) (T := TX2) (N := 5) (k0 := 149) (y := yX2_init) hF tyX2 (rp_inc (by decide +kernel)) tyX2_ok (hts (.classLink RX5 48 RX2) (by decide +kernel)) (hts (.instantiable RX2 5) (by decide +kernel)) (hts (.initialized RX2) (by decide +kernel)) hK hAOA hAO hP hD hS hA rfl (fun j hj => by rcases (show j = 0 ∨ j = 1 ∨ j = 2 ∨ j = 3 ∨ j = 4 by omega) with rfl | rfl | rfl | rfl | rfl <;> rfl) (rc_g (iX2 l D ca)) (cwI (bytes := cX2_init) (maxL := 1) 0 hts gX5_init_X2_init rfl rfl rfl (hts (.initialized RX2) (by decide +kernel)) (hts (.methodLink RX5 50 yX2_init) (by decide +kernel)) (hts (.instanceMethod yX2_init) (by decide +kernel)) rfl (by decide +kernel) ⟨Nat.le_of_ble_eq_true rfl, Nat.le_of_ble_eq_true rfl⟩) hl.1 (Nat.le_of_ble_eq_true rfl) (Nat.le_of_ble_eq_true rfl) (Nat.le_of_ble_eq_true rfl) dX5_init_95 dX5_init_98 dX5_init_99 (fun v4 H locs hP hD hS => ?_)
  generalize hs4 : seg v4 ca 149 5 = s4 at hP hD
  have hP : va_P D vwCl ((h0, ob5 a0 b0 (.ref (v1 131)) (.ref (v2 139)) (.ref (v3 147)) .null) :: r0 :: ((((s0 ++ s1) ++ s2) ++ s3) ++ s4)) H := hP
  have hD : va_D A ((h0, ob5 a0 b0 (.ref (v1 131)) (.ref (v2 139)) (.ref (v3 147)) .null) :: r0 :: ((((s0 ++ s1) ++ s2) ++ s3) ++ s4)) := hD
  refine W.widen (k := 154) (n := 44284) (Nat.le_of_ble_eq_true rfl) (Nat.le_of_ble_eq_true rfl) ?_
  refine va_putF (D := D) (ci := 5) (v := .ref (v4 149)) (ty := .object "RobustPacking$Recovery") (C := RX5) (T := TX5) (N := 8) hx hb hts hinc tyX5 tyX5_ok nmX5 hown hK hP hD hS 0 rfl rfl 7 (by decide) (hts (.fieldLink RX5 51 "RobustPacking" "recovery" "LRobustPacking$Recovery;") (by decide +kernel)) (fun _ h9 => h9) rfl hin rfl (by decide +kernel) rfl rfl (Nat.le_of_ble_eq_true rfl) dX5_init_102 (fun H locs hP hD hS => ?_)
  have hP : va_P D vwCl ((h0, ob5 a0 b0 (.ref (v1 131)) (.ref (v2 139)) (.ref (v3 147)) (.ref (v4 149))) :: r0 :: ((((s0 ++ s1) ++ s2) ++ s3) ++ s4)) H := hP
  have hD : va_D A ((h0, ob5 a0 b0 (.ref (v1 131)) (.ref (v2 139)) (.ref (v3 147)) (.ref (v4 149))) :: r0 :: ((((s0 ++ s1) ++ s2) ++ s3) ++ s4)) := hD
  subst hs1
  subst hs2
  subst hs3
  subst hs4
  exact kk v1 v2 v3 v4 H locs hP hD hS
end X5C
def fin5 (u v1 v2 v3 v4 : Nat → Nat) (q1 h0 : Nat) : Nat → Nat := fun k => if k < 130 then u k else if k = 130 then q1 else if k < 139 then v1 k else if k < 147 then v2 k else if k < 149 then v3 k else if k < 154 then v4 k else h0
theorem in131 : inr 131 8 = true := by decide +kernel
theorem in139 : inr 139 8 = true := by decide +kernel
theorem in147 : inr 147 2 = true := by decide +kernel
theorem in149 : inr 149 5 = true := by decide +kernel
theorem in155 : inr 155 15 = true := by decide +kernel
theorem in0 : inr 0 155 = true := by decide +kernel
theorem lt130 : ((rp_sh 130).2.2).all (fun r => match r with | none => true | some i => decide (i < 130)) = true := by decide +kernel
theorem fin5_seg (u v1 v2 v3 v4 : Nat → Nat) (q1 h0 : Nat) (ca : Nat → ClassId) : seg (fin5 u v1 v2 v3 v4 q1 h0) ca 0 155 = (seg u ca 0 130 ++ ((q1, rw5 ca (row5 u 12)) :: (((seg v1 ca 131 8 ++ seg v2 ca 139 8) ++ seg v3 ca 147 2) ++ seg v4 ca 149 5))) ++ [(h0, ob5 (.ref (u 0)) (.ref q1) (.ref (v1 131)) (.ref (v2 139)) (.ref (v3 147)) (.ref (v4 149)))] := by
  generalize hU : fin5 u v1 v2 v3 v4 q1 h0 = U
  have g : ∀ k, U k = if k < 130 then u k else if k = 130 then q1 else if k < 139 then v1 k else if k < 147 then v2 k else if k < 149 then v3 k else if k < 154 then v4 k else h0 := fun k => by rw [← hU]; rfl
  have e0 : seg U ca 0 155 = seg U ca 0 130 ++ seg U ca 130 25 := seg_app U ca 0 130 25
  have e1 : seg U ca 130 25 = seg U ca 130 1 ++ seg U ca 131 24 := seg_app U ca 130 1 24
  have e2 : seg U ca 131 24 = seg U ca 131 8 ++ seg U ca 139 16 := seg_app U ca 131 8 16
  have e3 : seg U ca 139 16 = seg U ca 139 8 ++ seg U ca 147 8 := seg_app U ca 139 8 8
  have e4 : seg U ca 147 8 = seg U ca 147 2 ++ seg U ca 149 6 := seg_app U ca 147 2 6
  have e5 : seg U ca 149 6 = seg U ca 149 5 ++ seg U ca 154 1 := seg_app U ca 149 5 1
  have f0 : seg U ca 0 130 = seg u ca 0 130 := seg_cg (inr_st 13 (by omega)) (fun k _ h => by rw [g, if_pos (by omega)])
  have f1 : seg U ca 130 1 = [(q1, rw5 ca (row5 u 12))] := by
    have a1 : rp_en U ca (rp_sh 130) (m0 130) = rp_en u ca (rp_sh 130) (m0 130) := rp_en_cg _ (fun i hi => by
      have h2 := List.all_eq_true.mp lt130 (some i) hi
      have h2 : decide (i < 130) = true := h2
      rw [g, if_pos (of_decide_eq_true h2)])
    show [(U 130, rp_en U ca (rp_sh 130) (m0 130))] = _
    rw [a1, row5_full, g, if_neg (by omega), if_pos rfl]
    rfl
  have f2 : seg U ca 131 8 = seg v1 ca 131 8 := seg_cg in131 (fun k h1 h2 => by rw [g, if_neg (by omega), if_neg (by omega), if_pos (by omega)])
  have f3 : seg U ca 139 8 = seg v2 ca 139 8 := seg_cg in139 (fun k h1 h2 => by rw [g, if_neg (by omega), if_neg (by omega), if_neg (by omega), if_pos (by omega)])
  have f4 : seg U ca 147 2 = seg v3 ca 147 2 := seg_cg in147 (fun k h1 h2 => by rw [g, if_neg (by omega), if_neg (by omega), if_neg (by omega), if_neg (by omega), if_pos (by omega)])
  have f5 : seg U ca 149 5 = seg v4 ca 149 5 := seg_cg in149 (fun k h1 h2 => by rw [g, if_neg (by omega), if_neg (by omega), if_neg (by omega), if_neg (by omega), if_neg (by omega), if_pos (by omega)])
  have f6 : seg U ca 154 1 = [(h0, ob5 (.ref (u 0)) (.ref q1) (.ref (v1 131)) (.ref (v2 139)) (.ref (v3 147)) (.ref (v4 149)))] := by
    rw [← hU]
    rfl
  rw [e0, e1, e2, e3, e4, e5, f0, f1, f2, f3, f4, f5, f6]
  simp only [List.append_assoc, List.cons_append, List.nil_append]
set_option maxHeartbeats 4000000 in
set_option maxRecDepth 100000 in
theorem iX5 (l : Launch) (D : va_G) (ca : Nat → ClassId) : rc_ctg l yX5_init wsX5_init r5 D ca 5 [.null, .null, .int 0, .int 0, .null, .null, .null, .null] 0 155 154 154 44284 := by
  intro h0 sz
  refine Met.ofW (cc := cX5_init) (maxL := 2) (ret := none) (by decide) rfl ?_
  intro p e s m args below meth c s₁ B hml hv
  obtain ⟨rfl, hsz, hP, hK, hD0, hAOA, hAO⟩ := hv
  have hx := B.exec
  have hb := B.bytes
  have hr := B.returns
  have hts := atoms_spec (ws := wsX5_init) B.pre
  have hown : s.vm.findClass RX5 = some m.cls := findClass_of_methodNamed B.named
  have hin : meth.name = "<init>" := (name_of_methodNamed B.named B.method).1
  have hinc : ∀ w ∈ u_ws RX5 TX5 8, w ∈ wsX5_init := rp_inc (by decide +kernel)
  have hF : CallFix p m c cX5_init 2 s ([Value.ref h0] : List Value).toArray wsX5_init RX5 := ⟨hx, hb, hml, hown, hts⟩
  subst hsz
  have hD := hD0.self (sz := s.heap.size)
  generalize hAe : va_A [(h0, .inr (5, [.null, .null, .int 0, .int 0, .null, .null, .null, .null]))] s.heap.size = A at hD ⊢
  have hA : ∀ q : Nat, s.heap.size ≤ q → A q := fun q h => by rw [← hAe]; exact Or.inr h
  have hS : va_S A s.heap s.heap [] := va_S.rf
  have hl := lv_entry ([.ref h0]) (n := 2) (Nat.le_of_ble_eq_true rfl)
  rw [lg_entry_eq]
  generalize (lg_sl ([.ref h0]) ++ List.replicate (2 - (lg_sl ([.ref h0])).length) Slot.unset).toArray = ls at hl ⊢
  have hl : lv_has ls 2 [(0, .ref h0)] := hl
  refine lv_aload_n hx hb dX5_init_0 rfl (lv_at hl 0 rfl) ?_
  refine W.objInit hx hb hown (hts (.methodLink RX5 1 objectInit) (by decide +kernel)) (hts (.instanceMethod objectInit) (by decide +kernel)) (hts (.code objectInit ⟨#[0xb1]⟩ 1 none) (by decide +kernel)) rfl (by rw [hml]; exact hl.1) rfl dX5_init_1 (Nat.le_of_ble_eq_true rfl) (Nat.le_of_ble_eq_true rfl) ?_
  refine W.eq (g2 := F0 m 4 ls []) rfl ?_
  refine lv_aload_n hx hb dX5_init_4 rfl (lv_at hl 0 rfl) ?_
  refine rc_make (ws := [(h0, ob5 .null .null .null .null .null .null)]) (ci := 4) (T := TX4) (N := 5) (k0 := 0) (y := yX4_init) hF tyX4 (rp_inc (by decide +kernel)) tyX4_ok (hts (.classLink RX5 7 RX4) (by decide +kernel)) (hts (.instantiable RX4 5) (by decide +kernel)) (hts (.initialized RX4) (by decide +kernel)) hK hAOA hAO hP hD hS hA rfl (fun j hj => by rcases (show j = 0 ∨ j = 1 ∨ j = 2 ∨ j = 3 ∨ j = 4 by omega) with rfl | rfl | rfl | rfl | rfl <;> rfl) (rc_g (iX4 l D ca)) (cwI (bytes := cX4_init) (maxL := 1) 0 hts gX5_init_X4_init rfl rfl rfl (hts (.initialized RX4) (by decide +kernel)) (hts (.methodLink RX5 9 yX4_init) (by decide +kernel)) (hts (.instanceMethod yX4_init) (by decide +kernel)) rfl (by decide +kernel) ⟨Nat.le_of_ble_eq_true rfl, Nat.le_of_ble_eq_true rfl⟩) hl.1 (Nat.le_of_ble_eq_true rfl) (Nat.le_of_ble_eq_true rfl) (Nat.le_of_ble_eq_true rfl) dX5_init_5 dX5_init_8 dX5_init_9 (fun u H locs hP hD hS => ?_)
  generalize hs0 : seg u ca 0 10 = s0 at hP hD
  have hP : va_P D vwCl ((h0, ob5 .null .null .null .null .null .null) :: s0) H := hP
  have hD : va_D A ((h0, ob5 .null .null .null .null .null .null) :: s0) := hD
  refine W.widen (k := 10) (n := 97) (Nat.le_of_ble_eq_true rfl) (Nat.le_of_ble_eq_true rfl) ?_
  refine va_putF (D := D) (ci := 5) (v := .ref (u 0)) (ty := .object "RobustPacking$State") (C := RX5) (T := TX5) (N := 8) hx hb hts hinc tyX5 tyX5_ok nmX5 hown hK hP hD hS 0 rfl rfl 0 (by decide) (hts (.fieldLink RX5 10 "RobustPacking" "state" "LRobustPacking$State;") (by decide +kernel)) (fun _ h9 => h9) rfl hin rfl (by decide +kernel) rfl rfl (Nat.le_of_ble_eq_true rfl) dX5_init_12 (fun H locs hP hD hS => ?_)
  have hP : va_P D vwCl ((h0, ob5 (.ref (u 0)) .null .null .null .null .null) :: s0) H := hP
  have hD : va_D A ((h0, ob5 (.ref (u 0)) .null .null .null .null .null) :: s0) := hD
  refine lv_aload_n hx hb dX5_init_15 rfl (lv_at hl 0 rfl) ?_
  refine lv_bipush (v := 12) hx hb dX5_init_16 (by decide) ?_
  refine rc_newq (N' := 12) (C := RX4) hx hb hown (hts (.classLink RX5 7 RX4) (by decide +kernel)) hAO hK 3 rfl hP hD hS hA (by decide) (by decide +kernel) (Nat.le_of_ble_eq_true rfl) (Nat.le_of_ble_eq_true rfl) (Nat.le_of_ble_eq_true rfl) dX5_init_18 (fun q1 H hP hD hS => ?_)
  have hP : va_P D vwCl ((h0, ob5 (.ref (u 0)) .null .null .null .null .null) :: (s0 ++ [(q1, rw5 ca (fun _ => none))])) H := hP
  have hD : va_D A ((h0, ob5 (.ref (u 0)) .null .null .null .null .null) :: (s0 ++ [(q1, rw5 ca (fun _ => none))])) := hD
  refine W.widen (k := 11) (n := 109) (Nat.le_of_ble_eq_true rfl) (Nat.le_of_ble_eq_true rfl) ?_
  refine va_putF (D := D) (ci := 5) (v := .ref q1) (ty := .array (.object "RobustPacking$State")) (C := RX5) (T := TX5) (N := 8) hx hb hts hinc tyX5 tyX5_ok nmX5 hown hK hP hD hS 0 rfl rfl 1 (by decide) (hts (.fieldLink RX5 16 "RobustPacking" "history" "[LRobustPacking$State;") (by decide +kernel)) (fun _ h9 => h9) rfl hin rfl (by decide +kernel) rfl rfl (Nat.le_of_ble_eq_true rfl) dX5_init_21 (fun H locs hP hD hS => ?_)
  have hP : va_P D vwCl ((h0, ob5 (.ref (u 0)) (.ref q1) .null .null .null .null) :: (s0 ++ [(q1, rw5 ca (fun _ => none))])) H := hP
  have hD : va_D A ((h0, ob5 (.ref (u 0)) (.ref q1) .null .null .null .null) :: (s0 ++ [(q1, rw5 ca (fun _ => none))])) := hD
  have hpm := (List.perm_append_singleton (q1, rw5 ca (fun _ => none)) s0).cons (h0, ob5 (.ref (u 0)) (.ref q1) .null .null .null .null)
  have hP := va_Pp hP hpm
  have hD := va_Dp hD hpm
  have er : (fun _ => none : Nat → Option Nat) = row5 u 0 := by
    funext j
    unfold row5
    rw [if_neg (by omega)]
  rw [er, ← hs0] at hP hD
  refine lv_iconst (v := 0) hx hb dX5_init_24 (by decide) ?_
  refine lv_istore_n (lv' := [(1, .int 0), (0, .ref h0)]) hx hb dX5_init_25 rfl hl (by decide) rfl (fun ls hl => ?_)
  refine x5_loop hF hinc hK hAOA hAO hA (fun u H locs ls hP hD hS hl => ?_) 0 (Nat.zero_le _) u H locs ls hP hD hS hl
  refine x5_tail hF hinc hin hK hAOA hAO hA hP hD hS hl (fun v1 v2 v3 v4 H locs hP hD hS => ?_)
  have hpm : ((h0, ob5 (.ref (u 0)) (.ref q1) (.ref (v1 131)) (.ref (v2 139)) (.ref (v3 147)) (.ref (v4 149))) :: (q1, rw5 ca (row5 u 12)) :: ((((seg u ca 0 130 ++ seg v1 ca 131 8) ++ seg v2 ca 139 8) ++ seg v3 ca 147 2) ++ seg v4 ca 149 5)).Perm (seg (fin5 u v1 v2 v3 v4 q1 h0) ca 0 155) := by
    rw [fin5_seg]
    rw [show (((seg u ca 0 130 ++ seg v1 ca 131 8) ++ seg v2 ca 139 8) ++ seg v3 ca 147 2) ++ seg v4 ca 149 5 = seg u ca 0 130 ++ (((seg v1 ca 131 8 ++ seg v2 ca 139 8) ++ seg v3 ca 147 2) ++ seg v4 ca 149 5) by simp only [List.append_assoc]]
    exact (List.perm_middle.symm.cons _).trans (List.perm_append_singleton _ _).symm
  have hP9 := va_Pp hP hpm
  have hD9 := va_Dp hD hpm
  exact W.vret hx hb hr (fun t ht hW => ⟨⟨fin5 u v1 v2 v3 v4 q1 h0, rfl, rfl, by rw [ht]; exact hP9, hD9⟩, hS.F ht⟩) hS.2.2 dX5_init_105

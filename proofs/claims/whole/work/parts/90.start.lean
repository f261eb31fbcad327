/-! THE LAW, 4: its start -/
theorem tbi {i : Nat} {w : Cond} (h : tables_1[i]? = some w) : w ∈ lw_tbl := List.mem_append_right _ (List.mem_of_getElem? h)
theorem t12 : Cond.instantiable RX5 8 ∈ lw_tbl := tbi (i := 12) (by decide +kernel)
theorem t20 : Cond.instantiable RX4 5 ∈ lw_tbl := tbi (i := 20) (by decide +kernel)
theorem t26 : Cond.arrayOver (.array .int) ∈ lw_tbl := tbi (i := 26) (by decide +kernel)
theorem t53 : Cond.arrayClass .int ∈ lw_tbl := tbi (i := 53) (by decide +kernel)
theorem t54 : Cond.arrayOver (.object "RobustPacking$State") ∈ lw_tbl := tbi (i := 54) (by decide +kernel)
theorem t56 : Cond.instantiable RX1 5 ∈ lw_tbl := tbi (i := 56) (by decide +kernel)
theorem t83 : Cond.instantiable RX0 10 ∈ lw_tbl := tbi (i := 83) (by decide +kernel)
theorem t131 : Cond.instantiable RX3 2 ∈ lw_tbl := tbi (i := 131) (by decide +kernel)
theorem t145 : Cond.instantiable RX2 5 ∈ lw_tbl := tbi (i := 145) (by decide +kernel)
theorem t600 : Cond.instantiable RX6 21 ∈ lw_tbl := tbi (i := 600) (by decide +kernel)
theorem t669 : Cond.arrayClass .boolean ∈ lw_tbl := tbi (i := 669) (by decide +kernel)
theorem t199 : Cond.laysStatic "RobustPacking" "LEAST_OF_PROPERTY" "[I" ∈ lw_tbl := tbi (i := 199) (by decide +kernel)
theorem t201 : Cond.laysStatic "RobustPacking" "MOST_OF_PROPERTY" "[I" ∈ lw_tbl := tbi (i := 201) (by decide +kernel)
theorem t268 : Cond.laysStatic "RobustPacking" "MOST_OF_SETTING" "[I" ∈ lw_tbl := tbi (i := 268) (by decide +kernel)
theorem t380 : Cond.methodLinkNest RX0 55 yX5_sumUp RX5 ∈ lw_tbl := tbi (i := 380) (by decide +kernel)
theorem t567 : Cond.methodLinkNest RX2 37 yX5_sumUp RX5 ∈ lw_tbl := tbi (i := 567) (by decide +kernel)
theorem t1 : Cond.initialized "RobustPacking" ∈ lw_tbl := tbi (i := 1) (by decide +kernel)
theorem t7 : Cond.initialized RX6 ∈ lw_tbl := tbi (i := 7) (by decide +kernel)
/-- array classes out of the tables -/
theorem ra_prim {args : Array Value} {s : State} {ty : FieldType} (h : (Cond.arrayClass ty).before args s = true) : ∃ cA : ClassId, ArrOfT s cA ty ∧ s.vm.findClass ("[" ++ ty.toString) = some cA := by
  obtain ⟨cA, kA, comp, h1, h2, h3⟩ := Cond.arrayClass_spec h
  exact ⟨cA, fun n z => ⟨fun k h => (by cases h), kA, h2, comp, h3⟩, h1⟩
theorem ra_arr {args : Array Value} {s : State} {ty : FieldType} (h : (Cond.arrayOver (.array ty)).before args s = true) : ∃ cA : ClassId, ArrOfT s cA (.array ty) ∧ va_RA s cA (.array ty) := by
  unfold Cond.before Cond.holds at h
  simp only [Cond.value, beq_iff_eq] at h
  cases hc : s.vm.findClass (FieldType.array ty).toString with
  | none => simp [hc] at h
  | some comp =>
    simp only [hc, Option.bind_some, Option.bind_eq_some_iff, Option.map_eq_some_iff] at h
    obtain ⟨c, hi, k, hk, hb⟩ := h
    obtain ⟨hlt, hp, -⟩ := Array.findIdx?_eq_some_iff_getElem.mp hi
    have hkk : s.vm.classes[c] = k := (Array.getElem?_eq_some_iff.mp hk).2
    rw [hkk] at hp
    cases hkind : k.kind with
    | array component t2 =>
      rw [hkind] at hb hp
      simp at hb hp
      exact ⟨c, fun n z => ⟨fun k h => (by cases h), k, hk, comp, by rw [hkind, hp, hb.1]⟩, hb.2⟩
    | _ => rw [hkind] at hb; simp at hb
theorem ra_obj {args : Array Value} {s : State} {C : String} (h : (Cond.arrayOver (.object C)).before args s = true) : ∃ cA : ClassId, ArrOfT s cA (.object C) ∧ va_RA s cA (.object C) := by
  obtain ⟨comp, c, k, h1, h2, h3, h4, h5⟩ := Cond.arrayOver_spec h
  exact ⟨c, fun n z => ⟨fun k h => (by cases h), k, h3, comp, h4⟩, k, comp, h3, h4, h1, h5⟩
/-- the classes and array classes -/
theorem law_K {args : Array Value} {s : State} (hts : ∀ w ∈ lw_tbl, w.before args s = true) : ∃ (D : va_G) (ca : Nat → ClassId), va_K D vwCl (rc_tys ca) s := by
  obtain ⟨c0, i0, k0⟩ := u_known (C := RX0) (T := TX0) (N := 10) (n := 10) hts inX0 (hts _ t83)
  obtain ⟨c1, i1, k1⟩ := u_known (C := RX1) (T := TX1) (N := 5) (n := 5) hts inX1 (hts _ t56)
  obtain ⟨c2, i2, k2⟩ := u_known (C := RX2) (T := TX2) (N := 5) (n := 5) hts inX2 (hts _ t145)
  obtain ⟨c3, i3, k3⟩ := u_known (C := RX3) (T := TX3) (N := 2) (n := 2) hts inX3 (hts _ t131)
  obtain ⟨c4, i4, k4⟩ := u_known (C := RX4) (T := TX4) (N := 5) (n := 5) hts inX4 (hts _ t20)
  obtain ⟨c5, i5, k5⟩ := u_known (C := RX5) (T := TX5) (N := 8) (n := 8) hts inX5 (hts _ t12)
  obtain ⟨c6, i6, k6⟩ := u_known (C := RX6) (T := TX6) (N := 21) (n := 21) hts inX6 (hts _ t600)
  obtain ⟨a0, x0, y0⟩ := ra_prim (hts _ t53)
  obtain ⟨a1, x1, y1⟩ := ra_prim (hts _ t669)
  obtain ⟨a2, x2, y2⟩ := ra_arr (hts _ t26)
  obtain ⟨a3, x3, y3⟩ := ra_obj (hts _ t54)
  refine ⟨(fun k => if k = 0 then c0 else if k = 1 then c1 else if k = 2 then c2 else if k = 3 then c3 else if k = 4 then c4 else if k = 5 then c5 else c6, fun k => if k = 0 then i0 else if k = 1 then i1 else if k = 2 then i2 else if k = 3 then i3 else if k = 4 then i4 else if k = 5 then i5 else i6), fun k => if k = 0 then a0 else if k = 1 then a1 else if k = 2 then a2 else a3, fun k q hq => ?_, fun k q hq => ?_⟩
  · match k, hq with
    | 0, hq => cases hq; exact k0
    | 1, hq => cases hq; exact k1
    | 2, hq => cases hq; exact k2
    | 3, hq => cases hq; exact k3
    | 4, hq => cases hq; exact k4
    | 5, hq => cases hq; exact k5
    | 6, hq => cases hq; exact k6
    | k + 7, hq => simp [vwCl] at hq
  · match k, hq with
    | 0, hq => cases hq; exact ⟨x0, y0⟩
    | 1, hq => cases hq; exact ⟨x1, y1⟩
    | 2, hq => cases hq; exact ⟨x2, y2⟩
    | 3, hq => cases hq; exact ⟨x3, y3⟩
    | k + 4, hq => simp [rc_tys] at hq
/-- the static arrays -/
theorem law_S {args : Array Value} {s : State} {A : Nat → Prop} (hts : ∀ w ∈ lw_tbl, w.before args s = true) (hgv : (Jvm.Cond.and given_1 narrow_1).before args s = true) (hA : ∀ a : Nat, a < s.heap.size → ¬ A a) : ∃ sa : Nat → Nat, ∀ j, j < 3 → va_Z "RobustPacking" (rp_sn j) "[I" (.ref (sa j)) A s s.heap ∧ va_T .int (sa j) (rp_sv j).length (fun i => .int ((rp_sv j).getD i 0)) A s s.heap := by
  have hs := flat_of_before _ hgv
  obtain ⟨a0, z0, T0⟩ := va_Tof (tm := .static "RobustPacking" "LEAST_OF_PROPERTY" "[I") (ty := .int) (N := 5) (f := fun i => .int ((rp_sv 0).getD i 0)) (A := A) (by decide) (hs (.arrayOf (.static "RobustPacking" "LEAST_OF_PROPERTY" "[I") .int) (by decide +kernel)) (va_eqt (z := 5) (hs (.eq (.length (.static "RobustPacking" "LEAST_OF_PROPERTY" "[I")) (.int 5)) (by decide +kernel))) (fun j hj => by
    rcases (show j = 0 ∨ j = 1 ∨ j = 2 ∨ j = 3 ∨ j = 4 by omega) with rfl | rfl | rfl | rfl | rfl
    · exact va_eqt (z := 1) (hs (.eq (.elem (.static "RobustPacking" "LEAST_OF_PROPERTY" "[I") (.int 0)) (.int 1)) (by decide +kernel))
    · exact va_eqt (z := 1) (hs (.eq (.elem (.static "RobustPacking" "LEAST_OF_PROPERTY" "[I") (.int 1)) (.int 1)) (by decide +kernel))
    · exact va_eqt (z := 0) (hs (.eq (.elem (.static "RobustPacking" "LEAST_OF_PROPERTY" "[I") (.int 2)) (.int 0)) (by decide +kernel))
    · exact va_eqt (z := 0) (hs (.eq (.elem (.static "RobustPacking" "LEAST_OF_PROPERTY" "[I") (.int 3)) (.int 0)) (by decide +kernel))
    · exact va_eqt (z := -1) (hs (.eq (.elem (.static "RobustPacking" "LEAST_OF_PROPERTY" "[I") (.int 4)) (.int (-1))) (by decide +kernel))) hA
  obtain ⟨a1, z1, T1⟩ := va_Tof (tm := .static "RobustPacking" "MOST_OF_PROPERTY" "[I") (ty := .int) (N := 5) (f := fun i => .int ((rp_sv 1).getD i 0)) (A := A) (by decide) (hs (.arrayOf (.static "RobustPacking" "MOST_OF_PROPERTY" "[I") .int) (by decide +kernel)) (va_eqt (z := 5) (hs (.eq (.length (.static "RobustPacking" "MOST_OF_PROPERTY" "[I")) (.int 5)) (by decide +kernel))) (fun j hj => by
    rcases (show j = 0 ∨ j = 1 ∨ j = 2 ∨ j = 3 ∨ j = 4 by omega) with rfl | rfl | rfl | rfl | rfl
    · exact va_eqt (z := 999) (hs (.eq (.elem (.static "RobustPacking" "MOST_OF_PROPERTY" "[I") (.int 0)) (.int 999)) (by decide +kernel))
    · exact va_eqt (z := 999) (hs (.eq (.elem (.static "RobustPacking" "MOST_OF_PROPERTY" "[I") (.int 1)) (.int 999)) (by decide +kernel))
    · exact va_eqt (z := 999) (hs (.eq (.elem (.static "RobustPacking" "MOST_OF_PROPERTY" "[I") (.int 2)) (.int 999)) (by decide +kernel))
    · exact va_eqt (z := 999) (hs (.eq (.elem (.static "RobustPacking" "MOST_OF_PROPERTY" "[I") (.int 3)) (.int 999)) (by decide +kernel))
    · exact va_eqt (z := 3) (hs (.eq (.elem (.static "RobustPacking" "MOST_OF_PROPERTY" "[I") (.int 4)) (.int 3)) (by decide +kernel))) hA
  obtain ⟨a2, z2, T2⟩ := va_Tof (tm := .static "RobustPacking" "MOST_OF_SETTING" "[I") (ty := .int) (N := 3) (f := fun i => .int ((rp_sv 2).getD i 0)) (A := A) (by decide) (hs (.arrayOf (.static "RobustPacking" "MOST_OF_SETTING" "[I") .int) (by decide +kernel)) (va_eqt (z := 3) (hs (.eq (.length (.static "RobustPacking" "MOST_OF_SETTING" "[I")) (.int 3)) (by decide +kernel))) (fun j hj => by
    rcases (show j = 0 ∨ j = 1 ∨ j = 2 by omega) with rfl | rfl | rfl
    · exact va_eqt (z := 9999) (hs (.eq (.elem (.static "RobustPacking" "MOST_OF_SETTING" "[I") (.int 0)) (.int 9999)) (by decide +kernel))
    · exact va_eqt (z := 12) (hs (.eq (.elem (.static "RobustPacking" "MOST_OF_SETTING" "[I") (.int 1)) (.int 12)) (by decide +kernel))
    · exact va_eqt (z := 12) (hs (.eq (.elem (.static "RobustPacking" "MOST_OF_SETTING" "[I") (.int 2)) (.int 12)) (by decide +kernel))) hA
  refine ⟨fun j => if j = 0 then a0 else if j = 1 then a1 else a2, fun j hj => ?_⟩
  rcases (show j = 0 ∨ j = 1 ∨ j = 2 by omega) with rfl | rfl | rfl
  · exact ⟨va_Zof (hts _ t199) (hts _ t1) z0 hA, T0⟩
  · exact ⟨va_Zof (hts _ t201) (hts _ t1) z1 hA, T1⟩
  · exact ⟨va_Zof (hts _ t268) (hts _ t1) z2 hA, T2⟩
/-- the state of new objects -/
def g00 : rs_G := (((0, 1000, 0, 0), (fun _ _ => 0), (fun _ => 0), (fun _ => 0)), [], [])
theorem g00_WG : WG g00 := ⟨⟨Nat.zero_le _, (show 1000 ≤ 9999 by omega), Nat.zero_le _, Nat.zero_le _, fun k hk => absurd hk (Nat.not_lt_zero _), fun k j hk => absurd hk (Nat.not_lt_zero _)⟩, Nat.zero_le _, (fun s hs => absurd (show s ∈ ([] : List rs_S) from hs) List.not_mem_nil), Nat.zero_le _, fun c hc => absurd (show c ∈ ([] : List Nat) from hc) List.not_mem_nil⟩
theorem g00_IM : IM g00 m0 := ⟨⟨by decide +kernel, by decide +kernel, by decide +kernel, by decide +kernel, fun k hk => absurd hk (Nat.not_lt_zero _)⟩, by decide +kernel, fun j s hj => absurd (show ([] : List rs_S)[j]? = some s from hj) (by simp), by decide +kernel, fun i c hi => absurd (show ([] : List Nat)[i]? = some c from hi) (by simp)⟩
theorem g00_IX : IX g00 m0 := ⟨⟨by decide +kernel, by decide +kernel, by decide +kernel, by decide +kernel, fun k hk => absurd hk (Nat.not_lt_zero _)⟩, ⟨0, by decide, by decide +kernel, by decide +kernel, fun j s hj => absurd (show ([] : List rs_S)[j]? = some s from hj) (by simp)⟩, ⟨by decide +kernel, fun i c hi => absurd (show ([] : List Nat)[i]? = some c from hi) (by simp)⟩, Or.inl (by decide +kernel)⟩
def ad0 (u v : Nat → Nat) : Nat → Nat := fun k => if k < 155 then u k else v k
theorem ws0 (l : Launch) (D : va_G) (u v : Nat → Nat) (ca : Nat → ClassId) (sa : Nat → Nat) : rp_ws (l, D, ad0 u v, ca, sa) m0 = seg u ca 0 155 ++ seg v ca 155 15 := by
  have e : rp_ws (l, D, ad0 u v, ca, sa) m0 = seg (ad0 u v) ca 0 170 := by
    unfold rp_ws seg
    apply List.map_congr_left
    intro k _
    show (ad0 u v k, rp_en (ad0 u v) ca (rp_sh k) (m0 k)) = (ad0 u v (0 + k), rp_en (ad0 u v) ca (rp_sh (0 + k)) (m0 (0 + k)))
    rw [Nat.zero_add]
  have e2 : seg (ad0 u v) ca 0 170 = seg (ad0 u v) ca 0 155 ++ seg (ad0 u v) ca 155 15 := seg_app (ad0 u v) ca 0 155 15
  have f1 : seg (ad0 u v) ca 0 155 = seg u ca 0 155 := seg_cg in0 (fun k _ h => by
    unfold ad0
    rw [if_pos (by omega)])
  have f2 : seg (ad0 u v) ca 155 15 = seg v ca 155 15 := seg_cg in155 (fun k h _ => by
    unfold ad0
    rw [if_neg (by omega)])
  rw [e, e2, f1, f2]
set_option maxHeartbeats 4000000 in
set_option maxRecDepth 100000 in
/-- THE LAW, from its entry -/
theorem whole_start {p : Program} {e : Env} {s : State} {m : MethodId} {below : List Frame} {meth : Method} {c : Code} (l : Launch) (hflags : l.flags = flags0) {b L : Nat} {xs : Nat → Int32} (hL : L ≤ 2560) (C0 : lw_At p s m meth c b L xs) : W p l e room_1 s m #[Value.ref b] below meth c s.heap [] 0 0 (lw_Z below #[Value.ref b] s) (entryFrame m ([Value.ref b] : List Value).toArray 4) := by
  obtain ⟨hx, hb, hr, hml, hown, hts, hX, hbl, hlocks, hgv⟩ := id C0
  have hA : ∀ q : Nat, s.heap.size ≤ q → (fun q : Nat => s.heap.size ≤ q) q := fun _ h => h
  have hnA : ∀ a : Nat, a < s.heap.size → ¬ (fun q : Nat => s.heap.size ≤ q) a := fun a h => Nat.not_le.mpr h
  have htsL : ∀ w ∈ wsL_law, w.before #[Value.ref b] s = true := fun w h => hts w (wsL_law_in w h)
  have hownL : s.vm.findClass RL = some m.cls := hown
  have hF : CallFix p m c code 4 s #[Value.ref b] wsL_law RL := ⟨hx, hb, hml, hownL, htsL⟩
  obtain ⟨D, ca, hK⟩ := law_K hts
  obtain ⟨sa, hSt⟩ := law_S hts hgv hnA
  have hAOA : va_AOA .int s := hts _ t26
  have hAO : va_AO "RobustPacking$State" s := va_AO.of (hts _ t54)
  have hS : va_S (fun q : Nat => s.heap.size ≤ q) s.heap s.heap [] := va_S.rf
  have hP : va_P D vwCl [] s.heap := fun k q h => by simp at h
  have hD : va_D (fun q : Nat => s.heap.size ≤ q) [] := ⟨fun i j p q h => by simp at h, fun k q h => by simp at h⟩
  have hl := lv_entry ([.ref b]) (n := 4) (Nat.le_of_ble_eq_true rfl)
  rw [lg_entry_eq]
  generalize (lg_sl ([.ref b]) ++ List.replicate (4 - (lg_sl ([.ref b])).length) Slot.unset).toArray = ls at hl ⊢
  have hl : lv_has ls 4 [(0, .ref b)] := hl
  refine rc_make (ws := []) (ci := 5) (T := TX5) (N := 8) (k0 := 154) (y := yX5_init) hF tyX5 inlX5 tyX5_ok (htsL (.classLink RL 7 RX5) (by decide +kernel)) (hts _ t12) (hts _ t1) hK hAOA hAO hP hD hS hA rfl (fun j hj => by rcases (show j = 0 ∨ j = 1 ∨ j = 2 ∨ j = 3 ∨ j = 4 ∨ j = 5 ∨ j = 6 ∨ j = 7 by omega) with rfl | rfl | rfl | rfl | rfl | rfl | rfl | rfl <;> rfl) (iX5 l D ca) (cwI (bytes := cX5_init) (maxL := 2) 0 htsL gL_law_X5_init rfl rfl rfl (hts _ t1) (htsL (.methodLink RL 9 yX5_init) (by decide +kernel)) (htsL (.instanceMethod yX5_init) (by decide +kernel)) rfl (by decide +kernel) ⟨Nat.le_of_ble_eq_true rfl, Nat.le_of_ble_eq_true rfl⟩) hl.1 (Nat.le_of_ble_eq_true rfl) (Nat.le_of_ble_eq_true rfl) (Nat.le_of_ble_eq_true rfl) dL_law_0 dL_law_3 dL_law_4 (fun u H locs hP hD hS => ?_)
  refine W.widen (k := 155) (n := 44292) (Nat.le_of_ble_eq_true rfl) (Nat.le_of_ble_eq_true rfl) ?_
  rw [List.nil_append] at hP hD
  generalize hs0 : seg u ca 0 155 = s0 at hP hD
  refine lv_astore_n (lv' := [(1, .ref (u 154)), (0, .ref b)]) hx hb dL_law_7 rfl hl (by decide) rfl (fun ls hl => ?_)
  refine rc_make (ws := s0) (ci := 6) (T := TX6) (N := 21) (k0 := 155) (y := yX6_init) hF tyX6 inlX6 tyX6_ok (htsL (.classLink RL 10 RX6) (by decide +kernel)) (hts _ t600) (hts _ t7) hK hAOA hAO hP hD hS hA rfl (fun j hj => by rcases (show j = 0 ∨ j = 1 ∨ j = 2 ∨ j = 3 ∨ j = 4 ∨ j = 5 ∨ j = 6 ∨ j = 7 ∨ j = 8 ∨ j = 9 ∨ j = 10 ∨ j = 11 ∨ j = 12 ∨ j = 13 ∨ j = 14 ∨ j = 15 ∨ j = 16 ∨ j = 17 ∨ j = 18 ∨ j = 19 ∨ j = 20 by omega) with rfl | rfl | rfl | rfl | rfl | rfl | rfl | rfl | rfl | rfl | rfl | rfl | rfl | rfl | rfl | rfl | rfl | rfl | rfl | rfl | rfl <;> rfl) (rc_g (iX6 l D ca)) (cwI (bytes := cX6_init) (maxL := 1) 0 htsL gL_law_X6_init rfl rfl rfl (hts _ t7) (htsL (.methodLink RL 12 yX6_init) (by decide +kernel)) (htsL (.instanceMethod yX6_init) (by decide +kernel)) rfl (by decide +kernel) ⟨Nat.le_of_ble_eq_true rfl, Nat.le_of_ble_eq_true rfl⟩) hl.1 (Nat.le_of_ble_eq_true rfl) (Nat.le_of_ble_eq_true rfl) (Nat.le_of_ble_eq_true rfl) dL_law_8 dL_law_11 dL_law_12 (fun v H locs hP hD hS => ?_)
  refine W.widen (k := 170) (n := 82534) (Nat.le_of_ble_eq_true rfl) (Nat.le_of_ble_eq_true rfl) ?_
  refine lv_astore_n (lv' := [(2, .ref (v 155)), (1, .ref (u 154)), (0, .ref b)]) hx hb dL_law_15 rfl hl (by decide) rfl (fun ls hl => ?_)
  refine lv_iconst (v := 0) hx hb dL_law_16 (by decide) ?_
  refine lv_istore_n (lv' := [(3, .int 0), (2, .ref (v 155)), (1, .ref (u 154)), (0, .ref b)]) hx hb dL_law_17 rfl hl (by decide) rfl (fun ls hl => ?_)
  refine va_forget (fun q hq => hS.2.2 q hq) ?_
  rw [← hs0, ← ws0 l D u v ca sa] at hP hD
  generalize hE : ((l, D, ad0 u v, ca, sa) : rp_E) = E at hP hD
  have e1 : E.1 = l := by rw [← hE]
  have e2 : E.2.1 = D := by rw [← hE]
  have e3 : E.2.2.1 154 = u 154 := by rw [← hE]; rfl
  have e4 : E.2.2.1 155 = v 155 := by rw [← hE]; rfl
  have e5 : rp_tys E = rc_tys ca := by rw [← hE]; rfl
  have e6 : E.2.2.2.2 = sa := by rw [← hE]
  have hge : ∀ k, k < 170 → s.heap.size ≤ E.2.2.1 k := fun k hk => hD.2 k _ (rp_ws_at E m0 hk)
  have hAB : ∀ q, rp_A E q → s.heap.size ≤ q := fun q h => by
    obtain ⟨k, hk, eq⟩ := h
    rw [eq]
    exact hge k hk
  have hD2 : va_D (rp_A E) (rp_ws E m0) := hD.weaken (fun k q hk _ => by
    have hlt : k < 170 := by
      have := (List.getElem?_eq_some_iff.mp hk).1
      unfold rp_ws at this
      rw [List.length_map, List.length_range] at this
      exact this
    rw [rp_ws_at E m0 hlt] at hk
    cases hk
    exact ⟨k, hlt, rfl⟩)
  have hS2 : va_S (rp_A E) s.heap H [] := ⟨hS.1, fun q h1 _ => hS.2.1 q h1 (Nat.not_le.mpr h1), fun _ h => by cases h⟩
  have C : lq_C p s m meth c b L xs E := ⟨C0, by rw [e2, e5]; exact hK, ⟨fun j hj => by rw [e6]; exact ⟨(hSt j hj).1.narrow hAB, (hSt j hj).2.narrow hAB⟩, va_Nw.of rfl (hts _ t380), va_Nw.of rfl (hts _ t567)⟩, hge⟩
  rw [← e3, ← e4] at hl
  rw [← e2] at hP
  have K := law_loop (e := e) (below := below) C hL 513 0 g00 m0 (by omega) (by omega) g00_WG g00_IX g00_IM H [] ls hP hD2 hS2 hl
  rw [e1] at K
  exact K

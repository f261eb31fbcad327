/-! THE LAW, 1: words of the claim, the law's own judgement, its rows -/
def R_law : String := "RobustPackingLaw"
def lw_P (b : Addr) (xs : List Int32) (args : Array Value) (s : State) : Prop := args = #[.ref b] ∧ s.IntsAt b xs ∧ xs.length ≤ 2560 ∧ (Jvm.Cond.and given_1 narrow_1).before args s = true
def lw_Q (_ : Array Value) (s : State) (o : Outcome) (t : State) : Prop := o = .returned (some (.int 1)) ∧ Framed s o t [] 600000 7302250
def lw_Z (below : List Frame) (a : Array Value) (s : State) : State → Prop := fun t => ∃ o, t.status = .running ∧ Ended t below o ∧ lw_Q a s o t
/-- the law's own end, with 1 on the stack, nothing written that was there before, its room as the claim has it -/
theorem lw_ret {p : Program} {l : Launch} {e : Env} {s : State} {m : MethodId} {below : List Frame} {meth : Method} {c : Code} {b : Nat} (hx : p.tables.exec = Jvm.exec) (hb : c.code = code) (hr : meth.sig.returnType = ret) (hlocks : meth.locks = false) {pc : Nat} {H : Heap} {ls : Array Slot} (hdg : decode code pc = .ok (.ireturn, 1)) : W p l e room_1 s m #[Value.ref b] below meth c H [] 600000 7302250 (lw_Z below #[Value.ref b] s) (F0 m pc ls [.int 1]) := by
  intro T hT X
  obtain ⟨fs, hret, hrun, hended, hW, hframe⟩ := X.leave (v := some (.int 1)) (hlocks := hlocks) (fun h => by rw [hr] at h; cases h)
  have hmeth' : T.vm.method? m = some meth := X.method'
  refine ⟨T.setFrames fs, ?_, .returned (some (.int 1)), hrun, hended, rfl, ⟨_, rfl⟩, hW, hframe⟩
  jvm_step X.here [X.here.top, hx, hb, hdg, hmeth', hr, ret, narrow_b1]
  (try refine ⟨rfl, ?_⟩); (try refine ⟨rfl, ?_⟩)
  first | (intro acts; rw [hret _ acts rfl rfl rfl]) | rw [hret _ _ rfl rfl rfl]
  exact Steps.refl _
/-- what holds at the law's entry: the machine, the code, the tables' words (any of lw_tbl by 'hts w (by decide +kernel)'), the script of L ints xs at the cell b, what the Statement gives of the start (any of its parts by flat_of_before) -/
def lw_At (p : Program) (s : State) (m : MethodId) (meth : Method) (c : Code) (b L : Nat) (xs : Nat → Int32) : Prop :=
  p.tables.exec = Jvm.exec ∧ c.code = code ∧ meth.sig.returnType = ret ∧ c.maxLocals = 4 ∧ s.vm.findClass R_law = some m.cls ∧ (∀ w ∈ lw_tbl, w.before #[Value.ref b] s = true) ∧ va_X b L xs s s.heap ∧ b < s.heap.size ∧ meth.locks = false ∧ (Jvm.Cond.and given_1 narrow_1).before #[Value.ref b] s = true
/-- the state stays where the other object's rows alone change -/
theorem IM.km {g : rs_G} {M M' : rp_M} (h : IM g M) (hk : keepM M M') : IM g M' := by
  obtain ⟨h1, h2, h3, h4, h5⟩ := h
  exact ⟨by rw [hk 156 (by omega)]; exact h1, by rw [hk 155 (by omega)]; exact h2, fun j s hj => by rw [hk 157 (by omega)]; exact h3 j s hj, by rw [hk 155 (by omega)]; exact h4, fun i c hi => by rw [hk 158 (by omega)]; exact h5 i c hi⟩
theorem IX.kx {g : rs_G} {M M' : rp_M} (h : IX g M) (hk : keepX M M') : IX g M' := by
  obtain ⟨i1, i2, i3, i4⟩ := h
  refine ⟨i1.keep (fun q hq => hk q (by omega)), i2.keep (fun q _ hq => hk q (by omega)) (by rw [hk 154 (by omega)]) (by rw [hk 154 (by omega)]), ⟨by rw [hk 131 (by omega)]; exact i3.1, fun i c hi => by rw [hk 132 (by omega)]; exact i3.2 i c hi⟩, ?_⟩
  have e9 := hk 139 (by omega)
  rcases i4 with h | ⟨h, t1, t2, t3⟩
  · exact Or.inl (by rw [e9]; exact h)
  · refine Or.inr ⟨by rw [e9]; exact h, by rw [e9]; exact t1, by rw [e9]; exact t2, fun c hc => ?_⟩
    rw [hk 140 (by omega), hk 141 (by omega), hk 142 (by omega), hk 143 (by omega)]
    exact t3 c hc
/-- a call out of the law -/
def lq_cv (idx : Nat) (Y' : rp_Y) (n ci : Nat) : Prop := GoodIn wsL_law (wsV RL idx Y'.1.cls Y'.1 Y'.2.2.2.2.1) ∧ rp_code Y' ∧ rp_name Y' n ∧ (Y'.2.2.2.2.2.cells = 0 ∧ Y'.2.2.2.2.2.slots = 0 ∧ Y'.2.2.2.2.2.frames + 1 ≤ room_1.frames ∧ 8 + (Y'.2.2.1 + 11) + Y'.2.2.2.2.2.locals ≤ room_1.locals) ∧ (∃ q : vw_C, vwCl[ci]? = some q ∧ q.1 = Y'.1.cls)
/-- what the law has all along -/
def lq_C (p : Program) (s : State) (m : MethodId) (meth : Method) (c : Code) (b L : Nat) (xs : Nat → Int32) (E : rp_E) : Prop :=
  lw_At p s m meth c b L xs ∧ va_K E.2.1 vwCl (rp_tys E) s ∧ rp_St E s ∧ ∀ k, k < 170 → s.heap.size ≤ E.2.2.1 k
/-- from here on, over this memory, the law answers 1 -/
def lq_G (p : Program) (e : Env) (s : State) (m : MethodId) (below : List Frame) (meth : Method) (c : Code) (b : Nat) (E : rp_E) (i : Int32) (pc : Nat) (st : List Value) (M : rp_M) : Prop :=
  ∀ (H : Heap) (locs : List Loc) (ls : Array Slot), va_P E.2.1 vwCl (rp_ws E M) H → va_D (rp_A E) (rp_ws E M) → va_S (rp_A E) s.heap H locs → lv_has ls 4 [(3, .int i), (2, .ref (E.2.2.1 155)), (1, .ref (E.2.2.1 154)), (0, .ref b)] → W p E.1 e room_1 s m #[Value.ref b] below meth c H locs 170 82534 (lw_Z below #[Value.ref b] s) (F0 m pc ls st)
section LAW
variable {p : Program} {e : Env} {s : State} {m : MethodId} {below : List Frame} {meth : Method} {c : Code} {b L : Nat} {xs : Nat → Int32} {E : rp_E} {i : Int32} {pc : Nat} {st : List Value} {M : rp_M}
theorem lq_C.bA (C : lq_C p s m meth c b L xs E) : ¬ rp_A E b := by
  rintro ⟨k, hk, e⟩
  have h1 := C.2.2.2 k hk
  have h2 := C.1.2.2.2.2.2.2.2.1
  omega
/-- script[i + k] -/
theorem lq_arg (C : lq_C p s m meth c b L xs E) {k : Int} {kv : Int32} (hin : vp_in (i + kv) L) (hk : Int32.ofInt k = kv) (d0 : decode code pc = .ok (.aload_n 0, 1)) (d1 : decode code (pc + 1) = .ok (.iload_n 3, 1)) (d2 : decode code (pc + 1 + 1) = .ok (.iconst k, 1)) (d3 : decode code (pc + 1 + 1 + 1) = .ok (.iadd, 1)) (d4 : decode code (pc + 1 + 1 + 1 + 1) = .ok (.iaload, 1))
    (kk : lq_G p e s m below meth c b E i (pc + 1 + 1 + 1 + 1 + 1) (.int (xs (i + kv).toNatClampNeg) :: st) M) : lq_G p e s m below meth c b E i pc st M := by
  intro H locs ls hP hD hS hl
  have hbA := C.bA
  obtain ⟨⟨hx, hb, -, -, -, -, hX, hbl, -, -⟩, -⟩ := C
  refine lv_aload_n hx hb d0 rfl (lv_at hl 3 rfl) ?_
  refine lv_iload_n hx hb d1 rfl (lv_at hl 0 rfl) ?_
  refine lv_iconst hx hb d2 hk ?_
  refine lv_iadd hx hb d3 ?_
  refine va_sld hx hb hX hbl hbA hS hin d4 ?_
  exact kk H locs ls hP hD hS hl
/-- a call -/
theorem lq_call (C : lq_C p s m meth c b L xs E) {Y' : rp_Y} {idx id n ci : Nat} {refs : List (Option Nat)} {as rest : List Value} {P : Option Int32 → rp_M → Prop} (hd : decode code pc = .ok (.invokevirtual idx, 3)) (hc : lq_cv idx Y' n ci) (hid : id < 170) (hsh : rp_sh id = (ci + 4, 0, refs)) (hn : as.length = n) (has : as.map (rp_rv E) = as) (hcat : (rest.map fun v => v.category).sum ≤ 8) (hrun : rp_Run E Y' (.ref id :: as) M P)
    (kk : ∀ r M', P r M' → lq_G p e s m below meth c b E i (pc + 3) ((r.map Value.int).toList ++ rest) M') : lq_G p e s m below meth c b E i pc (as.reverse ++ .ref (E.2.2.1 id) :: rest) M := by
  intro H locs ls hP hD hS hl
  obtain ⟨⟨hx, hb, hr, hml, hown, hts, hX, hbl, hlocks, hgv⟩, hK, hSt, hge⟩ := C
  have htsL : ∀ w ∈ wsL_law, w.before #[Value.ref b] s = true := fun w h => hts w (wsL_law_in w h)
  have hownL : s.vm.findClass RL = some m.cls := hown
  obtain ⟨hg, ⟨ws', hw⟩, hnm, hrm, q, hq, hq1⟩ := hc
  have hB : ∀ U : State, U.heap = H → s.WarmedH U.vm → rp_B E M U := fun U hU hW => ⟨by rw [hU]; exact hP, hD, va_K.moved hW.alike hK, hSt.moved hS hU hW⟩
  have hr2 : va_Run p E.1 e room_1 s m #[Value.ref b] below meth c H locs 170 82534 0 0 (F0 m pc ls (as.reverse ++ .ref (E.2.2.1 id) :: rest)) rest (rp_Q E P (Value.ref (E.2.2.1 id) :: as).toArray) (rp_A E) := by
    refine va_runV (b := E.2.2.1 id) (As := as) (rest := rest) (bytes := Y'.2.1) (maxL := Y'.2.2.1) (ret := Y'.2.2.2.1) ⟨hx, hb, hml, hownL, htsL⟩ hrun (cwV n htsL hg hw hrm.1 hrm.2.1 ⟨rfl, hnm⟩ ⟨hrm.2.2.1, hrm.2.2.2⟩) ⟨rp_B_blind E _ M, ?_, fun U hU hW => ⟨by rw [List.map_cons, rp_rvr E hid, has], hB U hU hW⟩⟩ rfl hn hl.1 rfl (lv_room hcat) hd ⟨Nat.le_of_ble_eq_true rfl, Nat.le_of_ble_eq_true rfl⟩
    rw [← hq1]
    exact va_recv hK hP hq (rp_ws_at E M hid |>.trans (by rw [hsh]; rfl))
  intro T hT XT
  obtain ⟨v, st₀, t, T', Lc, h0, X', hL, e1, e2, ⟨⟨r, M', hv, hp, hB2⟩, hz, hk⟩, stp⟩ := hr2 T hT XT
  rw [h0] at hz hk
  have hv2 : v = r.map Value.int := by injection hv
  subst hv2
  obtain ⟨t2, a1, b1⟩ := kk r M' hp T'.heap (locs ++ Lc) ls (by rw [e1]; exact hB2.1) hB2.2.1 ⟨Nat.le_trans hS.1 (by rw [e1]; exact hz), fun q h1 h2 => by rw [e1, hk q (Nat.lt_of_lt_of_le h1 hS.1) h2]; exact hS.2.1 q h1 h2, fun q hq => by
      rcases List.mem_append.mp hq with h | h
      · exact hS.2.2 q h
      · exact hL q h⟩ hl T' rfl X'
  refine ⟨t2, stp t2 ?_, b1⟩
  cases r <;> exact a1
/-- one case of the law: both are asked, and answer alike -/
theorem lq_case (C : lq_C p s m meth c b L xs E) {Y5 Y6 : rp_Y} {i5 i6 n pcA pcB : Nat} {as : List Value} {a : Int32} {P5 : rp_M → Prop} {P6 : rp_M → rp_M → Prop} {off : Int} (c5 : lq_cv i5 Y5 n 5) (c6 : lq_cv i6 Y6 n 6) (hn : as.length = n) (has : as.map (rp_rv E) = as)
    (d0 : decode code pc = .ok (.aload_n 1, 1)) (push5 : ∀ M st, lq_G p e s m below meth c b E i pcA (as.reverse ++ st) M → lq_G p e s m below meth c b E i (pc + 1) st M) (dA : decode code pcA = .ok (.invokevirtual i5, 3)) (dA3 : decode code (pcA + 3) = .ok (.aload_n 2, 1)) (push6 : ∀ M st, lq_G p e s m below meth c b E i pcB (as.reverse ++ st) M → lq_G p e s m below meth c b E i (pcA + 3 + 1) st M) (dB : decode code pcB = .ok (.invokevirtual i6, 3)) (dC : decode code (pcB + 3) = .ok (.if_icmp .eq off, 3)) (ht : ((pcB + 3 : Nat) : Int) + off = ((1051 : Nat) : Int))
    (h5 : rp_Run E Y5 (.ref 154 :: as) M (rp_P (fun v M' => v = a ∧ P5 M'))) (h6 : ∀ M', P5 M' → rp_Run E Y6 (.ref 155 :: as) M' (rp_P (fun v M'' => v = a ∧ P6 M' M'')))
    (kk : ∀ M' M'', P5 M' → P6 M' M'' → lq_G p e s m below meth c b E i 1051 [] M'') : lq_G p e s m below meth c b E i pc [] M := by
  have hx := C.1.1
  have hb := C.1.2.1
  intro H locs ls hP hD hS hl
  refine lv_aload_n hx hb d0 rfl (lv_at hl 2 rfl) ?_
  refine push5 M [.ref (E.2.2.1 154)] ?_ H locs ls hP hD hS hl
  refine lq_call C dA c5 (id := 154) (by omega) rp_k154 hn has (rest := []) (Nat.le_of_ble_eq_true rfl) h5 ?_
  rintro r M1 ⟨v, rfl, e1, p5⟩
  intro H locs ls hP hD hS hl
  refine lv_aload_n hx hb dA3 rfl (lv_at hl 1 rfl) ?_
  refine push6 M1 (.ref (E.2.2.1 155) :: .int v :: []) ?_ H locs ls hP hD hS hl
  refine lq_call C dB c6 (id := 155) (by omega) rp_k155 hn has (rest := [.int v]) (Nat.le_of_ble_eq_true rfl) (h6 M1 p5) ?_
  rintro r M2 ⟨v2, rfl, e2, p6⟩
  intro H locs ls hP hD hS hl
  have e3 : v = v2 := e1.trans e2.symm
  refine lv_icmp_eq (tgt := 1051) hx hb dC ht (fun _ => ?_) (fun h => absurd e3 h)
  exact kk M1 M2 p5 p6 H locs ls hP hD hS hl
/-- a case that changes the state -/
theorem lq_mut (C : lq_C p s m meth c b L xs E) {Y5 Y6 : rp_Y} {i5 i6 n pcA pcB : Nat} {as : List Value} {a : Int32} {g g' : rs_G} {off : Int} (c5 : lq_cv i5 Y5 n 5) (c6 : lq_cv i6 Y6 n 6) (hn : as.length = n) (has : as.map (rp_rv E) = as) (hI : IM g M)
    (d0 : decode code pc = .ok (.aload_n 1, 1)) (push5 : ∀ M st, lq_G p e s m below meth c b E i pcA (as.reverse ++ st) M → lq_G p e s m below meth c b E i (pc + 1) st M) (dA : decode code pcA = .ok (.invokevirtual i5, 3)) (dA3 : decode code (pcA + 3) = .ok (.aload_n 2, 1)) (push6 : ∀ M st, lq_G p e s m below meth c b E i pcB (as.reverse ++ st) M → lq_G p e s m below meth c b E i (pcA + 3 + 1) st M) (dB : decode code pcB = .ok (.invokevirtual i6, 3)) (dC : decode code (pcB + 3) = .ok (.if_icmp .eq off, 3)) (ht : ((pcB + 3 : Nat) : Int) + off = ((1051 : Nat) : Int))
    (h5 : rp_Run E Y5 (.ref 154 :: as) M (rp_P (fun v M' => v = a ∧ IX g' M' ∧ keepM M M'))) (h6 : ∀ M', IM g M' → rp_Run E Y6 (.ref 155 :: as) M' (rp_P (fun v M'' => v = a ∧ IM g' M'' ∧ keepX M' M'')))
    (kk : ∀ M'', IX g' M'' → IM g' M'' → lq_G p e s m below meth c b E i 1051 [] M'') : lq_G p e s m below meth c b E i pc [] M :=
  lq_case C (P5 := fun M' => IX g' M' ∧ keepM M M') (P6 := fun M' M'' => IM g' M'' ∧ keepX M' M'') c5 c6 hn has d0 push5 dA dA3 push6 dB dC ht h5 (fun M' q => h6 M' (hI.km q.2)) (fun _ M'' q1 q2 => kk M'' (q1.1.kx q2.2) q2.1)
/-- a case that only asks -/
theorem lq_qry (C : lq_C p s m meth c b L xs E) {Y5 Y6 : rp_Y} {i5 i6 n pcA pcB : Nat} {as : List Value} {a : Int32} {g : rs_G} {P5 : rp_M → Prop} {off : Int} (c5 : lq_cv i5 Y5 n 5) (c6 : lq_cv i6 Y6 n 6) (hn : as.length = n) (has : as.map (rp_rv E) = as) (hI : IM g M)
    (d0 : decode code pc = .ok (.aload_n 1, 1)) (push5 : ∀ M st, lq_G p e s m below meth c b E i pcA (as.reverse ++ st) M → lq_G p e s m below meth c b E i (pc + 1) st M) (dA : decode code pcA = .ok (.invokevirtual i5, 3)) (dA3 : decode code (pcA + 3) = .ok (.aload_n 2, 1)) (push6 : ∀ M st, lq_G p e s m below meth c b E i pcB (as.reverse ++ st) M → lq_G p e s m below meth c b E i (pcA + 3 + 1) st M) (dB : decode code pcB = .ok (.invokevirtual i6, 3)) (dC : decode code (pcB + 3) = .ok (.if_icmp .eq off, 3)) (ht : ((pcB + 3 : Nat) : Int) + off = ((1051 : Nat) : Int))
    (h5 : rp_Run E Y5 (.ref 154 :: as) M (rp_P (fun v M' => v = a ∧ P5 M'))) (hP5 : ∀ M', P5 M' → IX g M' ∧ keepM M M') (h6 : ∀ M', IM g M' → rp_Run E Y6 (.ref 155 :: as) M' (rp_P (fun v M'' => v = a ∧ scrM M' M'')))
    (kk : ∀ M'', IX g M'' → IM g M'' → lq_G p e s m below meth c b E i 1051 [] M'') : lq_G p e s m below meth c b E i pc [] M :=
  lq_case C (P5 := P5) (P6 := fun M' M'' => scrM M' M'') c5 c6 hn has d0 push5 dA dA3 push6 dB dC ht h5 (fun M' q => h6 M' (hI.km (hP5 M' q).2)) (fun M' M'' q1 q2 => kk M'' ((hP5 M' q1).1.kx q2.1) ((hI.km (hP5 M' q1).2).scr q2))
theorem scrX_ik {g : rs_G} {M M' : rp_M} (hI : IX g M) (h : scrX g.1 M M') : IX g M' ∧ keepM M M' := ⟨hI.scr h, fun k hk => h.1 k (by omega)⟩
theorem eq_ik {g : rs_G} {M M' : rp_M} (hI : IX g M) (h : M' = M) : IX g M' ∧ keepM M M' := ⟨by rw [h]; exact hI, fun k _ => by rw [h]⟩
/-- the long of script[i + 1] and script[i + 2] -/
def lq_long (x y : Int32) : Int64 := (x.toInt64 <<< ((32 : Int32).toInt64 &&& 63)) ||| (y.toInt64 &&& 4294967295)
theorem lq_pushl (C : lq_C p s m meth c b L xs E) (h1 : vp_in (i + 1) L) (h2 : vp_in (i + 2) L) (d0 : decode code pc = .ok (.aload_n 0, 1)) (d1 : decode code (pc + 1) = .ok (.iload_n 3, 1)) (d2 : decode code (pc + 2) = .ok (.iconst 1, 1)) (d3 : decode code (pc + 3) = .ok (.iadd, 1)) (d4 : decode code (pc + 4) = .ok (.iaload, 1)) (d5 : decode code (pc + 5) = .ok (.i2l, 1)) (d6 : decode code (pc + 6) = .ok (.bipush 32, 2)) (d8 : decode code (pc + 8) = .ok (.lshl, 1))
    (f0 : decode code (pc + 9) = .ok (.aload_n 0, 1)) (f1 : decode code (pc + 10) = .ok (.iload_n 3, 1)) (f2 : decode code (pc + 11) = .ok (.iconst 2, 1)) (f3 : decode code (pc + 12) = .ok (.iadd, 1)) (f4 : decode code (pc + 13) = .ok (.iaload, 1)) (f5 : decode code (pc + 14) = .ok (.i2l, 1)) (f6 : decode code (pc + 15) = .ok (.ldc2_w 45, 3)) (f9 : decode code (pc + 18) = .ok (.land, 1)) (f10 : decode code (pc + 19) = .ok (.lor, 1))
    (kk : lq_G p e s m below meth c b E i (pc + 20) (.long (lq_long (xs (i + 1).toNatClampNeg) (xs (i + 2).toNatClampNeg)) :: st) M) : lq_G p e s m below meth c b E i pc st M := by
  have hx := C.1.1
  have hb := C.1.2.1
  have hown : s.vm.findClass RL = some m.cls := C.1.2.2.2.2.1
  have hcl : (Cond.constantLong RL 45 4294967295).before #[Value.ref b] s = true := C.1.2.2.2.2.2.1 _ (List.mem_append_right _ (List.mem_of_getElem? (i := 936) (by decide +kernel)))
  refine lq_arg C h1 rfl d0 d1 d2 d3 d4 ?_
  intro H locs ls hP hD hS hl
  refine lv_i2l hx hb d5 rfl ?_
  refine lv_bipush (v := 32) hx hb d6 (by decide) ?_
  refine lv_lshl hx hb d8 rfl ?_
  refine lq_arg C (pc := pc + 9) h2 rfl f0 f1 f2 f3 f4 ?_ H locs ls hP hD hS hl
  intro H locs ls hP hD hS hl
  refine lv_i2l hx hb f5 rfl ?_
  refine lv_ldc2 hx hb hown hcl f6 ?_
  refine lv_land hx hb f9 ?_
  refine lv_lor hx hb f10 ?_
  exact kk H locs ls hP hD hS hl
end LAW
theorem i_nat (x : Int32) : x = nI x.toBitVec.toNat := by
  apply Int32.toBitVec_inj.mp
  show x.toBitVec = BitVec.ofNat 32 x.toBitVec.toNat
  simp
theorem op_nat (x : Int32) : ∃ j, j < 32 ∧ x &&& 31 = nI j := by
  refine ⟨x.toBitVec.toNat &&& 31, Nat.lt_of_le_of_lt Nat.and_le_right (by decide), ?_⟩
  have h := nI_and x.toBitVec.toNat 31
  rw [← i_nat] at h
  exact h

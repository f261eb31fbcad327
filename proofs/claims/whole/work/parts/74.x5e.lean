/-! THE CLASS, 14: greedy, forced, improve -/
theorem w01 {w : Int32} : (0 ≤ w.toInt ∧ w.toInt ≤ 1) ↔ w = 0 ∨ w = 1 := by
  constructor
  · intro h
    have e := toNat_nI (x := w) h.1
    have c := clamp_int (x := w) h.1
    have : w.toNatClampNeg = 0 ∨ w.toNatClampNeg = 1 := by omega
    rcases this with k | k <;> rw [k] at e
    · exact Or.inl e
    · exact Or.inr e
  · rintro (h | h) <;> rw [h] <;> decide
theorem d5_greedy (E : rp_E) {M : rp_M} {S : rs_S} (hw : Wf S) (hr : R0 S M) (h9 : rdy S M) (w : Int32) : rp_Run E YX5_greedy [.ref 154, .int w] M (rp_P (fun v M' => v = a_greedy S w ∧ scrX S M M')) := by
  have hn := hw.n12
  have h2 := hw.two
  have hcc := hw.2.1
  have main : ∀ M1, prep S M M1 → 0 ≤ w.toInt ∧ w.toInt ≤ 1 → rp_G E YX5_greedy (rp_P (fun v M' => v = a_greedy S w ∧ scrX S M M')) 23 [.ref 154, .int w, .int 0, .int 0, .int 0, .null] [] M1 := fun M1 q h01 => by
    have hr1 := q.2.2.1
    have tg := q.g hw
    have ea : a_greedy S w = _ := if_pos h01
    rw [ea]
    clear ea
    suffices key : ∀ i, i ≤ zn S → rp_G E YX5_greedy (rp_P (fun v M' => v = (if w = 0 then nI (gst S (zn S)).2 else iI (zworth S (gst S (zn S)).2 (zh S)) + 100000) ∧ scrX S M M')) 23 [.ref 154, .int w, .int (nI (gst S i).2), .int (nI (gst S i).1), .int (nI i), .null] [] M1 from key 0 (Nat.zero_le _)
    refine up_loop (fun i hi ih => vX5_greedy_23 E _ M1 _ _ _ _ ?_)
    obtain ⟨-, g1, g2⟩ := gst_inv S i hi
    rw [hr1.1, nI_leI (by omega) (by omega)]
    refine ⟨fun h => ?_, fun h => ?_⟩
    · have e : i = zn S := by omega
      subst e
      refine ⟨fun z => ⟨_, _, c0_shiftN E tg g2, _, rfl, (if_neg z).symm, q.sc⟩, fun z => ⟨_, rfl, (if_pos z).symm, q.sc⟩⟩
    have hi2 : i < zn S := by omega
    obtain ⟨k, hk, ek⟩ := gst_some hi2
    have h1 := ih hi2
    have eg : gst S (i + 1) = ((gst S i).1 ||| 2 ^ k, if zfit S (zg S) (zc S) ((gst S i).2 ||| 2 ^ k) = true then (gst S i).2 ||| 2 ^ k else (gst S i).2) := by
      show (match gpk S (gst S i).1 (zn S) with | none => gst S i | some k => ((gst S i).1 ||| 2 ^ k, if zfit S (zg S) (zc S) ((gst S i).2 ||| 2 ^ k) = true then (gst S i).2 ||| 2 ^ k else (gst S i).2)) = _
      rw [ek]
    have hmo := c0_most E hw hr1 (s := (gst S i).1) (by omega)
    rw [ek] at hmo
    have hmo : rp_C E YX4_mostFruitful [.ref 0, .int (nI (gst S i).1)] M1 (some (nI k)) M1 := hmo
    have hor : (gst S i).2 ||| 2 ^ k < 2 ^ zn S := Nat.or_lt_two_pow g2 (Nat.pow_lt_pow_right (by omega) hk)
    refine ⟨_, _, hmo, _, _, c5_cap E hr1, ?_⟩
    rw [nI_one_shl (by omega), nI_or, nI_or, nI_1]
    refine ⟨_, _, c0_stands E tg hor (by omega), ?_⟩
    rw [bI_n, bI_0]
    refine ⟨fun z => ?_, fun z => ?_⟩
    · have z' : zfit S (zg S) (zc S) ((gst S i).2 ||| 2 ^ k) = false := z
      have e3 : gst S (i + 1) = ((gst S i).1 ||| 2 ^ k, (gst S i).2) := by
        rw [eg, z']
        rfl
      rw [e3] at h1
      exact h1
    · have z' : zfit S (zg S) (zc S) ((gst S i).2 ||| 2 ^ k) = true := z
      have e3 : gst S (i + 1) = ((gst S i).1 ||| 2 ^ k, (gst S i).2 ||| 2 ^ k) := by
        rw [eg, z']
        rfl
      rw [e3] at h1
      exact h1
  refine vX5_greedy E _ M w ⟨fun h => ⟨_, d5_prepare E hw hr h9, fun M1 q => main M1 q (w01.mpr (Or.inl h))⟩, fun h => ⟨fun h1 => ⟨_, d5_prepare E hw hr h9, fun M1 q => main M1 q (w01.mpr (Or.inr h1))⟩, fun h1 => ⟨_, rfl, (if_neg (fun z => (w01.mp z).elim h h1)).symm, scrX.rf h9⟩⟩⟩
theorem d5_forced (E : rp_E) {M : rp_M} {S : rs_S} (hw : Wf S) (hr : R0 S M) (h9 : rdy S M) (x y w : Int32) : rp_Run E YX5_forced [.ref 154, .int x, .int y, .int w] M (rp_P (fun v M' => v = a_forced S x y w ∧ scrX S M M')) := by
  have hn := hw.n12
  have h2 := hw.two
  have hcc := hw.2.1
  have ok : ∀ (v a : Int32), a = v → rp_P (fun v M' => v = a ∧ scrX S M M') (some v) M := fun v a e => ⟨v, rfl, e.symm, scrX.rf h9⟩
  refine vX5_forced E _ M x y w ⟨_, _, c5_isChoice E hn hr.1 x, ?_⟩
  rw [bI_n, bI_0]
  refine ⟨fun hx => ok _ _ (if_neg (fun q => by rw [hx] at q; cases q.1)), fun hx => ⟨_, _, c5_isChoice E hn hr.1 y, ?_⟩⟩
  rw [bI_n, bI_0]
  refine ⟨fun hy => ?_, fun hy => ok _ _ (if_neg (fun q => by rw [hy] at q; cases q.2))⟩
  have ea : a_forced S x y w = _ := if_pos ⟨hx, hy⟩
  rw [ea]
  clear ea
  obtain ⟨a, ha, e⟩ := isI_of (by omega) hx
  obtain ⟨b, hb, e2⟩ := isI_of (by omega) hy
  rw [e, e2, nI_clamp (by omega), nI_clamp (by omega)]
  have fin : (0 ≤ w.toInt ∧ w.toInt ≤ 1) → nI a &&& nI b = 0 → ∃ P13 : rp_M → Prop, rp_Run E YX5_prepare [.ref 154] M (rp_P0 P13) ∧ (∀ M11, P13 M11 → (∃ v15 M16, rp_C E YX5_capacity [.ref 154] M11 (some v15) M16 ∧ (∃ v18 M19, rp_C E YX0_first [.ref 139, .int v15, .int (nI a), .int (nI b)] M16 (some v18) M19 ∧ ((¬ w = 0 → (∃ v22 M23, rp_C E YX0_shiftedProfit [.ref 139, .int v18] M19 (some v22) M23 ∧ rp_P (fun v M' => v = (if 0 ≤ w.toInt ∧ w.toInt ≤ 1 then (if nI a &&& nI b = 0 then (match zforced S a b (2 ^ zn S) with | none => (-6) | some b => if w = 0 then nI b else iI (zworth S b (zh S)) + 100000) else (-5)) else (-2)) ∧ scrX S M M') (some v22) M23)) ∧ (w = 0 → rp_P (fun v M' => v = (if 0 ≤ w.toInt ∧ w.toInt ≤ 1 then (if nI a &&& nI b = 0 then (match zforced S a b (2 ^ zn S) with | none => (-6) | some b => if w = 0 then nI b else iI (zworth S b (zh S)) + 100000) else (-5)) else (-2)) ∧ scrX S M M') (some v18) M19))))) := fun h1 h3 => by
    rw [if_pos h1, if_pos h3]
    refine ⟨_, d5_prepare E hw hr h9, fun M1 q => ?_⟩
    have hr1 := q.2.2.1
    have tg := q.g hw
    have hf : rp_C E YX0_first [.ref 139, .int (nI (zc S)), .int (nI a), .int (nI b)] M1 (some (oM (zforced S a b (2 ^ zn S)))) M1 := c0_first E tg (by omega) (by omega) (by omega)
    refine ⟨_, _, c5_cap E hr1, _, _, hf, ?_⟩
    cases z : zforced S a b (2 ^ zn S) with
    | none =>
      refine ⟨fun _ => ⟨_, _, c0_shift E tg (r := none) (fun _ h => by cases h), _, rfl, rfl, q.sc⟩, fun _ => ⟨_, rfl, rfl, q.sc⟩⟩
    | some k =>
      have hk : k < 2 ^ zn S := (bst_lt z).1
      refine ⟨fun y => ⟨_, _, c0_shift E tg (r := some k) (fun _ h => by cases h; exact hk), _, rfl, (if_neg y).symm, q.sc⟩, fun y => ⟨_, rfl, (if_pos y).symm, q.sc⟩⟩
  refine ⟨fun z => ⟨fun u => fin (w01.mpr (Or.inl z)) u, fun u => ok _ _ ?_⟩, fun z => ⟨fun y => ⟨fun u => fin (w01.mpr (Or.inr y)) u, fun u => ok _ _ ?_⟩, fun y => ok _ _ ?_⟩⟩
  · rw [if_pos (w01.mpr (Or.inl z)), if_neg u]
  · rw [if_pos (w01.mpr (Or.inr y)), if_neg u]
  · rw [if_neg (fun u => (w01.mp u).elim z y)]
theorem nearC_eq (s k m : Nat) : s ^^^ (2 ^ k ||| 2 ^ m) = nearC s k m := by
  unfold nearC
  apply Nat.eq_of_testBit_eq
  intro i
  by_cases e : m = k
  · subst e
    rw [if_pos rfl, Nat.xor_zero, Nat.or_self]
  · rw [if_neg e]
    simp only [Nat.testBit_xor, Nat.testBit_or, Nat.testBit_two_pow]
    by_cases e1 : k = i <;> by_cases e2 : m = i
    · omega
    · simp [e1, e2]
    · simp [e1, e2]
    · simp [e1, e2]
theorem exch {s k m : Nat} (hs : s < 2 ^ 31) (hk : k < 32) (hm : m < 32) : ((nI s >>> (nI k &&& 31)) ^^^ (nI s >>> (nI m &&& 31))) &&& 1 = 1 ↔ s.testBit k ≠ s.testBit m := by
  rw [nI_shr hs hk, nI_shr hs hm, nI_xor, nI_and1]
  have e : (s / 2 ^ k ^^^ s / 2 ^ m) % 2 = 1 ↔ s.testBit k ≠ s.testBit m := by
    have h : (s / 2 ^ k ^^^ s / 2 ^ m).testBit 0 = (s.testBit k ^^ s.testBit m) := by
      rw [Nat.testBit_xor, Nat.testBit_div_two_pow, Nat.testBit_div_two_pow, Nat.zero_add, Nat.zero_add]
    rw [Nat.testBit_zero] at h
    rw [← decide_eq_true_eq (p := (s / 2 ^ k ^^^ s / 2 ^ m) % 2 = 1), h]
    cases s.testBit k <;> cases s.testBit m <;> decide
  rw [← e]
  exact nI_eq (b := 1) (by omega) (by decide)
theorem c0_near (E : rp_E) {M : rp_M} {S : rs_S} (hw : Wf S) (ht : tabX S (zg S) (zh S) M) {s : Nat} (hs : s < 2 ^ zn S) : rp_C E YX0_firstNear [.ref 139, .int (nI s), .int (nI (zc S))] M (some (nI (fnr S s))) M := by
  refine rp_C_of (fun post hpost => vX0_firstNear E post M _ _ ?_)
  have hn := hw.n12
  have h2 := hw.two
  have hcc := hw.2.1
  have tg := ht.g hw
  suffices key : ∀ k, k ≤ zn S → rp_G E YX0_firstNear post 5 [.ref 139, .int (nI s), .int (nI (zc S)), .int (nI (nou S s k)), .int (nI k), .null, .null, .null] [] M from key 0 (Nat.zero_le _)
  refine up_loop (fun k hk ih => vX0_firstNear_5 E post M _ _ _ _ ?_)
  rw [ht.1, nI_leI (by omega) (by omega)]
  refine ⟨fun h => ?_, fun h => ?_⟩
  · have e : k = zn S := by omega
    subst e
    exact hpost
  have hk2 : k < zn S := by omega
  have inv := nou_inv hs k hk
  suffices inner : ∀ d, d ≤ zn S - k → rp_G E YX0_firstNear post 18 [.ref 139, .int (nI s), .int (nI (zc S)), .int (nI (nin S s k d (nou S s k))), .int (nI k), .int (nI (k + d)), .null, .null] [] M from inner 0 (Nat.zero_le _)
  refine up_loop (fun d hd ihd => vX0_firstNear_18 E post M _ _ _ _ _ ?_)
  rw [ht.1, nI_leI (by omega) (by omega)]
  have hx := (nin_inv hs hk2 d (nou S s k) (by omega) inv).1
  refine ⟨fun h => ?_, fun h => ?_⟩
  · have e : d = zn S - k := by omega
    subst e
    rw [nI_1]
    exact ih hk2
  have hm : k + d < zn S := by omega
  have hnc := nearC_lt hs hk2 hm
  have h1 := ihd (by omega)
  rw [exch (by omega) (by omega) (by omega)]
  have skip : ¬ ((k + d = k ∨ s.testBit k ≠ s.testBit (k + d)) ∧ zfit S (zg S) (zc S) (nearC s k (k + d)) = true ∧ zahead S (nearC s k (k + d)) (nin S s k d (nou S s k))) → rp_G E YX0_firstNear post 18 [.ref 139, .int (nI s), .int (nI (zc S)), .int (nI (nin S s k d (nou S s k))), .int (nI k), .int (nI (k + d + 1)), .null, .null] [] M := fun z => by
    have e : nin S s k (d + 1) (nou S s k) = nin S s k d (nou S s k) := nst_no z
    rw [e] at h1
    exact h1
  have take : ((k + d = k ∨ s.testBit k ≠ s.testBit (k + d)) ∧ zfit S (zg S) (zc S) (nearC s k (k + d)) = true ∧ zahead S (nearC s k (k + d)) (nin S s k d (nou S s k))) → rp_G E YX0_firstNear post 18 [.ref 139, .int (nI s), .int (nI (zc S)), .int (nI (nearC s k (k + d))), .int (nI k), .int (nI (k + d + 1)), .null, .null] [] M := fun z => by
    have e : nin S s k (d + 1) (nou S s k) = nearC s k (k + d) := nst_yes z
    rw [e] at h1
    exact h1
  have go : ∀ b : Bool, (b = true ↔ s.testBit k ≠ s.testBit (k + d)) → rp_G E YX0_firstNear post 49 [.ref 139, .int (nI s), .int (nI (zc S)), .int (nI (nin S s k d (nou S s k))), .int (nI k), .int (nI (k + d)), .int (bI b), .null] [] M := fun b hb => by
    refine vX0_firstNear_49 E post M _ _ _ _ _ _ ?_
    rw [nI_eq (by omega) (by omega), nI_one_shl (by omega), nI_one_shl (by omega), nI_or, nI_xor, nearC_eq, nI_1]
    have body : (k + d = k ∨ s.testBit k ≠ s.testBit (k + d)) → ∃ v5 M6, rp_C E YX0_stands [.ref 139, .int (nI (nearC s k (k + d))), .int (nI (zc S))] M (some v5) M6 ∧ ((v5 = 0 → (rp_G E YX0_firstNear post 18 [.ref 139, .int (nI s), .int (nI (zc S)), .int (nI (nin S s k d (nou S s k))), .int (nI k), .int (nI (k + d + 1)), .null, .null] [] M6)) ∧ (¬ v5 = 0 → (∃ v9 M10, rp_C E YX0_isBefore [.ref 139, .int (nI (nearC s k (k + d))), .int (nI (nin S s k d (nou S s k)))] M6 (some v9) M10 ∧ ((v9 = 0 → (rp_G E YX0_firstNear post 18 [.ref 139, .int (nI s), .int (nI (zc S)), .int (nI (nin S s k d (nou S s k))), .int (nI k), .int (nI (k + d + 1)), .null, .null] [] M10)) ∧ (¬ v9 = 0 → (rp_G E YX0_firstNear post 18 [.ref 139, .int (nI s), .int (nI (zc S)), .int (nI (nearC s k (k + d))), .int (nI k), .int (nI (k + d + 1)), .null, .null] [] M10)))))) := fun z => by
      refine ⟨_, _, c0_stands E tg hnc (by omega), ?_⟩
      rw [bI_n, bI_0]
      refine ⟨fun y => skip (fun u => by have u2 : (zalB S (nearC s k (k + d)) && decide (zheavy S (nearC s k (k + d)) (zg S) ≤ zc S)) = true := u.2.1; rw [y] at u2; cases u2), fun y => ⟨_, _, c0_before E tg hnc hx, ?_⟩⟩
      rw [bI_n, bI_0, pB_t, pB_f]
      exact ⟨fun u => skip (fun v => u v.2.2), fun u => take ⟨z, y, u⟩⟩
    refine ⟨fun z => body (Or.inl z.symm), fun z => ⟨fun y => skip (fun u => ?_), fun y => body (Or.inr (hb.mp (bI_n.mp y)))⟩⟩
    rcases u.1 with v | v
    · exact z v.symm
    · have := hb.mpr v
      rw [bI_0.mp y] at this
      cases this
  refine ⟨fun z => go false ⟨fun y => (by cases y), fun y => absurd y z⟩, fun z => go true ⟨fun _ => z, fun _ => rfl⟩⟩
theorem d5_improve (E : rp_E) {M : rp_M} {S : rs_S} (hw : Wf S) (hr : R0 S M) (h9 : rdy S M) (x w : Int32) : rp_Run E YX5_improve [.ref 154, .int x, .int w] M (rp_P (fun v M' => v = a_improve S x w ∧ scrX S M M')) := by
  have hn := hw.n12
  have h2 := hw.two
  have hcc := hw.2.1
  have ok : ∀ (v a : Int32), a = v → rp_P (fun v M' => v = a ∧ scrX S M M') (some v) M := fun v a e => ⟨v, rfl, e.symm, scrX.rf h9⟩
  refine vX5_improve E _ M x w ⟨_, _, c5_isChoice E hn hr.1 x, ?_⟩
  rw [bI_n, bI_0]
  refine ⟨fun hx => ?_, fun hx => ok _ _ (if_neg (by rw [hx]; decide))⟩
  have ea : a_improve S x w = _ := if_pos hx
  rw [ea]
  clear ea
  obtain ⟨c, hc, e⟩ := isI_of (by omega) hx
  rw [e, nI_clamp (by omega)]
  have fin : (0 ≤ w.toInt ∧ w.toInt ≤ 1) → ∃ P8 : rp_M → Prop, rp_Run E YX5_prepare [.ref 154] M (rp_P0 P8) ∧ (∀ M6, P8 M6 → (∃ v10 M11, rp_C E YX5_capacity [.ref 154] M6 (some v10) M11 ∧ (∃ v13 M14, rp_C E YX0_stands [.ref 139, .int (nI c), .int v10] M11 (some v13) M14 ∧ ((¬ v13 = 0 → (rp_G E YX5_improve (rp_P (fun v M' => v = (if 0 ≤ w.toInt ∧ w.toInt ≤ 1 then (if zfit S (zg S) (zc S) c = true then (if w = 0 then nI (imf S 4096 c 0).1 else nI (imf S 4096 c 0).2) else (-5)) else (-2)) ∧ scrX S M M')) 52 [.ref 154, .null, .int w, .int (nI c), .int 0, .int 0, .null] [] M14)) ∧ (v13 = 0 → rp_P (fun v M' => v = (if 0 ≤ w.toInt ∧ w.toInt ≤ 1 then (if zfit S (zg S) (zc S) c = true then (if w = 0 then nI (imf S 4096 c 0).1 else nI (imf S 4096 c 0).2) else (-5)) else (-2)) ∧ scrX S M M') (some (-5)) M14))))) := fun h1 => by
    rw [if_pos h1]
    refine ⟨_, d5_prepare E hw hr h9, fun M1 q => ?_⟩
    have hr1 := q.2.2.1
    have tg := q.g hw
    refine ⟨_, _, c5_cap E hr1, _, _, c0_stands E tg hc (by omega), ?_⟩
    rw [bI_n, bI_0]
    refine ⟨fun z => ?_, fun z => ?_⟩
    · rw [if_pos (show zfit S (zg S) (zc S) c = true from z)]
      have key : ∀ f i s, i + f = 4096 → s < 2 ^ zn S → imf S 4096 c 0 = imf S f s i → rp_G E YX5_improve (rp_P (fun v M' => v = (if w = 0 then nI (imf S 4096 c 0).1 else nI (imf S 4096 c 0).2) ∧ scrX S M M')) 52 [.ref 154, .null, .int w, .int (nI s), .int (nI i), .int (nI i), .null] [] M1 := by
        intro f
        induction f with
        | zero =>
          intro i s hi hs he
          refine vX5_improve_52 E _ M1 _ _ _ _ ⟨fun _ => ⟨fun y => ⟨_, rfl, ?_, q.sc⟩, fun y => ⟨_, rfl, ?_, q.sc⟩⟩, fun y => absurd (show (4096 : Int32) ≤ nI i by rw [show i = 4096 by omega]; decide) y⟩
          · rw [if_neg y, he]
            rfl
          · rw [if_pos y, he]
            rfl
        | succ f ihf =>
          intro i s hi hs he
          refine vX5_improve_52 E _ M1 _ _ _ _ ?_
          rw [show (4096 : Int32) = nI 4096 by rfl, nI_leI (by omega) (by omega)]
          refine ⟨fun y => absurd y (by omega), fun _ => ⟨_, _, c5_cap E hr1, _, _, c0_near E hw q.2.1 hs, ?_⟩⟩
          have hf := (fnr_inv hs).1
          rw [nI_eq (by omega) (by omega), nI_1]
          refine ⟨fun y => ihf (i + 1) (fnr S s) (by omega) hf ?_, fun y => ⟨fun u => ⟨_, rfl, ?_, q.sc⟩, fun u => ⟨_, rfl, ?_, q.sc⟩⟩⟩
          · rw [he]
            exact if_neg y
          · rw [if_neg u, he, show imf S (f + 1) s i = (s, i) from if_pos y]
          · rw [if_pos u, he, show imf S (f + 1) s i = (s, i) from if_pos y]
      exact key 4096 0 c rfl hc rfl
    · rw [if_neg (fun y => by have y : (zalB S c && decide (zheavy S c (zg S) ≤ zc S)) = true := y; rw [z] at y; cases y)]
      exact ⟨_, rfl, rfl, q.sc⟩
  refine ⟨fun z => fin (w01.mpr (Or.inl z)), fun z => ⟨fun y => fin (w01.mpr (Or.inr y)), fun y => ok _ _ ?_⟩⟩
  rw [if_neg (fun u => (w01.mp u).elim z y)]

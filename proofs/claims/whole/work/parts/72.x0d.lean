/-! THE CLASS, 12: the rows read -/
def gtab (n : Nat) (W : Nat → Nat) (V : Nat → Int) (A : Nat → Bool) (M : rp_M) : Prop := n ≤ 12 ∧ M 139 7 = nI n ∧ M 139 8 = nI (2 ^ n) ∧ ∀ c, c < 2 ^ n → (M 140 c = nI (W c) ∧ W c ≤ 30000) ∧ (M 141 c = iI (V c) ∧ -20000 ≤ V c ∧ V c ≤ 20000) ∧ (M 143 c &&& (nI c ^^^ (-1)) = 0 ↔ A c = true)
theorem tabX.g {S : rs_S} (hw : Wf S) {g h : Nat} {M : rp_M} (ht : tabX S g h M) : gtab (zn S) (fun c => zheavy S c g) (fun c => zworth S c h) (zalB S) M :=
  ⟨hw.n12, ht.1, ht.2.1, fun c hc => ⟨⟨(ht.2.2 c hc).1, by show zheavy S c g ≤ 30000; have := hw.heavy c g; omega⟩, ⟨(ht.2.2 c hc).2.1, by show -20000 ≤ zworth S c h; have := hw.worth c h; omega, by show zworth S c h ≤ 20000; have := hw.worth c h; omega⟩, (ht.2.2 c hc).2.2.2⟩⟩
section
variable {n : Nat} {W : Nat → Nat} {V : Nat → Int} {A : Nat → Bool} {M : rp_M}
theorem gtab.pn (ht : gtab n W V A M) : 2 ^ n ≤ 4096 := Nat.le_trans (Nat.pow_le_pow_right (by omega) ht.1) (by decide)
theorem c0_allows (E : rp_E) (ht : gtab n W V A M) {c : Nat} (hc : c < 2 ^ n) : rp_C E YX0_allows [.ref 139, .int (nI c)] M (some (bI (A c))) M := by
  refine rp_C_of (fun post hp => vX0_allows E post M _ ?_)
  have h2 := ht.pn
  rw [nI_clamp (by omega), (ht.2.2.2 c hc).2.2]
  refine ⟨nI_inb (by omega) (by omega), fun h => ?_, fun h => ?_⟩
  · rw [Bool.eq_false_iff.mpr h] at hp
    exact hp
  · rw [h] at hp
    exact hp
theorem c0_stands (E : rp_E) (ht : gtab n W V A M) {c cap : Nat} (hc : c < 2 ^ n) (hcap : cap < 2 ^ 31) : rp_C E YX0_stands [.ref 139, .int (nI c), .int (nI cap)] M (some (bI (A c && decide (W c ≤ cap)))) M := by
  refine rp_C_of (fun post hp => vX0_stands E post M _ _ ?_)
  have h2 := ht.pn
  obtain ⟨⟨t1, t2⟩, -, -⟩ := ht.2.2.2 c hc
  rw [nI_clamp (by omega), t1, nI_ltI (by omega) (by omega)]
  refine ⟨nI_inb (by omega) (by omega), fun h => ?_, fun h => ⟨_, _, c0_allows E ht hc, fun q => ?_, fun q => ?_⟩⟩
  · rw [decide_eq_false (by omega), Bool.and_false] at hp
    exact hp
  · rw [bI_0.mp q, Bool.false_and] at hp
    exact hp
  · rw [bI_n.mp q, decide_eq_true (by omega)] at hp
    exact hp
def ahd (W : Nat → Nat) (V : Nat → Int) (a b : Nat) : Prop := V b < V a ∨ (V a = V b ∧ (W a < W b ∨ (W a = W b ∧ a < b)))
theorem c0_before (E : rp_E) (ht : gtab n W V A M) {a b : Nat} (ha : a < 2 ^ n) (hb : b < 2 ^ n) : rp_C E YX0_isBefore [.ref 139, .int (nI a), .int (nI b)] M (some (bI (pB (ahd W V a b)))) M := by
  refine rp_C_of (fun post hp => vX0_isBefore E post M _ _ ?_)
  have h2 := ht.pn
  obtain ⟨⟨t1, t2⟩, ⟨t3, t4, t5⟩, -⟩ := ht.2.2.2 a ha
  obtain ⟨⟨u1, u2⟩, ⟨u3, u4, u5⟩, -⟩ := ht.2.2.2 b hb
  rw [nI_clamp (by omega), nI_clamp (by omega), t1, t3, u1, u3, iI_eq (by omega) (by omega) (by omega) (by omega), iI_le (by omega) (by omega) (by omega) (by omega), nI_eq (by omega) (by omega), nI_leI (by omega) (by omega), nI_leI (by omega) (by omega)]
  have yes : ahd W V a b → post (some 1) M := fun h => by rw [pB_t.mpr h] at hp; exact hp
  have no : ¬ ahd W V a b → post (some 0) M := fun h => by rw [pB_f.mpr h] at hp; exact hp
  unfold ahd at yes no
  refine ⟨nI_inb (by omega) (by omega), nI_inb (by omega) (by omega), fun h1 => ⟨fun h3 => ⟨fun h4 => no (by omega), fun h4 => yes (by omega)⟩, fun h3 => ⟨fun h4 => no (by omega), fun h4 => yes (by omega)⟩⟩, fun h1 => ⟨fun h3 => no (by omega), fun h3 => yes (by omega)⟩⟩
def okf (W : Nat → Nat) (A : Nat → Bool) (cap x y : Nat) : Nat → Bool := fun c => decide (x &&& c = x) && (decide (y &&& c = 0) && (A c && decide (W c ≤ cap)))
theorem c0_first (E : rp_E) (ht : gtab n W V A M) {cap x y : Nat} (hcap : cap < 2 ^ 31) (hx : x < 2 ^ 31) (hy : y < 2 ^ 31) : rp_C E YX0_first [.ref 139, .int (nI cap), .int (nI x), .int (nI y)] M (some (oM (bst (okf W A cap x y) V W (2 ^ n)))) M := by
  refine rp_C_of (fun post hpost => vX0_first E post M _ _ _ ?_)
  have h2 := ht.pn
  suffices key : ∀ j, j ≤ 2 ^ n → rp_G E YX0_first post 7 [.ref 139, .int (nI cap), .int (nI x), .int (nI y), .int (oM (bst (okf W A cap x y) V W j)), .int (nI j), .null] [] M from key 0 (Nat.zero_le _)
  refine up_loop (fun j hj ih => vX0_first_7 E post M _ _ _ _ _ ?_)
  rw [ht.2.2.1, nI_leI (by omega) (by omega)]
  refine ⟨fun h => ?_, fun h => ?_⟩
  · have e : j = 2 ^ n := by omega
    subst e
    exact hpost
  have hj2 : j < 2 ^ n := by omega
  have hlt : ∀ k, bst (okf W A cap x y) V W j = some k → k < 2 ^ 31 := fun k hk => by
    have := (bst_lt hk).1
    omega
  have skip : ¬ (okf W A cap x y j = true ∧ bbe V W j (bst (okf W A cap x y) V W j)) → rp_G E YX0_first post 7 [.ref 139, .int (nI cap), .int (nI x), .int (nI y), .int (oM (bst (okf W A cap x y) V W j)), .int (nI (j + 1)), .null] [] M := fun q => by
    have h1 := ih hj2
    rw [bst_no q] at h1
    exact h1
  have take : okf W A cap x y j = true ∧ bbe V W j (bst (okf W A cap x y) V W j) → rp_G E YX0_first post 7 [.ref 139, .int (nI cap), .int (nI x), .int (nI y), .int (nI j), .int (nI (j + 1)), .null] [] M := fun q => by
    have h1 := ih hj2
    rw [bst_yes q] at h1
    exact h1
  have okt : okf W A cap x y j = true ↔ x &&& j = x ∧ y &&& j = 0 ∧ (A j && decide (W j ≤ cap)) = true := by
    unfold okf
    rw [Bool.and_eq_true, Bool.and_eq_true, decide_eq_true_eq, decide_eq_true_eq]
  have hxj : x &&& j < 2 ^ 31 := Nat.lt_of_le_of_lt Nat.and_le_left hx
  have hyj : y &&& j < 2 ^ 31 := Nat.lt_of_le_of_lt Nat.and_le_left hy
  rw [nI_and, nI_and, Nat.and_comm j x, Nat.and_comm j y, nI_eq hxj hx, show (nI (y &&& j) = 0) = (y &&& j = 0) from propext (nI_eq (b := 0) hyj (by decide)), nI_1]
  refine ⟨fun q => skip (fun z => q (okt.mp z.1).1), fun q => ⟨fun q2 => skip (fun z => q2 (okt.mp z.1).2.1), fun q2 => ⟨_, _, c0_stands E ht hj2 hcap, ?_⟩⟩⟩
  rw [bI_n, bI_0]
  refine ⟨fun q3 => skip (fun z => by have := (okt.mp z.1).2.2; rw [q3] at this; cases this), fun q3 => ⟨fun q4 => ?_, fun q4 => ?_⟩⟩
  · have e := (oM_neg hlt).mp q4
    refine take ⟨okt.mpr ⟨q, q2, q3⟩, ?_⟩
    rw [e]
    trivial
  · cases hk : bst (okf W A cap x y) V W j with
    | none => exact absurd ((oM_neg hlt).mpr hk) q4
    | some b =>
      have hbj := (bst_lt hk).1
      refine ⟨_, _, c0_before E ht hj2 (show b < 2 ^ n by omega), ?_⟩
      rw [hk] at skip take
      rw [bI_n, bI_0, pB_t, pB_f]
      refine ⟨fun q5 => skip (fun z => q5 ?_), fun q5 => take ⟨okt.mpr ⟨q, q2, q3⟩, ?_⟩⟩
      · have := z.2
        unfold bbe at this
        unfold ahd
        omega
      · unfold ahd at q5
        show V b < V j ∨ (V j = V b ∧ W j < W b)
        omega
theorem okf00 (W : Nat → Nat) (A : Nat → Bool) (cap : Nat) : okf W A cap 0 0 = fun c => A c && decide (W c ≤ cap) := by
  funext c
  unfold okf
  rw [Nat.zero_and]
  rfl
theorem c0_all (E : rp_E) (ht : gtab n W V A M) {cap : Nat} (hcap : cap < 2 ^ 31) : rp_C E YX0_firstOfAll [.ref 139, .int (nI cap)] M (some (nI ((bst (fun c => A c && decide (W c ≤ cap)) V W (2 ^ n)).getD 0))) M := by
  refine rp_C_of (fun post hpost => vX0_firstOfAll E post M _ ⟨_, _, c0_first E ht (x := 0) (y := 0) hcap (by decide) (by decide), ?_⟩)
  have h2 := ht.pn
  rw [okf00]
  cases q : bst (fun c => A c && decide (W c ≤ cap)) V W (2 ^ n) with
  | none =>
    rw [q] at hpost
    exact hpost
  | some b =>
    rw [q] at hpost
    have := (bst_lt q).1
    show post (some (if nI b < 0 then 0 else nI b)) M
    rw [if_neg (nI_pos (by omega))]
    exact hpost
theorem c0_fitting (E : rp_E) (ht : gtab n W V A M) {cap : Nat} (hcap : cap < 2 ^ 31) : rp_C E YX0_fitting [.ref 139, .int (nI cap)] M (some (nI (cntp (fun c => (A c && decide (W c ≤ cap)) = true) (2 ^ n)))) M := by
  refine rp_C_of (fun post hpost => vX0_fitting E post M _ ?_)
  have h2 := ht.pn
  suffices key : ∀ j, j ≤ 2 ^ n → rp_G E YX0_fitting post 4 [.ref 139, .int (nI cap), .int (nI (cntp (fun c => (A c && decide (W c ≤ cap)) = true) j)), .int (nI j)] [] M from key 0 (Nat.zero_le _)
  refine up_loop (fun j hj ih => vX0_fitting_4 E post M _ _ _ ?_)
  rw [ht.2.2.1, nI_leI (by omega) (by omega)]
  refine ⟨fun h => ?_, fun h => ⟨_, _, c0_stands E ht (by omega) hcap, ?_⟩⟩
  · have e : j = 2 ^ n := by omega
    subst e
    exact hpost
  have h1 := ih (by omega)
  rw [bI_n, bI_0, nI_1, nI_1]
  refine ⟨fun q => ?_, fun q => ?_⟩
  · rw [cntp_n (p := fun c => (A c && decide (W c ≤ cap)) = true) (by rw [q]; decide)] at h1
    exact h1
  · rw [cntp_y (p := fun c => (A c && decide (W c ≤ cap)) = true) q] at h1
    exact h1
theorem c0_shift (E : rp_E) (ht : gtab n W V A M) {r : Option Nat} (hr : ∀ b, r = some b → b < 2 ^ n) : rp_C E YX0_shiftedProfit [.ref 139, .int (oM r)] M (some (match r with | none => (-6) | some b => iI (V b) + 100000)) M := by
  refine rp_C_of (fun post hpost => vX0_shiftedProfit E post M _ ?_)
  have h2 := ht.pn
  cases r with
  | none => exact ⟨fun q => absurd q (by decide), fun _ => hpost⟩
  | some b =>
    have hb := hr b rfl
    refine ⟨fun _ => ?_, fun q => absurd ?_ q⟩
    · show vp_in (nI b) 4096 ∧ post (some (M 141 (nI b).toNatClampNeg + 100000)) M
      rw [nI_clamp (by omega), (ht.2.2.2 b hb).2.1.1]
      exact ⟨nI_inb (by omega) (by omega), hpost⟩
    · show nI 0 ≤ nI b
      rw [nI_leI (by omega) (by omega)]
      omega
theorem c0_shiftN (E : rp_E) (ht : gtab n W V A M) {b : Nat} (hb : b < 2 ^ n) : rp_C E YX0_shiftedProfit [.ref 139, .int (nI b)] M (some (iI (V b) + 100000)) M := c0_shift E ht (r := some b) (fun _ h => by cases h; exact hb)
end
/-- the rows that a query may change -/
def scrX (S : rs_S) (M M' : rp_M) : Prop := (∀ k, k < 139 ∨ 153 < k → M' k = M k) ∧ (M' 139 9 = 0 ∨ (M' 139 9 = 1 ∧ tabX S (zg S) (zh S) M'))
def rdy (S : rs_S) (M : rp_M) : Prop := M 139 9 = 0 ∨ (M 139 9 = 1 ∧ tabX S (zg S) (zh S) M)
theorem IX.scr {g : rs_G} {M M' : rp_M} (h : IX g M) (hs : scrX g.1 M M') : IX g M' := by
  obtain ⟨i1, i2, i3, i4⟩ := h
  obtain ⟨k, h9⟩ := hs
  exact ⟨i1.keep (fun q hq => k q (by omega)), i2.keep (fun q _ hq => k q (by omega)) (by rw [k 154 (by omega)]) (by rw [k 154 (by omega)]), ⟨by rw [k 131 (by omega)]; exact i3.1, fun i c hi => by rw [k 132 (by omega)]; exact i3.2 i c hi⟩, h9⟩
theorem scrX.rf {S : rs_S} {M : rp_M} (h : rdy S M) : scrX S M M := ⟨fun _ _ => rfl, h⟩
def prep (S : rs_S) (M M' : rp_M) : Prop := M' 139 9 = 1 ∧ tabX S (zg S) (zh S) M' ∧ R0 S M' ∧ ∀ k, k < 139 ∨ 145 < k → M' k = M k
theorem prep.sc {S : rs_S} {M M' : rp_M} (h : prep S M M') : scrX S M M' := ⟨fun k hk => h.2.2.2 k (by omega), Or.inr ⟨h.1, h.2.1⟩⟩
theorem prep.g {S : rs_S} (hw : Wf S) {M M' : rp_M} (h : prep S M M') : gtab (zn S) (fun c => zheavy S c (zg S)) (fun c => zworth S c (zh S)) (zalB S) M' := h.2.1.g hw
theorem c5_budget (E : rp_E) {M : rp_M} {S : rs_S} (hr : R0 S M) : rp_C E YX5_budget [.ref 154, .int 1] M (some (nI (zg S))) M ∧ rp_C E YX5_budget [.ref 154, .int 2] M (some (nI (zh S))) M := by
  refine ⟨rp_C_of (fun post hp => vX5_budget E post M _ ⟨rp_vi (by decide), ?_⟩), rp_C_of (fun post hp => vX5_budget E post M _ ⟨rp_vi (by decide), ?_⟩)⟩
  · rw [← hr.2.2.1] at hp
    exact hp
  · rw [← hr.2.2.2.1] at hp
    exact hp
theorem c5_cap (E : rp_E) {M : rp_M} {S : rs_S} (hr : R0 S M) : rp_C E YX5_capacity [.ref 154] M (some (nI (zc S))) M := by
  refine rp_C_of (fun post hp => vX5_capacity E post M ?_)
  rw [← hr.2.1] at hp
  exact hp
theorem d5_prepare (E : rp_E) {M : rp_M} {S : rs_S} (hw : Wf S) (hr : R0 S M) (h9 : rdy S M) : rp_Run E YX5_prepare [.ref 154] M (rp_P0 (prep S M)) := by
  refine vX5_prepare E _ M ⟨fun q => ?_, fun q => ⟨_, _, (c5_budget E hr).1, _, _, (c5_budget E hr).2, _, d0_fill E hw hr hw.2.2.1 hw.2.2.2.1, fun M1 q1 M2 e2 => ?_⟩⟩
  · rcases h9 with h | h
    · exact absurd h q
    · exact ⟨rfl, h.1, h.2, hr, fun _ _ => rfl⟩
  · obtain ⟨t1, t2, t3⟩ := q1
    have k2 : ∀ k, k ≠ 139 → M2 k = M1 k := fun k hk => by rw [e2, rp_s_cell hk]
    refine ⟨rfl, by rw [e2, rp_s_at], ⟨by rw [e2, rp_s_ne (by omega)]; exact t1.1, by rw [e2, rp_s_ne (by omega)]; exact t1.2.1, fun c hc => ?_⟩, hr.keep (fun k hk => by rw [k2 k (by omega), t3 k (by omega)]), fun k hk => by rw [k2 k (by omega), t3 k hk]⟩
    rw [k2 140 (by decide), k2 141 (by decide), k2 142 (by decide), k2 143 (by decide)]
    exact t1.2.2 c hc
theorem c5_isChoice (E : rp_E) {M : rp_M} {n : Nat} (hn : n ≤ 12) (h0 : M 0 4 = nI n) (x : Int32) : rp_C E YX5_isChoice [.ref 154, .int x] M (some (bI (isI (2 ^ n) x))) M := by
  refine rp_C_of (fun post hp => vX5_isChoice E post M x ?_)
  have h2 : 2 ^ n ≤ 4096 := Nat.le_trans (Nat.pow_le_pow_right (by omega) hn) (by decide)
  rw [h0, nI_one_shl (by omega), Int32.lt_d, Int32.le_d, Int32.toInt_zero, nI_toInt (by omega)]
  refine ⟨fun h => ?_, fun h => ⟨fun h2 => ?_, fun h2 => ?_⟩⟩
  · rw [show isI (2 ^ n) x = false from decide_eq_false (by omega)] at hp
    exact hp
  · rw [show isI (2 ^ n) x = false from decide_eq_false (by omega)] at hp
    exact hp
  · rw [show isI (2 ^ n) x = true from decide_eq_true (by omega)] at hp
    exact hp
theorem c5_protW (E : rp_E) {M : rp_M} {S : rs_S} (hw : Wf S) (hr : R0 S M) {c g : Nat} (hc : c < 2 ^ 31) (hg : g ≤ 12) : rp_C E YX5_protectedWeight [.ref 154, .int (nI c), .int (nI g)] M (some (nI (zheavy S c g))) M := by
  refine rp_C_of (fun post hpost => vX5_protectedWeight E post M _ _ ⟨_, _, c0_worst E hw hr (p := 2) (by omega) hc hg, _, _, c0_wU E hw hr hc, ?_⟩)
  have e : c &&& zworst S 2 c g = zworst S 2 c g := by
    rw [Nat.and_comm]
    exact wst_sub g
  rw [e]
  exact hpost
theorem c5_wps (E : rp_E) {M : rp_M} {S : rs_S} (hw : Wf S) (hr : R0 S M) {c : Nat} (hc : c < 2 ^ 31) : rp_C E YX5_worstProfitScenario [.ref 154, .int (nI c)] M (some (nI (zworst S 3 c (zh S)))) M :=
  rp_C_of (fun post hpost => vX5_worstProfitScenario E post M _ ⟨_, _, (c5_budget E hr).2, _, _, c0_worst E hw hr (p := 3) (by omega) hc hw.2.2.2.1, hpost⟩)
theorem c5_greatest (E : rp_E) {M : rp_M} {S : rs_S} (hw : Wf S) (hr : R0 S M) {c : Nat} (hc : c < 2 ^ 31) : rp_C E YX5_greatestBudget [.ref 154, .int (nI c)] M (some (oM (mbd S c 13))) M := by
  refine rp_C_of (fun post hpost => vX5_greatestBudget E post M _ ?_)
  have hcc := hw.2.1
  suffices key : ∀ g, g ≤ 13 → mbd S c 13 = mbd S c g → rp_G E YX5_greatestBudget post 3 [.ref 154, .int (nI c), .int (nI g - 1)] [] M from key 13 (by omega) rfl
  intro g
  induction g with
  | zero =>
    intro _ e
    refine vX5_greatestBudget_3 E post M _ _ ⟨fun _ => ?_, fun h => absurd (by decide) h⟩
    rw [e] at hpost
    exact hpost
  | succ g ih =>
    intro hg e
    have eg : nI (g + 1) - 1 = nI g := nI_pred _
    have hh := hw.heavy c g
    rw [eg]
    refine vX5_greatestBudget_3 E post M _ _ ⟨fun h => absurd h (nI_pos (by omega)), fun _ => ⟨_, _, c5_protW E hw hr hc (by omega), _, _, c5_cap E hr, ?_⟩⟩
    rw [nI_ltI (by omega) (by omega)]
    refine ⟨fun h => ?_, fun h => ?_⟩
    · rw [← Int32.sub_eq_add_neg]
      refine ih (by omega) ?_
      rw [e]
      exact if_neg (by omega)
    · have e2 : mbd S c (g + 1) = some g := if_pos (by omega)
      rw [e, e2] at hpost
      exact hpost

/-! ANSWERS, 9: changes of the state -/
def gnew (g : rs_G) : Option rs_S → rs_G
  | none => g
  | some S' => (S', hpush g.2.1 g.1, g.2.2)
theorem gnew_WG {g : rs_G} (h : WG g) {t : Option rs_S} (ht : ∀ S', t = some S' → Wf S') : WG (gnew g t) := by
  cases t with
  | none => exact h
  | some S' => exact ⟨ht S' rfl, hpush_len12 _ h.2.1, hpush_wf h.1 h.2.2.1, h.2.2.2⟩
def rng (lo hi : Int) (x : Int32) : Prop := lo ≤ x.toInt ∧ x.toInt ≤ hi
def addOk (x y z u : Int32) : Prop := rng 1 999 x ∧ rng 1 999 y ∧ rng 0 999 z ∧ rng 0 999 u
noncomputable def a_add (S : rs_S) (x y z u : Int32) : Int32 := if pB (addOk x y z u) = true then (if zn S = 12 then (-4) else nI (zn S)) else (-2)
noncomputable def nq_add (S : rs_S) (x y z u : Int32) : Option rs_S := if pB (addOk x y z u) = true then (if zn S = 12 then none else some (zadd S x.toNatClampNeg y.toNatClampNeg z.toNatClampNeg u.toNatClampNeg 4)) else none
theorem rng_nat {lo hi : Int} {x : Int32} (h : rng lo hi x) (h0 : 0 ≤ lo) : lo ≤ (x.toNatClampNeg : Int) ∧ (x.toNatClampNeg : Int) ≤ hi ∧ x = nI x.toNatClampNeg := by
  have h1 : 0 ≤ x.toInt := Int.le_trans h0 h.1
  rw [clamp_int h1]
  exact ⟨h.1, h.2, toNat_nI h1⟩
theorem nq_add_Wf {S : rs_S} (hw : Wf S) {x y z u : Int32} {S' : rs_S} (h : nq_add S x y z u = some S') : Wf S' := by
  unfold nq_add at h
  split at h
  · next q =>
    obtain ⟨q1, q2, q3, q4⟩ := pB_t.mp q
    split at h
    · cases h
    · next hn =>
      cases h
      have a1 := rng_nat q1 (by decide)
      have a2 := rng_nat q2 (by decide)
      have a3 := rng_nat q3 (by decide)
      have a4 := rng_nat q4 (by decide)
      have := hw.n12
      exact zadd_Wf hw (by omega) (by omega) (by omega) (by omega) (by omega) (by omega)
  · cases h
noncomputable def a_rem (S : rs_S) (x : Int32) : Int32 := if isI (zn S) x = true then nI (zn S - 1) else (-1)
noncomputable def nq_rem (S : rs_S) (x : Int32) : Option rs_S := if isI (zn S) x = true then some (zrem S x.toNatClampNeg) else none
theorem nq_rem_Wf {S : rs_S} (hw : Wf S) {x : Int32} {S' : rs_S} (h : nq_rem S x = some S') : Wf S' := by
  unfold nq_rem at h
  split at h
  · next q =>
    obtain ⟨i, hi, e⟩ := isI_of (by have := hw.n12; omega) q
    cases h
    rw [e, nI_clamp (by have := hw.n12; omega)]
    exact zrem_Wf hw hi
  · cases h
/-- a property and its range -/
def propOk (p v : Int32) : Prop := ((p = 0 ∨ p = 1) ∧ rng 1 999 v) ∨ ((p = 2 ∨ p = 3) ∧ rng 0 999 v) ∨ (p = 4 ∧ rng (-1) 3 v)
def pval (S : rs_S) (p k : Nat) : Int32 := if p < 4 then nI (zp S p k) else gM (zp S p k)
def vnat (v : Int32) : Nat := if v.toInt < 0 then 4 else v.toNatClampNeg
noncomputable def a_set (S : rs_S) (x p v : Int32) : Int32 := if isI (zn S) x = true then (if pB (propOk p v) = true then pval S p.toNatClampNeg x.toNatClampNeg else (-2)) else (-1)
noncomputable def nq_set (S : rs_S) (x p v : Int32) : Option rs_S := if isI (zn S) x = true ∧ pB (propOk p v) = true then some (zset S p.toNatClampNeg x.toNatClampNeg (vnat v)) else none
theorem propOk_p {p v : Int32} (h : propOk p v) : ∃ q, q < 5 ∧ p = nI q ∧ (q = 0 ∨ q = 1 → 1 ≤ vnat v ∧ vnat v ≤ 999) ∧ (q = 2 ∨ q = 3 → vnat v ≤ 999) ∧ (q = 4 → vnat v ≤ 4) ∧ (q < 4 → v = nI (vnat v) ∧ 0 ≤ v.toInt) ∧ (q = 4 → rng (-1) 3 v) := by
  rcases h with ⟨h1, h2⟩ | ⟨h1, h2⟩ | ⟨h1, h2⟩
  · have a := rng_nat h2 (by decide)
    have hv : 0 ≤ v.toInt := by have := h2.1; omega
    have e : vnat v = v.toNatClampNeg := if_neg (by omega)
    rw [e]
    rcases h1 with h1 | h1
    · exact ⟨0, by omega, h1, fun _ => by omega, fun q => by omega, fun q => by omega, fun _ => ⟨a.2.2, hv⟩, fun q => by omega⟩
    · exact ⟨1, by omega, h1, fun _ => by omega, fun q => by omega, fun q => by omega, fun _ => ⟨a.2.2, hv⟩, fun q => by omega⟩
  · have a := rng_nat h2 (by decide)
    have hv : 0 ≤ v.toInt := by have := h2.1; omega
    have e : vnat v = v.toNatClampNeg := if_neg (by omega)
    rw [e]
    rcases h1 with h1 | h1
    · exact ⟨2, by omega, h1, fun q => by omega, fun _ => by omega, fun q => by omega, fun _ => ⟨a.2.2, hv⟩, fun q => by omega⟩
    · exact ⟨3, by omega, h1, fun q => by omega, fun _ => by omega, fun q => by omega, fun _ => ⟨a.2.2, hv⟩, fun q => by omega⟩
  · refine ⟨4, by omega, h1, fun q => by omega, fun q => by omega, fun _ => ?_, fun q => by omega, fun _ => h2⟩
    unfold vnat
    split
    · exact Nat.le_refl _
    · next q =>
      have := clamp_int (x := v) (by omega)
      have := h2.2
      omega
theorem nq_set_Wf {S : rs_S} (hw : Wf S) {x p v : Int32} {S' : rs_S} (h : nq_set S x p v = some S') : Wf S' := by
  unfold nq_set at h
  split at h
  · next q =>
    obtain ⟨q1, q2, q3, q4, q5, q6, -⟩ := propOk_p (pB_t.mp q.2)
    cases h
    refine zset_Wf2 hw ?_
    rw [q3, nI_clamp (by omega)]
    exact ⟨q4, q5, q6⟩
  · cases h
/-- which need item i -/
def nby (S : rs_S) (i : Nat) : Nat → Nat
  | 0 => 0
  | k + 1 => nby S i k ||| (if (zd S k).testBit i then 2 ^ k else 0)
theorem nby_lt (S : rs_S) (i : Nat) : ∀ m, nby S i m < 2 ^ m
  | 0 => by show 0 < 1; omega
  | m + 1 => by
    have h := nby_lt S i m
    refine Nat.or_lt_two_pow (lt_pow h (by omega)) ?_
    split
    · exact Nat.pow_lt_pow_right (by omega) (by omega)
    · exact Nat.two_pow_pos _
noncomputable def a_item (S : rs_S) (x p : Int32) : Int32 :=
  if isI (zn S) x = true then
    (if isI 5 p = true then pval S p.toNatClampNeg x.toNatClampNeg else
     if p = 5 then nI (zf S x.toNatClampNeg) else
     if p = 6 then nI (zd S x.toNatClampNeg) else
     if p = 7 then nI (nby S x.toNatClampNeg (zn S)) else (-2))
  else (-1)
def pairOk (S : rs_S) (x y : Int32) : Prop := isI (zn S) x = true ∧ isI (zn S) y = true ∧ x ≠ y
noncomputable def a_con (S : rs_S) (x y : Int32) : Int32 := if isI (zn S) x = true ∧ isI (zn S) y = true then (if x = y then (-2) else bI ((ztog (zf S x.toNatClampNeg) y.toNatClampNeg).testBit y.toNatClampNeg)) else (-1)
noncomputable def nq_con (S : rs_S) (x y : Int32) : Option rs_S := if pB (pairOk S x y) = true then some (zcon S x.toNatClampNeg y.toNatClampNeg) else none
noncomputable def a_nee (S : rs_S) (x y : Int32) : Int32 := if isI (zn S) x = true ∧ isI (zn S) y = true then (if x = y then (-2) else bI ((ztog (zd S x.toNatClampNeg) y.toNatClampNeg).testBit y.toNatClampNeg)) else (-1)
noncomputable def nq_nee (S : rs_S) (x y : Int32) : Option rs_S := if pB (pairOk S x y) = true then some (znee S x.toNatClampNeg y.toNatClampNeg) else none
theorem pairOk_nat {S : rs_S} (hw : Wf S) {x y : Int32} (h : pairOk S x y) : ∃ a b, a < zn S ∧ b < zn S ∧ a ≠ b ∧ x = nI a ∧ y = nI b := by
  obtain ⟨h1, h2, h3⟩ := h
  obtain ⟨a, ha, e1⟩ := isI_of (by have := hw.n12; omega) h1
  obtain ⟨b, hb, e2⟩ := isI_of (by have := hw.n12; omega) h2
  exact ⟨a, b, ha, hb, fun e => h3 (by rw [e1, e2, e]), e1, e2⟩
theorem nq_con_Wf {S : rs_S} (hw : Wf S) {x y : Int32} {S' : rs_S} (h : nq_con S x y = some S') : Wf S' := by
  unfold nq_con at h
  split at h
  · next q =>
    obtain ⟨a, b, ha, hb, hab, e1, e2⟩ := pairOk_nat hw (pB_t.mp q)
    have hn := hw.n12
    cases h
    rw [e1, e2, nI_clamp (by omega), nI_clamp (by omega)]
    exact zcon_Wf hw ha hb hab
  · cases h
theorem nq_nee_Wf {S : rs_S} (hw : Wf S) {x y : Int32} {S' : rs_S} (h : nq_nee S x y = some S') : Wf S' := by
  unfold nq_nee at h
  split at h
  · next q =>
    obtain ⟨a, b, ha, hb, hab, e1, e2⟩ := pairOk_nat hw (pB_t.mp q)
    have hn := hw.n12
    cases h
    rw [e1, e2, nI_clamp (by omega), nI_clamp (by omega)]
    exact znee_Wf hw ha hb
  · cases h
def ruleOk (s v : Int32) : Prop := (s = 0 ∧ rng 0 9999 v) ∨ ((s = 1 ∨ s = 2) ∧ rng 0 12 v)
def sval (S : rs_S) (s : Int32) : Int32 := if s = 0 then nI (zc S) else if s = 1 then nI (zg S) else nI (zh S)
noncomputable def a_rule (S : rs_S) (s v : Int32) : Int32 := if pB (ruleOk s v) = true then sval S s else (-2)
noncomputable def nq_rule (S : rs_S) (s v : Int32) : Option rs_S := if pB (ruleOk s v) = true then some (zrul S s.toNatClampNeg v.toNatClampNeg) else none
theorem ruleOk_nat {s v : Int32} (h : ruleOk s v) : ∃ i, i < 3 ∧ s = nI i ∧ v = nI v.toNatClampNeg ∧ (i = 0 → v.toNatClampNeg ≤ 9999) ∧ (i ≠ 0 → v.toNatClampNeg ≤ 12) := by
  rcases h with ⟨h1, h2⟩ | ⟨h1 | h1, h2⟩
  · have a := rng_nat h2 (by decide)
    exact ⟨0, by omega, h1, a.2.2, fun _ => by omega, fun q => absurd rfl q⟩
  · have a := rng_nat h2 (by decide)
    exact ⟨1, by omega, h1, a.2.2, fun q => by omega, fun _ => by omega⟩
  · have a := rng_nat h2 (by decide)
    exact ⟨2, by omega, h1, a.2.2, fun q => by omega, fun _ => by omega⟩
theorem nq_rule_Wf {S : rs_S} (hw : Wf S) {s v : Int32} {S' : rs_S} (h : nq_rule S s v = some S') : Wf S' := by
  unfold nq_rule at h
  split at h
  · next q =>
    obtain ⟨i, q1, q2, q3, q4, q5⟩ := ruleOk_nat (pB_t.mp q)
    cases h
    refine zrul_Wf hw ?_
    rw [q2, nI_clamp (by omega)]
    exact ⟨q4, q5⟩
  · cases h
def g_undo (g : rs_G) : rs_G := match g.2.1.getLast? with
  | none => g
  | some s => (s, g.2.1.dropLast, g.2.2)
def a_undo (g : rs_G) : Int32 := if g.2.1.length = 0 then (-5) else nI (g.2.1.length - 1)
theorem g_undo_WG {g : rs_G} (h : WG g) : WG (g_undo g) := by
  unfold g_undo
  cases q : g.2.1.getLast? with
  | none => exact h
  | some s => exact ⟨h.2.2.1 s (List.mem_of_getLast? q), by show g.2.1.dropLast.length ≤ 12; rw [List.length_dropLast]; have := h.2.1; omega, fun t ht => h.2.2.1 t ((List.dropLast_sublist _).subset ht), h.2.2.2⟩
/-- how many bits in the sets of all items -/
def prs (f : Nat → Nat) : Nat → Nat
  | 0 => 0
  | k + 1 => prs f k + pop (f k)
theorem prs_le (f : Nat → Nat) : ∀ m, prs f m ≤ 12 * m
  | 0 => Nat.le_refl _
  | m + 1 => by
    have := prs_le f m
    have := pop_le (f m)
    show prs f m + pop (f m) ≤ _
    omega
def a_count (g : rs_G) (w : Int32) : Int32 :=
  if w = 0 then nI (zn g.1) else if w = 1 then nI (zc g.1) else if w = 2 then nI (zg g.1) else if w = 3 then nI (zh g.1) else
  if w = 4 then nI (prs (zf g.1) (zn g.1)) / 2 else if w = 5 then nI (prs (zd g.1) (zn g.1)) else if w = 6 then nI g.2.2.length else if w = 7 then nI g.2.1.length else (-2)

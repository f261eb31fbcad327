/-! THE STATE, changed; and the reference's rows that last -/
abbrev rs_G : Type := rs_S × List rs_S × List Nat
def WG (g : rs_G) : Prop := Wf g.1 ∧ g.2.1.length ≤ 12 ∧ (∀ s ∈ g.2.1, Wf s) ∧ g.2.2.length ≤ 80 ∧ ∀ c ∈ g.2.2, 33 ≤ c ∧ c ≤ 126
def IM (g : rs_G) (M : rp_M) : Prop := RM g.1 (M 156) ∧ M 155 2 = nI g.2.1.length ∧ (∀ (j : Nat) (s : rs_S), g.2.1[j]? = some s → RM s (fun k => M 157 (88 * j + k))) ∧ M 155 4 = nI g.2.2.length ∧ ∀ (i c : Nat), g.2.2[i]? = some c → M 158 i = nI c
theorem IM.scr {g : rs_G} {M M' : rp_M} (h : IM g M) (hs : scrM M M') : IM g M' := by
  obtain ⟨h1, h2, h3, h4, h5⟩ := h
  obtain ⟨-, s1, s2, s3, s4, s5⟩ := hs
  exact ⟨by rw [s1]; exact h1, by rw [s4]; exact h2, fun j s hj => by rw [s2]; exact h3 j s hj, by rw [s5]; exact h4, fun i c hi => by rw [s3]; exact h5 i c hi⟩
/-- one more in the history: of 12 the oldest is dropped -/
def hpush (hs : List rs_S) (S : rs_S) : List rs_S := (if hs.length = 12 then hs.drop 1 else hs) ++ [S]
theorem hpush_len {hs : List rs_S} (S : rs_S) (h : hs.length ≤ 12) : (hpush hs S).length = if hs.length = 12 then 12 else hs.length + 1 := by
  unfold hpush
  split
  · rw [List.length_append, List.length_drop, List.length_singleton]
    omega
  · rw [List.length_append, List.length_singleton]
theorem hpush_len12 {hs : List rs_S} (S : rs_S) (h : hs.length ≤ 12) : (hpush hs S).length ≤ 12 := by
  rw [hpush_len S h]
  split <;> omega
theorem hpush_wf {hs : List rs_S} {S : rs_S} (hS : Wf S) (h : ∀ s ∈ hs, Wf s) : ∀ s ∈ hpush hs S, Wf s := by
  intro s hs'
  unfold hpush at hs'
  rcases List.mem_append.mp hs' with q | q
  · split at q
    · exact h s (List.mem_of_mem_drop q)
    · exact h s q
  · rw [List.mem_singleton.mp q]
    exact hS
/-! states made of states -/
def zadd (S : rs_S) (p w v d g : Nat) : rs_S := ((zn S + 1, zc S, zg S, zh S), (fun q j => if j = zn S then (if q = 0 then p else if q = 1 then w else if q = 2 then v else if q = 3 then d else g) else zp S q j), (fun j => if j = zn S then 0 else zf S j), (fun j => if j = zn S then 0 else zd S j))
theorem lt_pow {a n m : Nat} (h : a < 2 ^ n) (hn : n ≤ m) : a < 2 ^ m := Nat.lt_of_lt_of_le h (Nat.pow_le_pow_right (by omega) hn)
theorem zadd_Wf {S : rs_S} (hw : Wf S) (hn : zn S < 12) {p w v d g : Nat} (hp : 1 ≤ p ∧ p ≤ 999) (hwt : 1 ≤ w ∧ w ≤ 999) (hv : v ≤ 999) (hd : d ≤ 999) (hg : g ≤ 4) : Wf (zadd S p w v d g) := by
  obtain ⟨h1, h2, h3, h4, h5, h6⟩ := hw
  have en : zn (zadd S p w v d g) = zn S + 1 := rfl
  have ep : ∀ q j, zp (zadd S p w v d g) q j = if j = zn S then (if q = 0 then p else if q = 1 then w else if q = 2 then v else if q = 3 then d else g) else zp S q j := fun _ _ => rfl
  have ef : ∀ j, zf (zadd S p w v d g) j = if j = zn S then 0 else zf S j := fun _ => rfl
  have ed : ∀ j, zd (zadd S p w v d g) j = if j = zn S then 0 else zd S j := fun _ => rfl
  refine ⟨by rw [en]; omega, h2, h3, h4, fun j hj => ?_, fun k j hk hj => ?_⟩
  · rw [en] at hj
    unfold zit
    rw [ep, ep, ep, ep, ep, ef, ed, en]
    by_cases e : j = zn S
    · simp only [if_pos e]
      exact ⟨hp.1, hp.2, hwt.1, hwt.2, hv, hd, hg, Nat.two_pow_pos _, Nat.two_pow_pos _, Nat.zero_testBit _⟩
    · simp only [if_neg e]
      obtain ⟨a1, a2, a3, a4, a5, a6, a7, a8, a9, a10⟩ := h5 j (by omega)
      exact ⟨a1, a2, a3, a4, a5, a6, a7, lt_pow a8 (by omega), lt_pow a9 (by omega), a10⟩
  · rw [en] at hk hj
    rw [ef, ef]
    by_cases e1 : k = zn S <;> by_cases e2 : j = zn S
    · rw [if_pos e1, if_pos e2, Nat.zero_testBit, Nat.zero_testBit]
    · rw [if_pos e1, if_neg e2, Nat.zero_testBit, e1, Nat.testBit_lt_two_pow (h5 j (by omega)).2.2.2.2.2.2.2.1]
    · rw [if_neg e1, if_pos e2, Nat.zero_testBit, e2, Nat.testBit_lt_two_pow (h5 k (by omega)).2.2.2.2.2.2.2.1]
    · rw [if_neg e1, if_neg e2]
      exact h6 k j (by omega) (by omega)
/-- a property changed -/
theorem zset_Wf2 {S : rs_S} (hw : Wf S) {p k v : Nat} (hv : (p = 0 ∨ p = 1 → 1 ≤ v ∧ v ≤ 999) ∧ (p = 2 ∨ p = 3 → v ≤ 999) ∧ (p = 4 → v ≤ 4)) : Wf (zset S p k v) := by
  obtain ⟨h1, h2, h3, h4, h5, h6⟩ := hw
  refine ⟨h1, h2, h3, h4, fun j hj => ?_, h6⟩
  obtain ⟨a1, a2, a3, a4, a5, a6, a7, a8⟩ := h5 j hj
  unfold zit
  rw [zset_p, zset_p, zset_p, zset_p, zset_p]
  refine ⟨?_, ?_, ?_, ?_, ?_, ?_, ?_, a8⟩ <;> split <;> first | omega | (rename_i q; obtain ⟨q1, q2⟩ := q; have := hv.1; have := hv.2.1; have := hv.2.2; omega)
def ztog (m k : Nat) : Nat := m ^^^ 2 ^ k
theorem ztog_bit {m k j : Nat} : (ztog m k).testBit j = (m.testBit j ^^ decide (k = j)) := by
  unfold ztog
  rw [Nat.testBit_xor, Nat.testBit_two_pow]
def zcon (S : rs_S) (a b : Nat) : rs_S := (S.1, S.2.1, (fun j => if j = a then ztog (zf S a) b else if j = b then ztog (zf S b) a else zf S j), S.2.2.2)
def znee (S : rs_S) (a b : Nat) : rs_S := (S.1, S.2.1, S.2.2.1, (fun j => if j = a then ztog (zd S a) b else zd S j))
theorem ztog_lt {m k n : Nat} (hm : m < 2 ^ n) (hk : k < n) : ztog m k < 2 ^ n := Nat.xor_lt_two_pow hm (Nat.pow_lt_pow_right (by omega) hk)
theorem zcon_Wf {S : rs_S} (hw : Wf S) {a b : Nat} (ha : a < zn S) (hb : b < zn S) (hab : a ≠ b) : Wf (zcon S a b) := by
  obtain ⟨h1, h2, h3, h4, h5, h6⟩ := hw
  have ef : ∀ j, zf (zcon S a b) j = if j = a then ztog (zf S a) b else if j = b then ztog (zf S b) a else zf S j := fun _ => rfl
  refine ⟨h1, h2, h3, h4, fun j hj => ?_, fun k j hk hj => ?_⟩
  · obtain ⟨a1, a2, a3, a4, a5, a6, a7, a8, a9, a10⟩ := h5 j hj
    refine ⟨a1, a2, a3, a4, a5, a6, a7, ?_, a9, ?_⟩
    · rw [ef]
      split
      · exact ztog_lt (h5 a ha).2.2.2.2.2.2.2.1 hb
      · split
        · exact ztog_lt (h5 b hb).2.2.2.2.2.2.2.1 ha
        · exact a8
    · rw [ef]
      split
      · next e =>
        rw [ztog_bit, e, (h5 a ha).2.2.2.2.2.2.2.2.2]
        simp [Ne.symm hab]
      · split
        · next e =>
          rw [ztog_bit, e, (h5 b hb).2.2.2.2.2.2.2.2.2]
          simp [hab]
        · exact a10
  · have hk' : k < zn S := hk
    have hj' : j < zn S := hj
    rw [ef, ef]
    by_cases k1 : k = a <;> by_cases j1 : j = a
    · rw [if_pos k1, if_pos j1, k1, j1]
    · rw [if_pos k1, if_neg j1, ztog_bit, k1]
      by_cases j2 : j = b
      · rw [if_pos j2, ztog_bit, j2, h6 a b ha hb]
        simp
      · rw [if_neg j2, h6 a j ha hj']
        simp [Ne.symm j2]
    · rw [if_neg k1, if_pos j1, ztog_bit, j1]
      by_cases k2 : k = b
      · rw [if_pos k2, ztog_bit, k2, h6 b a hb ha]
        simp
      · rw [if_neg k2, h6 k a hk' ha]
        simp [Ne.symm k2]
    · rw [if_neg k1, if_neg j1]
      by_cases k2 : k = b <;> by_cases j2 : j = b
      · rw [if_pos k2, if_pos j2, k2, j2]
      · rw [if_pos k2, if_neg j2, ztog_bit, k2, h6 b j hb hj']
        simp [Ne.symm j1]
      · rw [if_neg k2, if_pos j2, ztog_bit, j2, h6 k b hk' hb]
        simp [Ne.symm k1]
      · rw [if_neg k2, if_neg j2]
        exact h6 k j hk' hj'
theorem znee_Wf {S : rs_S} (hw : Wf S) {a b : Nat} (ha : a < zn S) (hb : b < zn S) : Wf (znee S a b) := by
  obtain ⟨h1, h2, h3, h4, h5, h6⟩ := hw
  have ed : ∀ j, zd (znee S a b) j = if j = a then ztog (zd S a) b else zd S j := fun _ => rfl
  refine ⟨h1, h2, h3, h4, fun j hj => ?_, h6⟩
  obtain ⟨a1, a2, a3, a4, a5, a6, a7, a8, a9, a10⟩ := h5 j hj
  refine ⟨a1, a2, a3, a4, a5, a6, a7, a8, ?_, a10⟩
  rw [ed]
  split
  · exact ztog_lt (h5 a ha).2.2.2.2.2.2.2.2.1 hb
  · exact a9
def zrul (S : rs_S) (i v : Nat) : rs_S := ((zn S, (if i = 0 then v else zc S), (if i = 1 then v else zg S), (if i = 2 then v else zh S)), S.2)
theorem zrul_Wf {S : rs_S} (hw : Wf S) {i v : Nat} (hv : (i = 0 → v ≤ 9999) ∧ (i ≠ 0 → v ≤ 12)) : Wf (zrul S i v) := by
  obtain ⟨h1, h2, h3, h4, h5, h6⟩ := hw
  refine ⟨h1, ?_, ?_, ?_, h5, h6⟩
  · show (if i = 0 then v else zc S) ≤ 9999
    split
    · exact hv.1 (by assumption)
    · exact h2
  · show (if i = 1 then v else zg S) ≤ 12
    split
    · exact hv.2 (by omega)
    · exact h3
  · show (if i = 2 then v else zh S) ≤ 12
    split
    · exact hv.2 (by omega)
    · exact h4
/-- a set without item i: those behind it move up -/
def zgap (m i : Nat) : Nat := m % 2 ^ i + m / 2 ^ (i + 1) * 2 ^ i
theorem zgap_bit (m i j : Nat) : (zgap m i).testBit j = m.testBit (if j < i then j else j + 1) := by
  unfold zgap
  rw [Nat.add_comm, ← Nat.shiftLeft_eq, Nat.shiftLeft_add_eq_or_of_lt (Nat.mod_lt _ (Nat.two_pow_pos i))]
  rw [Nat.testBit_or, Nat.testBit_shiftLeft, Nat.testBit_mod_two_pow]
  by_cases h : j < i
  · simp [h, show ¬ i ≤ j by omega]
  · simp only [h, if_false, show i ≤ j by omega, decide_true, Bool.true_and, decide_false, Bool.false_and, Bool.or_false]
    rw [Nat.testBit_div_two_pow]
    congr 1
    omega
def zup (i j : Nat) : Nat := if j < i then j else j + 1
def zrem (S : rs_S) (i : Nat) : rs_S := ((zn S - 1, zc S, zg S, zh S), (fun q j => zp S q (zup i j)), (fun j => zgap (zf S (zup i j)) i), (fun j => zgap (zd S (zup i j)) i))
theorem zgap_lt {m i n : Nat} (hm : m < 2 ^ n) (hi : i < n) : zgap m i < 2 ^ (n - 1) := by
  refine Nat.lt_pow_two_of_testBit _ (fun j hj => ?_)
  rw [zgap_bit, if_neg (by omega)]
  exact Nat.testBit_lt_two_pow (Nat.lt_of_lt_of_le hm (Nat.pow_le_pow_right (by omega) (by omega)))
theorem zrem_Wf {S : rs_S} (hw : Wf S) {i : Nat} (hi : i < zn S) : Wf (zrem S i) := by
  obtain ⟨h1, h2, h3, h4, h5, h6⟩ := hw
  have en : zn (zrem S i) = zn S - 1 := rfl
  have hup : ∀ j, j < zn S - 1 → zup i j < zn S := fun j hj => by unfold zup; split <;> omega
  refine ⟨by rw [en]; omega, h2, h3, h4, fun j hj => ?_, fun k j hk hj => ?_⟩
  · rw [en] at hj
    obtain ⟨a1, a2, a3, a4, a5, a6, a7, a8, a9, a10⟩ := h5 _ (hup j hj)
    refine ⟨a1, a2, a3, a4, a5, a6, a7, zgap_lt a8 hi, zgap_lt a9 hi, ?_⟩
    show (zgap (zf S (zup i j)) i).testBit j = false
    rw [zgap_bit]
    exact a10
  · rw [en] at hk hj
    show (zgap (zf S (zup i k)) i).testBit j = (zgap (zf S (zup i j)) i).testBit k
    rw [zgap_bit, zgap_bit]
    exact h6 _ _ (hup k hk) (hup j hj)

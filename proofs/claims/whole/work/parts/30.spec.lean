/-! THE STATE as numbers: n items, capacity, budgets; properties (0 profit, 1 weight, 2 weight deviation, 3 profit deviation, 4 group, 4 = none); conflicts, needs -/
abbrev rs_S : Type := (Nat × Nat × Nat × Nat) × (Nat → Nat → Nat) × (Nat → Nat) × (Nat → Nat)
def zn (S : rs_S) : Nat := S.1.1
def zc (S : rs_S) : Nat := S.1.2.1
def zg (S : rs_S) : Nat := S.1.2.2.1
def zh (S : rs_S) : Nat := S.1.2.2.2
def zp (S : rs_S) : Nat → Nat → Nat := S.2.1
def zf (S : rs_S) : Nat → Nat := S.2.2.1
def zd (S : rs_S) : Nat → Nat := S.2.2.2
/-- an item's numbers are in their ranges -/
def zit (S : rs_S) (k : Nat) : Prop := 1 ≤ zp S 0 k ∧ zp S 0 k ≤ 999 ∧ 1 ≤ zp S 1 k ∧ zp S 1 k ≤ 999 ∧ zp S 2 k ≤ 999 ∧ zp S 3 k ≤ 999 ∧ zp S 4 k ≤ 4 ∧ zf S k < 2 ^ zn S ∧ zd S k < 2 ^ zn S ∧ (zf S k).testBit k = false
def Wf (S : rs_S) : Prop := zn S ≤ 12 ∧ zc S ≤ 9999 ∧ zg S ≤ 12 ∧ zh S ≤ 12 ∧ (∀ k, k < zn S → zit S k) ∧ ∀ k j, k < zn S → j < zn S → (zf S k).testBit j = (zf S j).testBit k
def gX (v : Nat) : Int32 := if v < 4 then nI v else (-1)
def gM (v : Nat) : Int32 := if v < 4 then nI v else (-6)
/-- the class's state in the cells from b on -/
def RX (S : rs_S) (b : Nat) (M : rp_M) : Prop := M b 4 = nI (zn S) ∧ M (b + 9) 0 = nI (zc S) ∧ M (b + 9) 1 = nI (zg S) ∧ M (b + 9) 2 = nI (zh S) ∧
  ∀ k, k < zn S → (∀ p, p < 4 → M (b + 2 + p) k = nI (zp S p k)) ∧ M (b + 6) k = gX (zp S 4 k) ∧ M (b + 7) k = nI (zf S k) ∧ M (b + 8) k = nI (zd S k)
/-- the class's own state -/
def R0 (S : rs_S) (M : rp_M) : Prop := M 0 4 = nI (zn S) ∧ M 9 0 = nI (zc S) ∧ M 9 1 = nI (zg S) ∧ M 9 2 = nI (zh S) ∧
  ∀ k, k < zn S → (∀ p, p < 4 → M (2 + p) k = nI (zp S p k)) ∧ M 6 k = gX (zp S 4 k) ∧ M 7 k = nI (zf S k) ∧ M 8 k = nI (zd S k)
/-- the reference's state: a row of 88 -/
def RM (S : rs_S) (f : Nat → Int32) : Prop := f 0 = nI (zn S) ∧ f 1 = nI (zc S) ∧ f 2 = nI (zg S) ∧ f 3 = nI (zh S) ∧
  ∀ k, k < zn S → (∀ p, p < 4 → f (4 + 5 * k + p) = nI (zp S p k)) ∧ f (4 + 5 * k + 4) = gM (zp S 4 k) ∧ f (64 + k) = nI (zf S k) ∧ f (76 + k) = nI (zd S k)
theorem R0_RX {S : rs_S} {M : rp_M} : R0 S M ↔ RX S 0 M := by
  unfold R0 RX
  simp only [Nat.zero_add]
/-! sums, picks, worst scenarios -/
def psum (f : Nat → Nat) (c : Nat) : Nat → Nat
  | 0 => 0
  | k + 1 => psum f c k + (if c.testBit k then f k else 0)
def ov (f : Nat → Nat) : Option Nat → Nat
  | none => 0
  | some j => f j
/-- the first of the greatest positive ones of c outside s -/
def pck (f : Nat → Nat) (c s : Nat) : Nat → Option Nat
  | 0 => none
  | k + 1 => if c.testBit k = true ∧ s.testBit k = false ∧ ov f (pck f c s k) < f k then some k else pck f c s k
def wst (f : Nat → Nat) (c m : Nat) : Nat → Nat
  | 0 => 0
  | i + 1 => match pck f c (wst f c m i) m with
    | none => wst f c m i
    | some k => wst f c m i ||| 2 ^ k
def zsum (S : rs_S) (p c : Nat) : Nat := psum (zp S p) c (zn S)
def zworst (S : rs_S) (p c g : Nat) : Nat := wst (zp S p) c (zn S) g
def zheavy (S : rs_S) (c g : Nat) : Nat := zsum S 1 c + zsum S 2 (zworst S 2 c g)
def zworth (S : rs_S) (c h : Nat) : Int := (zsum S 0 c : Int) - (zsum S 3 (zworst S 3 c h) : Int)
theorem up_loop {n : Nat} {P : Nat → Prop} (h : ∀ j, j ≤ n → (j < n → P (j + 1)) → P j) : ∀ j, j ≤ n → P j := by
  have key : ∀ d j, j + d = n → P j := by
    intro d
    induction d with
    | zero => exact fun j hj => h j (by omega) (fun q => by omega)
    | succ d ih => exact fun j hj => h j (by omega) (fun _ => ih (j + 1) (by omega))
  exact fun j hj => key (n - j) j (by omega)
theorem psum_le {f : Nat → Nat} {c m B : Nat} (h : ∀ k, k < m → f k ≤ B) : psum f c m ≤ m * B := by
  induction m with
  | zero => exact Nat.zero_le _
  | succ m ih =>
    have h1 := ih (fun k hk => h k (by omega))
    have h2 := h m (by omega)
    rw [Nat.succ_mul]
    show psum f c m + _ ≤ _
    split <;> omega
theorem pck_spec {f : Nat → Nat} {c s m j : Nat} (h : pck f c s m = some j) : j < m ∧ c.testBit j = true ∧ s.testBit j = false ∧ 0 < f j := by
  induction m with
  | zero => cases h
  | succ m ih =>
    unfold pck at h
    split at h
    · next hc =>
      cases h
      exact ⟨by omega, hc.1, hc.2.1, by omega⟩
    · obtain ⟨h1, h2⟩ := ih h
      exact ⟨by omega, h2⟩
theorem wst_stop {f : Nat → Nat} {c m i : Nat} (h : pck f c (wst f c m i) m = none) : ∀ g, i ≤ g → wst f c m g = wst f c m i := by
  intro g hg
  induction g with
  | zero => rw [show i = 0 by omega]
  | succ g ih =>
    by_cases e : i = g + 1
    · rw [e]
    · have e1 := ih (by omega)
      show (match pck f c (wst f c m g) m with | none => wst f c m g | some k => wst f c m g ||| 2 ^ k) = _
      rw [e1, h]
theorem wst_lt {f : Nat → Nat} {c m g : Nat} : wst f c m g < 2 ^ m := by
  induction g with
  | zero => exact Nat.two_pow_pos m
  | succ g ih =>
    show (match pck f c (wst f c m g) m with | none => wst f c m g | some k => wst f c m g ||| 2 ^ k) < _
    cases h : pck f c (wst f c m g) m with
    | none => exact ih
    | some k =>
      have := (pck_spec h).1
      exact Nat.or_lt_two_pow ih (Nat.pow_lt_pow_right (by omega) this)
theorem Wf.n12 {S : rs_S} (h : Wf S) : zn S ≤ 12 := h.1
theorem Wf.it {S : rs_S} (h : Wf S) {k : Nat} (hk : k < zn S) : zit S k := h.2.2.2.2.1 k hk
theorem Wf.p999 {S : rs_S} (h : Wf S) {p k : Nat} (hp : p < 4) (hk : k < zn S) : zp S p k ≤ 999 := by
  obtain ⟨-, h0, -, h1, h2, h3, -⟩ := h.it hk
  match p, hp with
  | 0, _ => exact h0
  | 1, _ => exact h1
  | 2, _ => exact h2
  | 3, _ => exact h3
theorem Wf.sum {S : rs_S} (h : Wf S) {p : Nat} (hp : p < 4) (c : Nat) : zsum S p c ≤ 11988 := by
  have h1 : zsum S p c ≤ zn S * 999 := psum_le (fun k hk => h.p999 hp hk)
  have h2 := h.n12
  omega
theorem Wf.two {S : rs_S} (h : Wf S) : 2 ^ zn S ≤ 4096 := by
  have := h.n12
  exact Nat.le_trans (Nat.pow_le_pow_right (by omega) this) (by decide)
theorem rp_C_of {E : rp_E} {Y : rp_Y} {as : List Value} {M M' : rp_M} {r : Option Int32} (h : ∀ post : Option Int32 → rp_M → Prop, post r M' → rp_Run E Y as M post) : rp_C E Y as M r M' := h _ ⟨rfl, rfl⟩
def bI (b : Bool) : Int32 := if b = true then 1 else 0
theorem bI_0 {b : Bool} : bI b = 0 ↔ b = false := by cases b <;> decide
theorem bI_n {b : Bool} : ¬ bI b = 0 ↔ b = true := by cases b <;> decide
theorem bI_1 {b : Bool} : bI b = 1 ↔ b = true := by cases b <;> decide
theorem bI_nar (b : Bool) : narrow .boolean (.int (bI b)) = .int (bI b) := by cases b <;> rfl
theorem bI_fit (b : Bool) : fits .boolean (.int (bI b)) = true := by cases b <;> rfl
theorem bI_vp (b : Bool) : vp_nar .boolean (bI b) = bI b := by cases b <;> rfl
/-- a number or none, as the answers have it -/
def oM (r : Option Nat) : Int32 := match r with
  | none => (-6)
  | some k => nI k
/-! allowed choices -/
noncomputable def pB (P : Prop) : Bool := @decide P (Classical.propDecidable P)
theorem pB_t {P : Prop} : pB P = true ↔ P := by
  unfold pB
  exact @decide_eq_true_iff P (Classical.propDecidable P)
theorem pB_f {P : Prop} : pB P = false ↔ ¬ P := by
  unfold pB
  exact @decide_eq_false_iff_not P (Classical.propDecidable P)
def zok (S : rs_S) (c k : Nat) : Prop := zf S k &&& c = 0 ∧ zd S k &&& c = zd S k ∧ (zp S 4 k < 4 → ∀ j, j < k → c.testBit j = true → zp S 4 j ≠ zp S 4 k)
def zal (S : rs_S) (c : Nat) : Prop := ∀ k, k < zn S → c.testBit k = true → zok S c k
noncomputable def zalB (S : rs_S) (c : Nat) : Bool := pB (zal S c)
/-- the reference's rows that last: all else is laid anew at each call -/
def scrM (M M' : rp_M) : Prop := (∀ k, k < 155 → M' k = M k) ∧ M' 156 = M 156 ∧ M' 157 = M 157 ∧ M' 158 = M 158 ∧ M' 155 2 = M 155 2 ∧ M' 155 4 = M 155 4
theorem scrM.rf (M : rp_M) : scrM M M := ⟨fun _ _ => rfl, rfl, rfl, rfl, rfl, rfl⟩
theorem scrM.tr {M M' M'' : rp_M} (h : scrM M M') (h' : scrM M' M'') : scrM M M'' := ⟨fun k hk => (h'.1 k hk).trans (h.1 k hk), h'.2.1.trans h.2.1, h'.2.2.1.trans h.2.2.1, h'.2.2.2.1.trans h.2.2.2.1, h'.2.2.2.2.1.trans h.2.2.2.2.1, h'.2.2.2.2.2.trans h.2.2.2.2.2⟩
/-- the tables of the reference -/
def tabM (S : rs_S) (g h : Nat) (M : rp_M) : Prop := ∀ c, c < 2 ^ zn S → M 160 c = nI (zheavy S c g) ∧ M 161 c = iI (zworth S c h) ∧ M 162 c = bI (zalB S c)
theorem Wf.heavy {S : rs_S} (h : Wf S) (c g : Nat) : zheavy S c g ≤ 23976 := by
  have h1 := h.sum (p := 1) (by omega) c
  have h2 := h.sum (p := 2) (by omega) (zworst S 2 c g)
  unfold zheavy
  omega
theorem Wf.worth {S : rs_S} (h : Wf S) (c g : Nat) : -11988 ≤ zworth S c g ∧ zworth S c g ≤ 11988 := by
  have h1 := h.sum (p := 0) (by omega) c
  have h2 := h.sum (p := 3) (by omega) (zworst S 3 c g)
  unfold zworth
  omega

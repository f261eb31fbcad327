/-! ANSWERS, 3: greedy choices, local steps -/
noncomputable def gpk (S : rs_S) (seen : Nat) : Nat → Option Nat
  | 0 => none
  | k + 1 => if pB (seen.testBit k = false ∧ ∀ j, gpk S seen k = some j → zp S 0 j * (zp S 1 k + zp S 2 k) < zp S 0 k * (zp S 1 j + zp S 2 j)) = true then some k else gpk S seen k
theorem gpk_yes {S : rs_S} {seen k : Nat} (h : seen.testBit k = false ∧ ∀ j, gpk S seen k = some j → zp S 0 j * (zp S 1 k + zp S 2 k) < zp S 0 k * (zp S 1 j + zp S 2 j)) : gpk S seen (k + 1) = some k := if_pos (pB_t.mpr h)
theorem gpk_no {S : rs_S} {seen k : Nat} (h : ¬ (seen.testBit k = false ∧ ∀ j, gpk S seen k = some j → zp S 0 j * (zp S 1 k + zp S 2 k) < zp S 0 k * (zp S 1 j + zp S 2 j))) : gpk S seen (k + 1) = gpk S seen k := if_neg (fun q => h (pB_t.mp q))
theorem gpk_spec {S : rs_S} {seen m j : Nat} (h : gpk S seen m = some j) : j < m ∧ seen.testBit j = false := by
  induction m with
  | zero => cases h
  | succ m ih =>
    unfold gpk at h
    split at h
    · next q =>
      cases h
      exact ⟨by omega, (pB_t.mp q).1⟩
    · have := ih h
      exact ⟨by omega, this.2⟩
theorem gpk_none {S : rs_S} {seen m : Nat} (h : gpk S seen m = none) : ∀ k, k < m → seen.testBit k = true := by
  induction m with
  | zero => exact fun k hk => by omega
  | succ m ih =>
    by_cases q : seen.testBit m = false ∧ ∀ j, gpk S seen m = some j → zp S 0 j * (zp S 1 m + zp S 2 m) < zp S 0 m * (zp S 1 j + zp S 2 j)
    · rw [gpk_yes q] at h
      cases h
    · rw [gpk_no q] at h
      intro k hk
      by_cases e : k = m
      · subst e
        cases hb : seen.testBit k with
        | true => rfl
        | false => exact absurd ⟨hb, fun j hj => by rw [h] at hj; cases hj⟩ q
      · exact ih h k (by omega)
noncomputable def gst (S : rs_S) : Nat → Nat × Nat
  | 0 => (0, 0)
  | i + 1 => match gpk S (gst S i).1 (zn S) with
    | none => gst S i
    | some k => ((gst S i).1 ||| 2 ^ k, if zfit S (zg S) (zc S) ((gst S i).2 ||| 2 ^ k) = true then (gst S i).2 ||| 2 ^ k else (gst S i).2)
theorem psum1_all {c m : Nat} (h : ∀ k, k < m → c.testBit k = true) : psum (fun _ => 1) c m = m := by
  induction m with
  | zero => rfl
  | succ m ih =>
    show psum (fun _ => 1) c m + _ = _
    rw [ih (fun k hk => h k (by omega)), h m (by omega)]
    rfl
theorem psum_or_ge {f : Nat → Nat} {c k m : Nat} (h : m ≤ k) : psum f (c ||| 2 ^ k) m = psum f c m := by
  induction m with
  | zero => rfl
  | succ m ih =>
    show psum f (c ||| 2 ^ k) m + _ = psum f c m + _
    rw [ih (by omega), Nat.testBit_or, Nat.testBit_two_pow]
    simp [show k ≠ m by omega]
theorem psum_or {f : Nat → Nat} {c k m : Nat} (hk : k < m) (hb : c.testBit k = false) : psum f (c ||| 2 ^ k) m = psum f c m + f k := by
  induction m with
  | zero => omega
  | succ m ih =>
    show psum f (c ||| 2 ^ k) m + (if (c ||| 2 ^ k).testBit m = true then f m else 0) = psum f c m + (if c.testBit m = true then f m else 0) + f k
    rw [Nat.testBit_or, Nat.testBit_two_pow]
    by_cases e : k = m
    · subst e
      rw [psum_or_ge (Nat.le_refl _), hb]
      simp
    · rw [ih (by omega)]
      simp [e]
      omega
theorem gst_inv (S : rs_S) : ∀ i, i ≤ zn S → psum (fun _ => 1) (gst S i).1 (zn S) = i ∧ (gst S i).1 < 2 ^ zn S ∧ (gst S i).2 < 2 ^ zn S
  | 0, _ => ⟨psum0 _ _, Nat.two_pow_pos _, Nat.two_pow_pos _⟩
  | i + 1, h => by
    obtain ⟨h1, h2, h3⟩ := gst_inv S i (by omega)
    unfold gst
    cases hk : gpk S (gst S i).1 (zn S) with
    | none =>
      rw [psum1_all (gpk_none hk)] at h1
      omega
    | some k =>
      obtain ⟨k1, k2⟩ := gpk_spec hk
      have hp : (2 : Nat) ^ k < 2 ^ zn S := Nat.pow_lt_pow_right (by omega) k1
      refine ⟨?_, Nat.or_lt_two_pow h2 hp, ?_⟩
      · show psum (fun _ => 1) ((gst S i).1 ||| 2 ^ k) (zn S) = i + 1
        rw [psum_or k1 k2, h1]
      · show (if _ then (gst S i).2 ||| 2 ^ k else (gst S i).2) < _
        split
        · exact Nat.or_lt_two_pow h3 hp
        · exact h3
theorem gst_some {S : rs_S} {i : Nat} (h : i < zn S) : ∃ k, k < zn S ∧ gpk S (gst S i).1 (zn S) = some k := by
  cases hk : gpk S (gst S i).1 (zn S) with
  | none =>
    have := (gst_inv S i (by omega)).1
    rw [psum1_all (gpk_none hk)] at this
    omega
  | some k => exact ⟨k, (gpk_spec hk).1, rfl⟩
noncomputable def a_greedy (S : rs_S) (w : Int32) : Int32 :=
  if 0 ≤ w.toInt ∧ w.toInt ≤ 1 then (if w = 0 then nI (gst S (zn S)).2 else iI (zworth S (gst S (zn S)).2 (zh S)) + 100000) else (-2)
/-- one step away -/
def nearC (s k m : Nat) : Nat := (s ^^^ 2 ^ k) ^^^ (if m = k then 0 else 2 ^ m)
noncomputable def nst (S : rs_S) (s k m x : Nat) : Nat := if pB ((m = k ∨ s.testBit k ≠ s.testBit m) ∧ zfit S (zg S) (zc S) (nearC s k m) = true ∧ zahead S (nearC s k m) x) = true then nearC s k m else x
noncomputable def nin (S : rs_S) (s k : Nat) : Nat → Nat → Nat
  | 0, x => x
  | d + 1, x => nst S s k (k + d) (nin S s k d x)
noncomputable def nou (S : rs_S) (s : Nat) : Nat → Nat
  | 0 => s
  | k + 1 => nin S s k (zn S - k) (nou S s k)
noncomputable def fnr (S : rs_S) (s : Nat) : Nat := nou S s (zn S)
theorem zahead_tr {S : rs_S} {a b c : Nat} (h1 : zahead S a b) (h2 : zahead S b c) : zahead S a c := by
  unfold zahead at *
  omega
theorem zahead_ir {S : rs_S} {a : Nat} : ¬ zahead S a a := by
  unfold zahead
  omega
theorem nearC_lt {S : rs_S} {s k m : Nat} (hs : s < 2 ^ zn S) (hk : k < zn S) (hm : m < zn S) : nearC s k m < 2 ^ zn S := by
  unfold nearC
  refine Nat.xor_lt_two_pow (Nat.xor_lt_two_pow hs (Nat.pow_lt_pow_right (by omega) hk)) ?_
  split
  · exact Nat.two_pow_pos _
  · exact Nat.pow_lt_pow_right (by omega) hm
theorem nst_inv {S : rs_S} {s k m x : Nat} (hs : s < 2 ^ zn S) (hk : k < zn S) (hm : m < zn S) (hx : x < 2 ^ zn S ∧ (x = s ∨ zahead S x s) ∧ (x = s ∨ zfit S (zg S) (zc S) x = true)) : nst S s k m x < 2 ^ zn S ∧ (nst S s k m x = s ∨ zahead S (nst S s k m x) s) ∧ (nst S s k m x = s ∨ zfit S (zg S) (zc S) (nst S s k m x) = true) := by
  unfold nst
  split
  · next q =>
    have q := pB_t.mp q
    refine ⟨nearC_lt hs hk hm, Or.inr ?_, Or.inr q.2.1⟩
    rcases hx.2.1 with e | e
    · rw [← e]
      rw [← e] at q
      exact q.2.2
    · exact zahead_tr q.2.2 e
  · exact hx
theorem nin_inv {S : rs_S} {s k : Nat} (hs : s < 2 ^ zn S) (hk : k < zn S) : ∀ d x, k + d ≤ zn S → (x < 2 ^ zn S ∧ (x = s ∨ zahead S x s) ∧ (x = s ∨ zfit S (zg S) (zc S) x = true)) → (nin S s k d x < 2 ^ zn S ∧ (nin S s k d x = s ∨ zahead S (nin S s k d x) s) ∧ (nin S s k d x = s ∨ zfit S (zg S) (zc S) (nin S s k d x) = true))
  | 0, x, _, hx => hx
  | d + 1, x, hd, hx => nst_inv hs hk (by omega) (nin_inv hs hk d x (by omega) hx)
theorem nou_inv {S : rs_S} {s : Nat} (hs : s < 2 ^ zn S) : ∀ k, k ≤ zn S → (nou S s k < 2 ^ zn S ∧ (nou S s k = s ∨ zahead S (nou S s k) s) ∧ (nou S s k = s ∨ zfit S (zg S) (zc S) (nou S s k) = true))
  | 0, _ => ⟨hs, Or.inl rfl, Or.inl rfl⟩
  | k + 1, hk => nin_inv hs (by omega) _ _ (by omega) (nou_inv hs k (by omega))
theorem fnr_inv {S : rs_S} {s : Nat} (hs : s < 2 ^ zn S) : fnr S s < 2 ^ zn S ∧ (fnr S s = s ∨ zahead S (fnr S s) s) := ⟨(nou_inv hs _ (Nat.le_refl _)).1, (nou_inv hs _ (Nat.le_refl _)).2.1⟩
/-- steps, at most f -/
noncomputable def imf (S : rs_S) : Nat → Nat → Nat → Nat × Nat
  | 0, s, k => (s, k)
  | f + 1, s, k => if fnr S s = s then (s, k) else imf S f (fnr S s) (k + 1)
/-- how many come ahead -/
noncomputable def cntp (p : Nat → Prop) : Nat → Nat
  | 0 => 0
  | m + 1 => cntp p m + (if pB (p m) = true then 1 else 0)
theorem cntp_le {p : Nat → Prop} (m : Nat) : cntp p m ≤ m := by
  induction m with
  | zero => exact Nat.le_refl _
  | succ m ih =>
    show cntp p m + _ ≤ _
    split <;> omega
theorem cntp_mono {p q : Nat → Prop} {m : Nat} (h : ∀ c, c < m → p c → q c) : cntp p m ≤ cntp q m := by
  induction m with
  | zero => exact Nat.le_refl _
  | succ m ih =>
    have h1 := ih (fun c hc => h c (by omega))
    show cntp p m + _ ≤ cntp q m + _
    split
    · next e =>
      rw [if_pos (pB_t.mpr (h m (by omega) (pB_t.mp e)))]
      omega
    · omega
theorem cntp_lt {p q : Nat → Prop} {m a : Nat} (h : ∀ c, c < m → p c → q c) (ha : a < m) (hq : q a) (hp : ¬ p a) : cntp p m < cntp q m := by
  induction m with
  | zero => omega
  | succ m ih =>
    show cntp p m + _ < cntp q m + _
    by_cases e : a = m
    · subst e
      have h1 := cntp_mono (p := p) (q := q) (m := a) (fun c hc => h c (by omega))
      rw [if_pos (pB_t.mpr hq), if_neg (fun z => hp (pB_t.mp z))]
      omega
    · have h1 := ih (fun c hc => h c (by omega)) (by omega)
      have h2 : (if pB (p m) = true then 1 else 0) ≤ (if pB (q m) = true then 1 else 0) := by
        split
        · next z =>
          rw [if_pos (pB_t.mpr (h m (by omega) (pB_t.mp z)))]
          exact Nat.le_refl _
        · exact Nat.zero_le _
      omega
noncomputable def zrk (S : rs_S) (s : Nat) : Nat := cntp (fun c => zahead S c s) (2 ^ zn S)
theorem zrk_lt {S : rs_S} {a b : Nat} (ha : a < 2 ^ zn S) (h : zahead S a b) : zrk S a < zrk S b := cntp_lt (fun c _ hc => zahead_tr hc h) ha h zahead_ir
theorem zrk_top {S : rs_S} {s : Nat} (hs : s < 2 ^ zn S) : zrk S s < 2 ^ zn S := by
  have h1 : zrk S s < cntp (fun _ => True) (2 ^ zn S) := cntp_lt (fun _ _ _ => trivial) hs trivial zahead_ir
  have h2 := cntp_le (p := fun _ => True) (2 ^ zn S)
  omega
theorem imf_ge {S : rs_S} : ∀ (f s k : Nat), s < 2 ^ zn S → zrk S s < f → ∀ f', f ≤ f' → imf S f' s k = imf S f s k
  | 0, s, k, _, h, _, _ => by omega
  | f + 1, s, k, hs, h, f', hf => by
    match f', hf with
    | f' + 1, hf =>
      unfold imf
      by_cases e : fnr S s = s
      · rw [if_pos e, if_pos e]
      · rw [if_neg e, if_neg e]
        obtain ⟨h1, h2⟩ := fnr_inv hs
        have h3 := zrk_lt h1 (h2.resolve_left e)
        exact imf_ge f (fnr S s) (k + 1) h1 (by omega) f' (by omega)
noncomputable def a_improve (S : rs_S) (x w : Int32) : Int32 :=
  if isI (2 ^ zn S) x = true then
    (if 0 ≤ w.toInt ∧ w.toInt ≤ 1 then
      (if zfit S (zg S) (zc S) x.toNatClampNeg = true then
        (if w = 0 then nI (imf S 4096 x.toNatClampNeg 0).1 else nI (imf S 4096 x.toNatClampNeg 0).2)
       else (-5))
     else (-2))
  else (-1)

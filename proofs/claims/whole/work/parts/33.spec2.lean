/-! ANSWERS, 1: best choices -/
def bbe (V : Nat → Int) (W : Nat → Nat) (m : Nat) : Option Nat → Prop
  | none => True
  | some b => V b < V m ∨ (V m = V b ∧ W m < W b)
/-- the best one below m of those that are ok -/
noncomputable def bst (ok : Nat → Bool) (V : Nat → Int) (W : Nat → Nat) : Nat → Option Nat
  | 0 => none
  | m + 1 => if pB (ok m = true ∧ bbe V W m (bst ok V W m)) = true then some m else bst ok V W m
theorem bst_lt {ok : Nat → Bool} {V : Nat → Int} {W : Nat → Nat} {m b : Nat} (h : bst ok V W m = some b) : b < m ∧ ok b = true := by
  induction m with
  | zero => cases h
  | succ m ih =>
    unfold bst at h
    split at h
    · next q =>
      cases h
      exact ⟨by omega, (pB_t.mp q).1⟩
    · obtain ⟨h1, h2⟩ := ih h
      exact ⟨by omega, h2⟩
theorem bst_yes {ok : Nat → Bool} {V : Nat → Int} {W : Nat → Nat} {m : Nat} (h : ok m = true ∧ bbe V W m (bst ok V W m)) : bst ok V W (m + 1) = some m := if_pos (pB_t.mpr h)
theorem bst_no {ok : Nat → Bool} {V : Nat → Int} {W : Nat → Nat} {m : Nat} (h : ¬ (ok m = true ∧ bbe V W m (bst ok V W m))) : bst ok V W (m + 1) = bst ok V W m := if_neg (fun q => h (pB_t.mp q))
theorem bst_some {ok : Nat → Bool} {V : Nat → Int} {W : Nat → Nat} (h0 : ok 0 = true) : ∀ m, 0 < m → ∃ b, bst ok V W m = some b
  | 0, h => by omega
  | 1, _ => ⟨0, bst_yes ⟨h0, trivial⟩⟩
  | m + 2, _ => by
    obtain ⟨b, hb⟩ := bst_some (V := V) (W := W) h0 (m + 1) (by omega)
    by_cases q : ok (m + 1) = true ∧ bbe V W (m + 1) (bst ok V W (m + 1))
    · exact ⟨_, bst_yes q⟩
    · exact ⟨b, (bst_no q).trans hb⟩
/-- allowed, and within a capacity -/
noncomputable def zfit (S : rs_S) (g cap : Nat) (c : Nat) : Bool := zalB S c && decide (zheavy S c g ≤ cap)
theorem zfit_t {S : rs_S} {g cap c : Nat} : zfit S g cap c = true ↔ zalB S c = true ∧ zheavy S c g ≤ cap := by
  unfold zfit
  rw [Bool.and_eq_true, decide_eq_true_eq]
noncomputable def zbestO (S : rs_S) (g h cap : Nat) : Nat → Option Nat := bst (zfit S g cap) (fun c => zworth S c h) (fun c => zheavy S c g)
noncomputable def zbest (S : rs_S) (g h cap : Nat) : Nat := (zbestO S g h cap (2 ^ zn S)).getD 0
theorem psum0 (f : Nat → Nat) (m : Nat) : psum f 0 m = 0 := by
  induction m with
  | zero => rfl
  | succ m ih =>
    show psum f 0 m + _ = 0
    rw [ih, Nat.zero_testBit]
    rfl
theorem pck0 (f : Nat → Nat) (s m : Nat) : pck f 0 s m = none := by
  induction m with
  | zero => rfl
  | succ m ih => exact (if_neg (fun q => by rw [Nat.zero_testBit] at q; cases q.1)).trans ih
theorem wst0 (f : Nat → Nat) (m g : Nat) : wst f 0 m g = 0 := by
  induction g with
  | zero => rfl
  | succ g ih =>
    show (match pck f 0 (wst f 0 m g) m with | none => wst f 0 m g | some k => wst f 0 m g ||| 2 ^ k) = 0
    rw [pck0]
    exact ih
theorem zheavy0 (S : rs_S) (g : Nat) : zheavy S 0 g = 0 := by
  unfold zheavy zsum zworst
  rw [wst0, psum0, psum0]
theorem zworth0 (S : rs_S) (h : Nat) : zworth S 0 h = 0 := by
  unfold zworth zsum zworst
  rw [wst0, psum0, psum0]
  rfl
theorem zal0 (S : rs_S) : zalB S 0 = true := pB_t.mpr (fun k _ h => by rw [Nat.zero_testBit] at h; cases h)
theorem zfit0 (S : rs_S) (g cap : Nat) : zfit S g cap 0 = true := zfit_t.mpr ⟨zal0 S, by rw [zheavy0]; exact Nat.zero_le _⟩
theorem zbestO_some (S : rs_S) (g h cap : Nat) {m : Nat} (hm : 0 < m) : ∃ b, b < m ∧ zbestO S g h cap m = some b := by
  obtain ⟨b, hb⟩ := bst_some (V := fun c => zworth S c h) (W := fun c => zheavy S c g) (zfit0 S g cap) m hm
  exact ⟨b, (bst_lt hb).1, hb⟩
theorem zbest_lt (S : rs_S) (g h cap : Nat) : zbest S g h cap < 2 ^ zn S := by
  obtain ⟨b, hb, e⟩ := zbestO_some S g h cap (m := 2 ^ zn S) (Nat.two_pow_pos _)
  unfold zbest
  rw [e]
  exact hb
/-- of those that fit: how many are as good as the best one, what is in all, what is in some; how many there are -/
noncomputable def amb (S : rs_S) (best : Nat) : Nat → Nat × Nat × Nat × Nat
  | 0 => (0, 2 ^ zn S - 1, 0, 0)
  | j + 1 => if zfit S (zg S) (zc S) j = true then (if zworth S j (zh S) = zworth S best (zh S) then ((amb S best j).1 + 1, (amb S best j).2.1 &&& j, (amb S best j).2.2.1 ||| j, (amb S best j).2.2.2 + 1) else ((amb S best j).1, (amb S best j).2.1, (amb S best j).2.2.1, (amb S best j).2.2.2 + 1)) else amb S best j
noncomputable def a_best (S : rs_S) (w : Int32) : Int32 :=
  if 0 ≤ w.toInt ∧ w.toInt ≤ 6 then
    (if w = 0 then nI (zbest S (zg S) (zh S) (zc S)) else
     if w = 1 then iI (zworth S (zbest S (zg S) (zh S) (zc S)) (zh S)) + 100000 else
     if w = 2 then nI (zheavy S (zbest S (zg S) (zh S) (zc S)) (zg S)) else
     if w = 3 then nI (amb S (zbest S (zg S) (zh S) (zc S)) (2 ^ zn S)).1 else
     if w = 4 then nI (amb S (zbest S (zg S) (zh S) (zc S)) (2 ^ zn S)).2.1 else
     if w = 5 then nI (2 ^ zn S - 1) &&& (nI (amb S (zbest S (zg S) (zh S) (zc S)) (2 ^ zn S)).2.2.1 ^^^ (-1)) else
     nI (amb S (zbest S (zg S) (zh S) (zc S)) (2 ^ zn S)).2.2.2)
  else (-2)
noncomputable def a_bestWith (S : rs_S) (cap g h : Int32) : Int32 :=
  if (0 ≤ cap.toInt ∧ cap.toInt ≤ 9999) ∧ (0 ≤ g.toInt ∧ g.toInt ≤ 12) ∧ (0 ≤ h.toInt ∧ h.toInt ≤ 12) then
    iI (zworth S (zbest S g.toNatClampNeg h.toNatClampNeg cap.toNatClampNeg) h.toNatClampNeg) + 100000
  else (-2)
/-- the least protected weight of those that are worth p -/
noncomputable def lst (S : rs_S) (p : Int) : Nat → Option Nat
  | 0 => none
  | j + 1 => if pB (zalB S j = true ∧ p ≤ zworth S j (zh S) ∧ zheavy S j (zg S) ≤ 9999 ∧ ∀ l, lst S p j = some l → zheavy S j (zg S) < l) = true then some (zheavy S j (zg S)) else lst S p j
theorem lst_yes {S : rs_S} {p : Int} {j : Nat} (h : zalB S j = true ∧ p ≤ zworth S j (zh S) ∧ zheavy S j (zg S) ≤ 9999 ∧ ∀ l, lst S p j = some l → zheavy S j (zg S) < l) : lst S p (j + 1) = some (zheavy S j (zg S)) := if_pos (pB_t.mpr h)
theorem lst_no {S : rs_S} {p : Int} {j : Nat} (h : ¬ (zalB S j = true ∧ p ≤ zworth S j (zh S) ∧ zheavy S j (zg S) ≤ 9999 ∧ ∀ l, lst S p j = some l → zheavy S j (zg S) < l)) : lst S p (j + 1) = lst S p j := if_neg (fun q => h (pB_t.mp q))
theorem lst_le {S : rs_S} {p : Int} {j l : Nat} (h : lst S p j = some l) : l ≤ 9999 := by
  induction j with
  | zero => cases h
  | succ j ih =>
    unfold lst at h
    split at h
    · next q =>
      cases h
      exact (pB_t.mp q).2.2.1
    · exact ih h
noncomputable def a_least (S : rs_S) (x : Int32) : Int32 := if 0 ≤ x.toInt ∧ x.toInt ≤ 12000 then oM (lst S x.toInt (2 ^ zn S)) else (-2)

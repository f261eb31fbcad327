/-! ANSWERS, 2: numbers about a choice -/
noncomputable def mbd (S : rs_S) (c : Nat) : Nat → Option Nat
  | 0 => none
  | g + 1 => if zheavy S c g ≤ zc S then some g else mbd S c g
theorem mbd_lt {S : rs_S} {c m g : Nat} (h : mbd S c m = some g) : g < m := by
  induction m with
  | zero => cases h
  | succ m ih =>
    unfold mbd at h
    split at h
    · cases h
      omega
    · have := ih h
      omega
noncomputable def a_choice (S : rs_S) (x w : Int32) : Int32 :=
  if isI (2 ^ zn S) x = true then
    (if w = 0 then nI (zsum S 1 x.toNatClampNeg) else
     if w = 1 then nI (zheavy S x.toNatClampNeg (zg S)) else
     if w = 2 then nI (zsum S 0 x.toNatClampNeg) + 100000 else
     if w = 3 then iI (zworth S x.toNatClampNeg (zh S)) + 100000 else
     if w = 4 then bI (zalB S x.toNatClampNeg) else
     if w = 5 then bI (decide (zheavy S x.toNatClampNeg (zg S) ≤ zc S)) else
     if w = 6 then nI (zworst S 2 x.toNatClampNeg (zg S)) else
     if w = 7 then nI (zworst S 3 x.toNatClampNeg (zh S)) else
     if w = 8 then oM (mbd S x.toNatClampNeg 13) else (-2))
  else (-1)
noncomputable def a_weightIn (S : rs_S) (x y : Int32) : Int32 :=
  if isI (2 ^ zn S) x = true ∧ isI (2 ^ zn S) y = true then
    (if pop y.toNatClampNeg ≤ zg S then nI (zsum S 1 x.toNatClampNeg + zsum S 2 (x.toNatClampNeg &&& y.toNatClampNeg)) else (-5))
  else (-1)
/-- the best one with all of x and none of y -/
noncomputable def zforced (S : rs_S) (x y : Nat) : Nat → Option Nat := bst (fun c => decide (x &&& c = x) && (decide (y &&& c = 0) && zfit S (zg S) (zc S) c)) (fun c => zworth S c (zh S)) (fun c => zheavy S c (zg S))
noncomputable def a_forced (S : rs_S) (x y w : Int32) : Int32 :=
  if isI (2 ^ zn S) x = true ∧ isI (2 ^ zn S) y = true then
    (if 0 ≤ w.toInt ∧ w.toInt ≤ 1 then
      (if x &&& y = 0 then
        (match zforced S x.toNatClampNeg y.toNatClampNeg (2 ^ zn S) with
         | none => (-6)
         | some b => if w = 0 then nI b else iI (zworth S b (zh S)) + 100000)
       else (-5))
     else (-2))
  else (-1)
/-- comes ahead as a best choice -/
def zahead (S : rs_S) (a b : Nat) : Prop := zworth S b (zh S) < zworth S a (zh S) ∨ (zworth S a (zh S) = zworth S b (zh S) ∧ (zheavy S a (zg S) < zheavy S b (zg S) ∨ (zheavy S a (zg S) = zheavy S b (zg S) ∧ a < b)))

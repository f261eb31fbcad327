theorem rp_vi {i : Int32} {n : Nat} (h : ¬ (i < 0 ∨ n ≤ i.toNatClampNeg)) : vp_in i n := h
section RPM
variable {E : rp_E} {Y : rp_Y} {post : Option Int32 → rp_M → Prop} {pc : Nat} {L st : List Value} {M : rp_M}
theorem ok_iinc2 {i : Nat} {n : Int} {x w : Int32} (hd : decode Y.2.1 pc = .ok (.iinc i n, 3)) (hl : L[i]? = some (.int x)) (hw : Int32.ofInt n = w) (hn : i < Y.2.2.1) (hnl : rp_nl L i = true) (kk : rp_G E Y post (pc + 3) (L.set i (.int (x + w))) st M) : rp_G E Y post pc L st M :=
  ok_iinc hd hl (by rw [hw]) hn hnl kk
theorem ok_callV2 {Y' : rp_Y} {idx id n ci : Nat} {refs : List (Option Nat)} {as rest : List Value} {P : Option Int32 → rp_M → Prop} (hd : decode Y.2.1 pc = .ok (.invokevirtual idx, 3)) (hc : rp_cv Y idx Y' n ci) (hrun : rp_Run E Y' (.ref id :: as) M P) (hid : id < 170) (hsh : rp_sh id = (ci + 4, 0, refs)) (hst : st = as.reverse ++ .ref id :: rest) (hn : as.length = n) (hcat : (rest.map fun v => v.category).sum ≤ 8) (kk : ∀ r M', P r M' → rp_G E Y post (pc + 3) L ((r.map Value.int).toList ++ rest) M') : rp_G E Y post pc L st M :=
  ok_callV hd hc hid hsh hst hn hcat hrun kk
theorem ok_callS2 {Y' : rp_Y} {idx n : Nat} {as rest : List Value} {P : Option Int32 → rp_M → Prop} (hd : decode Y.2.1 pc = .ok (.invokestatic idx, 3)) (hc : rp_cs Y idx Y' n) (hrun : rp_Run E Y' as M P) (hst : st = as.reverse ++ rest) (hn : as.length = n) (hcat : (rest.map fun v => v.category).sum ≤ 8) (kk : ∀ r M', P r M' → rp_G E Y post (pc + 3) L ((r.map Value.int).toList ++ rest) M') : rp_G E Y post pc L st M :=
  ok_callS hd hc hst hn hcat hrun kk
theorem ok_callN2 {Y' : rp_Y} {idx n : Nat} {host : String} {as rest : List Value} {P : Option Int32 → rp_M → Prop} (hd : decode Y.2.1 pc = .ok (.invokestatic idx, 3)) (hG : GoodIn Y.2.2.2.2.1 Y'.2.2.2.2.1) (hco : rp_code Y') (hnm : rp_name Y' n) (hrm : rp_room Y Y') (hl : ∀ U, rp_St E U → va_Nw (.methodLinkNest Y.1.cls idx Y'.1 host) U) (hin : Cond.initialized Y'.1.cls ∈ Y.2.2.2.2.1) (hstt : Cond.static Y'.1 ∈ Y.2.2.2.2.1) (hrun : rp_Run E Y' as M P) (hst : st = as.reverse ++ rest) (hn : as.length = n) (hcat : (rest.map fun v => v.category).sum ≤ 8) (kk : ∀ r M', P r M' → rp_G E Y post (pc + 3) L ((r.map Value.int).toList ++ rest) M') : rp_G E Y post pc L st M :=
  ok_callN hd hG hco hnm hrm hl hin hstt hst hn hcat hrun kk
end RPM
/-- an int, and what holds of it and of the memory -/
def rp_P (P : Int32 → rp_M → Prop) : Option Int32 → rp_M → Prop := fun r M => ∃ v, r = some v ∧ P v M
def rp_P0 (P : rp_M → Prop) : Option Int32 → rp_M → Prop := fun r M => r = none ∧ P M

/-- an if for any proposition -/
noncomputable def pif {α : Type} (P : Prop) (a b : α) : α := @ite α P (Classical.propDecidable P) a b
theorem pif_pos {α : Type} {P : Prop} {a b : α} (h : P) : pif P a b = a := @if_pos P (Classical.propDecidable P) h α a b
theorem pif_neg {α : Type} {P : Prop} {a b : α} (h : ¬ P) : pif P a b = b := @if_neg P (Classical.propDecidable P) h α a b
/-- a rec's MAKE: a digit apart, less than its own, told; no digit behind it -/
def cRec (f : Nat → Int32) (n : Nat) (tl : Nat → Int32) (m : Int32) (j : Nat) (x : Int32) : Prop := (isD (tat f n (tsk f n j)) ∧ x ≠ nI (tsk f n j)) ∧ (¬ m ≤ tat f n (tsk f n j) - 48 ∧ ¬ tl (tat f n (tsk f n j) - 48).toNatClampNeg = 0) ∧ ¬ isD (tat f n (tsk f n j + 1))
noncomputable def kRec (f : Nat → Int32) (n : Nat) (tl : Nat → Int32) (m k : Int32) (j : Nat) (x : Int32) : Option (Nat × Int32 × Int32) := pif (k = 6) (pif (cRec f n tl m j x) (some (tsk f n j + 1, nI (tsk f n j + 1), tat f n (tsk f n j) - 48)) none) (some (j, x, -1))
/-- a GROUP behind the word 'in', which begins at q -/
def cIn (f : Nat → Int32) (n q : Nat) (x : Int32) : Prop := x ≠ nI q ∧ (isD (tat f n (tsk f n (twe f n q))) ∧ nI (twe f n q) ≠ nI (tsk f n (twe f n q))) ∧ (¬ tat f n (tsk f n (twe f n q)) - 48 < 1 ∧ tat f n (tsk f n (twe f n q)) - 48 ≤ 3) ∧ ¬ isD (tat f n (tsk f n (twe f n q) + 1))
noncomputable def kIn (f : Nat → Int32) (n : Nat) (iw : Int64) (j : Nat) (x : Int32) : Option (Nat × Int32 × Int32) := pif (twd f n (tsk f n j) = iw) (pif (cIn f n (tsk f n j) x) (some (tsk f n (twe f n (tsk f n j)) + 1, nI (tsk f n (twe f n (tsk f n j)) + 1), tat f n (tsk f n (twe f n (tsk f n j))) - 48)) none) (some (tsk f n j, x, 0))
/-- a DEFAULT that is a number, from j on -/
def cVal (f : Nat → Int32) (n : Nat) (k : Int32) (j : Nat) : Prop := tde f n (tfd f n (tsk f n j)) ≠ tfd f n (tsk f n j) ∧ tde f n (tfd f n (tsk f n j)) - tfd f n (tsk f n j) ≤ 19 ∧ tvo (tvs f (tfd f n (tsk f n j)) (tde f n (tfd f n (tsk f n j)) - tfd f n (tsk f n j))) (tsg f n (tsk f n j)) k
/-- a DEFAULT that is a text, from j on -/
def cTxt (f : Nat → Int32) (n : Nat) (j : Nat) : Prop := tat f n (tsk f n j) = 34 ∧ tqe f n (tsk f n j + 1) < n ∧ tqe f n (tsk f n j + 1) - (tsk f n j + 1) ≤ 12 ∧ ∀ x : Nat, (tsk f n j + 1) ≤ x → x < tqe f n (tsk f n j + 1) → isT (f x)
noncomputable def kDef (f : Nat → Int32) (n : Nat) (k : Int32) (j : Nat) : Option (Nat × Int64) := pif (tat f n (tsk f n j) = 61 ∧ k ≠ 6) (pif (k = 5) (pif (cTxt f n (tsk f n j + 1)) (some (tqe f n (tsk f n (tsk f n j + 1) + 1) + 1, (nI (tqe f n (tsk f n (tsk f n j + 1) + 1) - (tsk f n (tsk f n j + 1) + 1))).toInt64)) none) (pif (cVal f n k (tsk f n j + 1)) (some (tde f n (tfd f n (tsk f n (tsk f n j + 1))), tvv (tvs f (tfd f n (tsk f n (tsk f n j + 1))) (tde f n (tfd f n (tsk f n (tsk f n j + 1))) - tfd f n (tsk f n (tsk f n j + 1)))) (tsg f n (tsk f n (tsk f n j + 1))))) none)) (some (tsk f n j, 0))
/-- all that stands behind a KIND -/
noncomputable def kAll (f : Nat → Int32) (n : Nat) (tl : Nat → Int32) (iw : Int64) (m k : Int32) (j : Nat) (x : Int32) : Option (Nat × Int32 × Int32 × Int64) := (kRec f n tl m k j x).bind fun a => (kIn f n iw a.1 a.2.1).bind fun b => (kDef f n k b.1).bind fun d => pif (tat f n (tsk f n d.1) = 59) (some (tsk f n d.1 + 1, a.2.2, b.2.2, d.2)) none
theorem tfd_ge (f : Nat → Int32) (n q : Nat) : q ≤ tfd f n q := by unfold tfd; split <;> omega
theorem dig8 {x m : Int32} (hD : isD x) (h : ¬ m ≤ x - 48) (hm : vp_in m 8) : vp_in (x - 48) 8 := by
  obtain ⟨k, hk, rfl⟩ := vp_in_of hm (by decide)
  have h0 : ¬ x < 0 := fun c => hD.1 (Int32.lt_trans c (by decide))
  obtain ⟨j, hj, rfl⟩ := nI_of h0
  have h48 : 48 ≤ j := by
    rcases Nat.lt_or_ge j 48 with c | c
    · exact absurd (nI_lt (b := 48) c (by decide)) hD.1
    · exact c
  have e : nI j - 48 = nI (j - 48) := pk_sub (b := 48) h48
  rw [e] at h ⊢
  exact vp_in_nI (Nat.lt_trans (nI_ltN (by omega) (by omega) h) hk) (by decide)
theorem tfd_le {f : Nat → Int32} {n q : Nat} (h : q ≤ n) : tfd f n q ≤ n := by
  by_cases c : tat f n q = 45
  · have e : tfd f n q = q + 1 := if_pos c
    have := tat_in c (by decide)
    omega
  · have e : tfd f n q = q := if_neg c
    omega

/-- what a VARINT's first bytes have gathered -/
def vacc (fo : Nat → Int32) (p : Nat) : Nat → Int64
  | 0 => 0
  | k + 1 => vacc fo p k ||| (((fo (p + k)).toInt64 &&& 127) <<< ((7 * nI k).toInt64 &&& 63))
/-- a VARINT that begins at p ends with its byte k -/
def vOK (fo : Nat → Int32) (p e k : Nat) : Prop := k < 10 ∧ p + k < e ∧ (∀ i : Nat, i < k → ¬ (fo (p + i)).toInt64 < 128) ∧ (fo (p + k)).toInt64 < 128 ∧ (k = 9 → ¬ 1 < (fo (p + 9)).toInt64)
theorem vOK_one {fo : Nat → Int32} {p e k k' : Nat} (h : vOK fo p e k) (h' : vOK fo p e k') : k = k' := by
  rcases Nat.lt_trichotomy k k' with c | c | c
  · exact absurd h.2.2.2.1 (h'.2.2.1 k c)
  · exact c
  · exact absurd h'.2.2.2.1 (h.2.2.1 k' c)

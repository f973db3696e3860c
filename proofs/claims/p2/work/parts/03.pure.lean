/-! texts: places, blanks, letters, digits -/
def tskF (f : Nat → Int32) (n : Nat) : Nat → Nat → Nat
  | 0, j => j
  | d + 1, j => if j < n ∧ (f j = 10 ∨ f j = 32) then tskF f n d (j + 1) else j
/-- the first place from j on that holds no blank -/
def tsk (f : Nat → Int32) (n j : Nat) : Nat := tskF f n (n - j) j
theorem tsk_go {f : Nat → Int32} {n j : Nat} (h : j < n) (hb : f j = 10 ∨ f j = 32) : tsk f n j = tsk f n (j + 1) := by
  have e : n - j = (n - (j + 1)) + 1 := by omega
  unfold tsk
  rw [e]
  simp [tskF, h, hb]
theorem tsk_no {f : Nat → Int32} {n j : Nat} (h : ¬ (j < n ∧ (f j = 10 ∨ f j = 32))) : tsk f n j = j := by
  unfold tsk
  cases n - j with
  | zero => rfl
  | succ d => simp [tskF, h]
theorem tsk_in {f : Nat → Int32} {n : Nat} : ∀ (d j : Nat), n - j = d → j ≤ tsk f n j ∧ (j ≤ n → tsk f n j ≤ n) := by
  intro d
  induction d with
  | zero =>
    intro j hd
    have e : tsk f n j = j := by unfold tsk; rw [hd]; rfl
    rw [e]
    exact ⟨Nat.le_refl _, id⟩
  | succ d ih =>
    intro j hd
    by_cases h : j < n ∧ (f j = 10 ∨ f j = 32)
    · rw [tsk_go h.1 h.2]
      obtain ⟨a, b⟩ := ih (j + 1) (by omega)
      exact ⟨by omega, fun _ => b (by omega)⟩
    · rw [tsk_no h]
      exact ⟨Nat.le_refl _, id⟩
theorem tsk_ge (f : Nat → Int32) (n j : Nat) : j ≤ tsk f n j := (tsk_in _ j rfl).1
theorem tsk_le {f : Nat → Int32} {n j : Nat} (h : j ≤ n) : tsk f n j ≤ n := (tsk_in _ j rfl).2 h
def isL (x : Int32) : Prop := ¬ x < 97 ∧ ¬ 122 < x
def isD (x : Int32) : Prop := ¬ x < 48 ∧ ¬ 57 < x
def tweF (f : Nat → Int32) (n : Nat) : Nat → Nat → Nat
  | 0, j => j
  | d + 1, j => if j < n ∧ (¬ f j < 97 ∧ ¬ 122 < f j) then tweF f n d (j + 1) else j
/-- the first place from j on that holds no letter -/
def twe (f : Nat → Int32) (n j : Nat) : Nat := tweF f n (n - j) j
theorem twe_go {f : Nat → Int32} {n j : Nat} (h : j < n) (hb : isL (f j)) : twe f n j = twe f n (j + 1) := by
  have e : n - j = (n - (j + 1)) + 1 := by omega
  unfold twe
  rw [e]
  simp [tweF, h, hb.1, hb.2]
theorem twe_no {f : Nat → Int32} {n j : Nat} (h : ¬ (j < n ∧ isL (f j))) : twe f n j = j := by
  unfold twe
  cases n - j with
  | zero => rfl
  | succ d =>
    have h2 : ¬ (j < n ∧ (¬ f j < 97 ∧ ¬ 122 < f j)) := h
    simp only [tweF]
    rw [if_neg h2]
theorem twe_in {f : Nat → Int32} {n : Nat} : ∀ (d j : Nat), n - j = d → j ≤ twe f n j ∧ (j ≤ n → twe f n j ≤ n) := by
  intro d
  induction d with
  | zero =>
    intro j hd
    have e : twe f n j = j := by unfold twe; rw [hd]; rfl
    rw [e]
    exact ⟨Nat.le_refl _, id⟩
  | succ d ih =>
    intro j hd
    by_cases h : j < n ∧ isL (f j)
    · rw [twe_go h.1 h.2]
      obtain ⟨a, b⟩ := ih (j + 1) (by omega)
      exact ⟨by omega, fun _ => b (by omega)⟩
    · rw [twe_no h]
      exact ⟨Nat.le_refl _, id⟩
theorem twe_ge (f : Nat → Int32) (n j : Nat) : j ≤ twe f n j := (twe_in _ j rfl).1
theorem twe_le {f : Nat → Int32} {n j : Nat} (h : j ≤ n) : twe f n j ≤ n := (twe_in _ j rfl).2 h
theorem nI_ltN {a b : Nat} (ha : a < 2 ^ 31) (hb : b < 2 ^ 31) (h : ¬ nI b ≤ nI a) : a < b := Nat.lt_of_not_le (fun q => h ((nI_leI hb ha).mpr q))
theorem nI_leN {a b : Nat} (ha : a < 2 ^ 31) (hb : b < 2 ^ 31) (h : nI b ≤ nI a) : b ≤ a := (nI_leI hb ha).mp h
/-- the byte at a place, or -1 behind the end -/
def tat (f : Nat → Int32) (n q : Nat) : Int32 := if q < n then f q else -1
theorem tat_in {f : Nat → Int32} {n q : Nat} {x : Int32} (h : tat f n q = x) (hx : x ≠ -1) : q < n := by
  unfold tat at h
  by_cases c : q < n
  · exact c
  · rw [if_neg c] at h
    exact absurd h.symm hx
theorem tat_at {f : Nat → Int32} {n q : Nat} (h : q < n) : tat f n q = f q := if_pos h
theorem tat_no {f : Nat → Int32} {n q : Nat} (h : ¬ q < n) : tat f n q = -1 := if_neg h
theorem isD_in {f : Nat → Int32} {n q : Nat} (h : isD (tat f n q)) : q < n := by
  by_cases c : q < n
  · exact c
  · rw [tat_no c] at h
    exact absurd h (by unfold isD; decide)

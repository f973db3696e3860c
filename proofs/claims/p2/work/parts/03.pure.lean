/-! texts: places, blanks, letters, digits -/
def tskF (f : Nat → Int32) (n : Nat) : Nat → Nat → Nat
  | 0, j => j
  | d + 1, j => if j < n ∧ (f j = 10 ∨ f j = 32) then tskF f n d (j + 1) else j
/-- the first place from j on that holds no blank -/
def tsk (f : Nat → Int32) (n j : Nat) : Nat := tskF f n (n - j) j
theorem tsk_go {f : Nat → Int32} {n j : Nat} (h : j < n) (hb : f j = 10 ∨ f j = 32) : tsk f n j = tsk f n (j + 1) := by
  have e : n - j = (n - (j + 1)) + 1 := by omega
  unfold tsk
  rw [e]
  simp [tskF, h, hb]
theorem tsk_no {f : Nat → Int32} {n j : Nat} (h : ¬ (j < n ∧ (f j = 10 ∨ f j = 32))) : tsk f n j = j := by
  unfold tsk
  cases n - j with
  | zero => rfl
  | succ d => simp [tskF, h]
theorem tsk_in {f : Nat → Int32} {n : Nat} : ∀ (d j : Nat), n - j = d → j ≤ tsk f n j ∧ (j ≤ n → tsk f n j ≤ n) := by
  intro d
  induction d with
  | zero =>
    intro j hd
    have e : tsk f n j = j := by unfold tsk; rw [hd]; rfl
    rw [e]
    exact ⟨Nat.le_refl _, id⟩
  | succ d ih =>
    intro j hd
    by_cases h : j < n ∧ (f j = 10 ∨ f j = 32)
    · rw [tsk_go h.1 h.2]
      obtain ⟨a, b⟩ := ih (j + 1) (by omega)
      exact ⟨by omega, fun _ => b (by omega)⟩
    · rw [tsk_no h]
      exact ⟨Nat.le_refl _, id⟩
theorem tsk_ge (f : Nat → Int32) (n j : Nat) : j ≤ tsk f n j := (tsk_in _ j rfl).1
theorem tsk_le {f : Nat → Int32} {n j : Nat} (h : j ≤ n) : tsk f n j ≤ n := (tsk_in _ j rfl).2 h
def isL (x : Int32) : Prop := ¬ x < 97 ∧ ¬ 122 < x
def isD (x : Int32) : Prop := ¬ x < 48 ∧ ¬ 57 < x
def tweF (f : Nat → Int32) (n : Nat) : Nat → Nat → Nat
  | 0, j => j
  | d + 1, j => if j < n ∧ (¬ f j < 97 ∧ ¬ 122 < f j) then tweF f n d (j + 1) else j
/-- the first place from j on that holds no letter -/
def twe (f : Nat → Int32) (n j : Nat) : Nat := tweF f n (n - j) j
theorem twe_go {f : Nat → Int32} {n j : Nat} (h : j < n) (hb : isL (f j)) : twe f n j = twe f n (j + 1) := by
  have e : n - j = (n - (j + 1)) + 1 := by omega
  unfold twe
  rw [e]
  simp [tweF, h, hb.1, hb.2]
theorem twe_no {f : Nat → Int32} {n j : Nat} (h : ¬ (j < n ∧ isL (f j))) : twe f n j = j := by
  unfold twe
  cases n - j with
  | zero => rfl
  | succ d =>
    have h2 : ¬ (j < n ∧ (¬ f j < 97 ∧ ¬ 122 < f j)) := h
    simp only [tweF]
    rw [if_neg h2]
theorem twe_in {f : Nat → Int32} {n : Nat} : ∀ (d j : Nat), n - j = d → j ≤ twe f n j ∧ (j ≤ n → twe f n j ≤ n) := by
  intro d
  induction d with
  | zero =>
    intro j hd
    have e : twe f n j = j := by unfold twe; rw [hd]; rfl
    rw [e]
    exact ⟨Nat.le_refl _, id⟩
  | succ d ih =>
    intro j hd
    by_cases h : j < n ∧ isL (f j)
    · rw [twe_go h.1 h.2]
      obtain ⟨a, b⟩ := ih (j + 1) (by omega)
      exact ⟨by omega, fun _ => b (by omega)⟩
    · rw [twe_no h]
      exact ⟨Nat.le_refl _, id⟩
theorem twe_ge (f : Nat → Int32) (n j : Nat) : j ≤ twe f n j := (twe_in _ j rfl).1
theorem twe_le {f : Nat → Int32} {n j : Nat} (h : j ≤ n) : twe f n j ≤ n := (twe_in _ j rfl).2 h
theorem nI_ltN {a b : Nat} (ha : a < 2 ^ 31) (hb : b < 2 ^ 31) (h : ¬ nI b ≤ nI a) : a < b := Nat.lt_of_not_le (fun q => h ((nI_leI hb ha).mpr q))
theorem nI_leN {a b : Nat} (ha : a < 2 ^ 31) (hb : b < 2 ^ 31) (h : nI b ≤ nI a) : b ≤ a := (nI_leI hb ha).mp h
/-- the byte at a place, or -1 behind the end -/
def tat (f : Nat → Int32) (n q : Nat) : Int32 := if q < n then f q else -1
theorem tat_in {f : Nat → Int32} {n q : Nat} {x : Int32} (h : tat f n q = x) (hx : x ≠ -1) : q < n := by
  unfold tat at h
  by_cases c : q < n
  · exact c
  · rw [if_neg c] at h
    exact absurd h.symm hx
theorem tat_at {f : Nat → Int32} {n q : Nat} (h : q < n) : tat f n q = f q := if_pos h
theorem tat_no {f : Nat → Int32} {n q : Nat} (h : ¬ q < n) : tat f n q = -1 := if_neg h
theorem isD_in {f : Nat → Int32} {n q : Nat} (h : isD (tat f n q)) : q < n := by
  by_cases c : q < n
  · exact c
  · rw [tat_no c] at h
    exact absurd h (by unfold isD; decide)
/-- a word packed, letter by letter -/
def tpk (f : Nat → Int32) (q : Nat) : Nat → Int64
  | 0 => 0
  | k + 1 => 27 * tpk f q k + (f (q + k)).toInt64 - 97 + 1
theorem tpk_step {f : Nat → Int32} {q i : Nat} (h : q ≤ i) : 27 * tpk f q (i - q) + (f i).toInt64 - 97 + 1 = tpk f q (i + 1 - q) := by
  obtain ⟨d, rfl⟩ : ∃ d, i = q + d := ⟨i - q, by omega⟩
  have e1 : q + d - q = d := by omega
  have e2 : q + d + 1 - q = d + 1 := by omega
  rw [e1, e2]
  rfl
/-- word(): the letters from q on, packed; -1 for more than eight -/
def twd (f : Nat → Int32) (n q : Nat) : Int64 := if twe f n q - q ≤ 8 then tpk f q (twe f n q - q) else -1
/-- the KIND that a packed word names -/
def kOf (w c1 c2 c3 c4 c5 c6 : Int64) : Int32 := if w = c1 then 1 else if w = c2 then 2 else if w = c3 then 3 else if w = c4 then 4 else if w = c5 then 5 else if w = c6 then 6 else -1
/-- the numbers of a KIND -/
def vOf (v : Int64) (k : Int32) : Prop := if k = 1 then v = 0 ∨ v = 1 else if k = 2 then (¬ v < -128 ∧ ¬ 127 < v) else (k = 4 ∨ (¬ v < -2147483648 ∧ ¬ 2147483647 < v))
def tdeF (f : Nat → Int32) (n : Nat) : Nat → Nat → Nat
  | 0, j => j
  | d + 1, j => if j < n ∧ (¬ f j < 48 ∧ ¬ 57 < f j) then tdeF f n d (j + 1) else j
/-- the first place from j on that holds no digit -/
def tde (f : Nat → Int32) (n j : Nat) : Nat := tdeF f n (n - j) j
theorem tde_go {f : Nat → Int32} {n j : Nat} (h : j < n) (hb : isD (f j)) : tde f n j = tde f n (j + 1) := by
  have e : n - j = (n - (j + 1)) + 1 := by omega
  unfold tde
  rw [e]
  simp [tdeF, h, hb.1, hb.2]
theorem tde_no {f : Nat → Int32} {n j : Nat} (h : ¬ (j < n ∧ isD (f j))) : tde f n j = j := by
  unfold tde
  cases n - j with
  | zero => rfl
  | succ d =>
    have h2 : ¬ (j < n ∧ (¬ f j < 48 ∧ ¬ 57 < f j)) := h
    simp only [tdeF]
    rw [if_neg h2]
theorem tde_in {f : Nat → Int32} {n : Nat} : ∀ (d j : Nat), n - j = d → j ≤ tde f n j ∧ (j ≤ n → tde f n j ≤ n) := by
  intro d
  induction d with
  | zero =>
    intro j hd
    have e : tde f n j = j := by unfold tde; rw [hd]; rfl
    rw [e]
    exact ⟨Nat.le_refl _, id⟩
  | succ d ih =>
    intro j hd
    by_cases h : j < n ∧ isD (f j)
    · rw [tde_go h.1 h.2]
      obtain ⟨a, b⟩ := ih (j + 1) (by omega)
      exact ⟨by omega, fun _ => b (by omega)⟩
    · rw [tde_no h]
      exact ⟨Nat.le_refl _, id⟩
theorem tde_ge (f : Nat → Int32) (n j : Nat) : j ≤ tde f n j := (tde_in _ j rfl).1
theorem tde_le {f : Nat → Int32} {n j : Nat} (h : j ≤ n) : tde f n j ≤ n := (tde_in _ j rfl).2 h
/-- digits as an int -/
def tnu (f : Nat → Int32) (q : Nat) : Nat → Int32
  | 0 => 0
  | k + 1 => 10 * tnu f q k + f (q + k) - 48
theorem tnu_step {f : Nat → Int32} {q i : Nat} (h : q ≤ i) : 10 * tnu f q (i - q) + f i - 48 = tnu f q (i + 1 - q) := by
  obtain ⟨d, rfl⟩ : ∃ d, i = q + d := ⟨i - q, by omega⟩
  have e1 : q + d - q = d := by omega
  have e2 : q + d + 1 - q = d + 1 := by omega
  rw [e1, e2]
  rfl
/-- one digit more of a value that is gathered below 0: the value, and whether it went beyond -/
def stp (s : Int64 × Int32) (x : Int32) : Int64 × Int32 := if s.2 ≠ 0 ∨ s.1 < -922337203685477580 ∨ (s.1 = -922337203685477580 ∧ 8 < x - 48) then (s.1, 1) else (10 * s.1 - (x - 48).toInt64, 0)
def tvs (f : Nat → Int32) (p : Nat) : Nat → Int64 × Int32
  | 0 => (0, 0)
  | k + 1 => stp (tvs f p k) (f (p + k))
theorem tvs_step {f : Nat → Int32} {p i : Nat} (h : p ≤ i) : tvs f p (i + 1 - p) = stp (tvs f p (i - p)) (f i) := by
  obtain ⟨d, rfl⟩ : ∃ d, i = p + d := ⟨i - p, by omega⟩
  have e1 : p + d - p = d := by omega
  have e2 : p + d + 1 - p = d + 1 := by omega
  rw [e1, e2]
  rfl
/-- the value of digits, with its sign -/
def tvv (s : Int64 × Int32) (mi : Int32) : Int64 := if mi = 0 then 0 - s.1 else s.1
/-- whether it is a number of its KIND -/
def tvo (s : Int64 × Int32) (mi k : Int32) : Prop := s.2 = 0 ∧ ¬ (mi = 0 ∧ s.1 = -9223372036854775808) ∧ vOf (tvv s mi) k
/-- where the digits of a value begin, and whether there is a sign -/
def tsg (f : Nat → Int32) (n q : Nat) : Int32 := if tat f n q = 45 then 1 else 0
def tfd (f : Nat → Int32) (n q : Nat) : Nat := if tat f n q = 45 then q + 1 else q
def tqeF (f : Nat → Int32) (n : Nat) : Nat → Nat → Nat
  | 0, j => j
  | d + 1, j => if j < n ∧ ¬ f j = 34 then tqeF f n d (j + 1) else j
/-- the first place from j on that holds a quote, or the end -/
def tqe (f : Nat → Int32) (n j : Nat) : Nat := tqeF f n (n - j) j
theorem tqe_go {f : Nat → Int32} {n j : Nat} (h : j < n) (hb : ¬ f j = 34) : tqe f n j = tqe f n (j + 1) := by
  have e : n - j = (n - (j + 1)) + 1 := by omega
  unfold tqe
  rw [e]
  simp [tqeF, h, hb]
theorem tqe_no {f : Nat → Int32} {n j : Nat} (h : ¬ (j < n ∧ ¬ f j = 34)) : tqe f n j = j := by
  unfold tqe
  cases n - j with
  | zero => rfl
  | succ d =>
    simp only [tqeF]
    rw [if_neg h]
theorem tqe_in {f : Nat → Int32} {n : Nat} : ∀ (d j : Nat), n - j = d → j ≤ tqe f n j ∧ (j ≤ n → tqe f n j ≤ n) := by
  intro d
  induction d with
  | zero =>
    intro j hd
    have e : tqe f n j = j := by unfold tqe; rw [hd]; rfl
    rw [e]
    exact ⟨Nat.le_refl _, id⟩
  | succ d ih =>
    intro j hd
    by_cases h : j < n ∧ ¬ f j = 34
    · rw [tqe_go h.1 h.2]
      obtain ⟨a, b⟩ := ih (j + 1) (by omega)
      exact ⟨by omega, fun _ => b (by omega)⟩
    · rw [tqe_no h]
      exact ⟨Nat.le_refl _, id⟩
theorem tqe_ge (f : Nat → Int32) (n j : Nat) : j ≤ tqe f n j := (tqe_in _ j rfl).1
theorem tqe_le {f : Nat → Int32} {n j : Nat} (h : j ≤ n) : tqe f n j ≤ n := (tqe_in _ j rfl).2 h
def isT (x : Int32) : Prop := ¬ x < 32 ∧ x ≤ 126
theorem in_pt {F k : Nat} (hF : F < 248) (hk : k < 12) : vp_in (12 * nI F + nI k) 2976 := by
  show vp_in (nI 12 * nI F + nI k) 2976
  rw [pk_mul, nI_add]
  exact vp_in_nI (by omega) (by decide)
theorem cl_pt {F k : Nat} (hF : F < 248) (hk : k < 12) : (12 * nI F + nI k).toNatClampNeg = 12 * F + k := by
  show (nI 12 * nI F + nI k).toNatClampNeg = 12 * F + k
  rw [pk_mul, nI_add]
  exact nI_clamp (by omega)
theorem upd_pt {fX f : Nat → Int32} {F p i k : Nat} (h1 : p ≤ i) (h : k < i + 1 - p) (hx : ∀ k : Nat, k < i - p → fX (12 * F + k) = f (p + k)) : upd fX (12 * F + (i - p)) (f i) (12 * F + k) = f (p + k) := by
  by_cases hk : k = i - p
  · subst hk
    rw [pk_us, show p + (i - p) = i by omega]
  · rw [pk_un (by omega)]
    exact hx k (by omega)

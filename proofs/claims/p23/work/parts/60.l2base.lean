/-- it answers, and so -/
def Ok {α : Type} (x : Option α) (P : α → Prop) : Prop := ∃ r, x = some r ∧ P r
theorem Ok_pif {α : Type} {c : Prop} {a b : Option α} {P : α → Prop} : Ok (pif c a b) P ↔ (c → Ok a P) ∧ (¬ c → Ok b P) := by
  by_cases h : c
  · rw [pif_pos h]
    exact ⟨fun q => ⟨fun _ => q, fun n => absurd h n⟩, fun q => q.1 h⟩
  · rw [pif_neg h]
    exact ⟨fun q => ⟨fun n => absurd n h, fun _ => q⟩, fun q => q.2 h⟩
theorem Ok_gd {α : Type} {c : Prop} {a : Option α} {P : α → Prop} : Ok (gd c a) P ↔ c ∧ Ok a P := by
  constructor
  · rintro ⟨r, h, hP⟩
    obtain ⟨h1, h2⟩ := gd_some h
    exact ⟨h1, r, h2, hP⟩
  · rintro ⟨h1, h2⟩
    rw [gd_pos h1]
    exact h2
theorem Ok_nam {α β : Type} {x : α} {k : α → Option β} {P : β → Prop} : Ok (nam x k) P ↔ Ok (k x) P := Iff.rfl
theorem Ok_some {α : Type} {r : α} {P : α → Prop} : Ok (some r) P ↔ P r := ⟨fun ⟨q, h, hP⟩ => by cases h; exact hP, fun h => ⟨r, rfl, h⟩⟩
theorem Ok_none {α : Type} {P : α → Prop} : Ok (none : Option α) P ↔ False := ⟨fun ⟨q, h, hP⟩ => (by cases h), fun h => h.elim⟩
theorem Ok_bnd {α β σ : Type} {x : Option (α × σ)} {k : α → σ → Option β} {P : β → Prop} : Ok (bnd x k) P ↔ Ok x (fun q => Ok (k q.1 q.2) P) := by
  cases x with
  | none => exact ⟨fun ⟨r, h, _⟩ => (by cases h), fun ⟨r, h, _⟩ => (by cases h)⟩
  | some q => exact ⟨fun h => ⟨q, rfl, h⟩, fun ⟨r, h, hP⟩ => by cases h; exact hP⟩
theorem Ok_bnv {β σ : Type} {x : Option σ} {k : σ → Option β} {P : β → Prop} : Ok (bnv x k) P ↔ Ok x (fun q => Ok (k q) P) := by
  cases x with
  | none => exact ⟨fun ⟨r, h, _⟩ => (by cases h), fun ⟨r, h, _⟩ => (by cases h)⟩
  | some q => exact ⟨fun h => ⟨q, rfl, h⟩, fun ⟨r, h, hP⟩ => by cases h; exact hP⟩
theorem Ok_ono {β : Type} {o : Option Nat} {k : Nat → Option β} {P : β → Prop} : Ok (ono o k) P ↔ ∃ i, o = some i ∧ Ok (k i) P := by
  cases o with
  | none => exact ⟨fun ⟨r, h, _⟩ => (by cases h), fun ⟨r, h, _⟩ => (by cases h)⟩
  | some q => exact ⟨fun h => ⟨q, rfl, h⟩, fun ⟨r, h, hP⟩ => by cases h; exact hP⟩
theorem Ok.mono {α : Type} {x : Option α} {P Q : α → Prop} (h : Ok x P) (k : ∀ r, P r → Q r) : Ok x Q := by
  obtain ⟨r, e, hP⟩ := h
  exact ⟨r, e, k r hP⟩
theorem Ok.two {α β : Type} {x : Option (α × β)} {P : α × β → Prop} {Q : α × β → Prop} (h : Ok x P) (k : ∀ r t, P (r, t) → Q (r, t)) : Ok x Q := h.mono (fun r hr => k r.1 r.2 hr)
/-- a call -/
theorem Ok.call {α β σ : Type} {x : Option (α × σ)} {k : α → σ → Option β} {Q : α × σ → Prop} {P : β → Prop} (h : Ok x Q) (hk : ∀ r t, Q (r, t) → Ok (k r t) P) : Ok (bnd x k) P := Ok_bnd.mpr (h.mono (fun q hq => hk q.1 q.2 hq))
theorem Ok.callv {β σ : Type} {x : Option σ} {k : σ → Option β} {Q : σ → Prop} {P : β → Prop} (h : Ok x Q) (hk : ∀ t, Q t → Ok (k t) P) : Ok (bnv x k) P := Ok_bnv.mpr (h.mono hk)
/-! ints by their values -/
theorem t_le {a b : Int32} : a ≤ b ↔ a.toInt ≤ b.toInt := Int32.le_iff_toInt_le
theorem t_lt {a b : Int32} : a < b ↔ a.toInt < b.toInt := Int32.lt_iff_toInt_lt
theorem t_eq {a b : Int32} : a = b ↔ a.toInt = b.toInt := Int32.toInt_inj.symm
theorem t_nat (a : Int32) : a.toNatClampNeg = a.toInt.toNat := rfl
theorem t_rng (a : Int32) : -2147483648 ≤ a.toInt ∧ a.toInt < 2147483648 := ⟨Int32.le_toInt a, Int32.toInt_lt a⟩
theorem t_in {i : Int32} {n : Nat} : vp_in i n ↔ 0 ≤ i.toInt ∧ i.toInt < n := by
  unfold vp_in
  rw [t_lt, t_nat]
  have e : (0 : Int32).toInt = 0 := rfl
  rw [e]
  omega
theorem t_bm {n : Int} (h1 : -2147483648 ≤ n) (h2 : n < 2147483648) : n.bmod 4294967296 = n := by
  rw [Int.bmod_def]
  omega
theorem t_add {a b : Int32} (h1 : -2147483648 ≤ a.toInt + b.toInt) (h2 : a.toInt + b.toInt < 2147483648) : (a + b).toInt = a.toInt + b.toInt := by
  rw [Int32.toInt_add]
  exact t_bm h1 h2
theorem t_sub {a b : Int32} (h1 : -2147483648 ≤ a.toInt - b.toInt) (h2 : a.toInt - b.toInt < 2147483648) : (a - b).toInt = a.toInt - b.toInt := by
  rw [Int32.toInt_sub]
  exact t_bm h1 h2
theorem t_mul {a b : Int32} (h1 : -2147483648 ≤ a.toInt * b.toInt) (h2 : a.toInt * b.toInt < 2147483648) : (a * b).toInt = a.toInt * b.toInt := by
  rw [Int32.toInt_mul]
  exact t_bm h1 h2
theorem t_of {n : Int} (h1 : -2147483648 ≤ n) (h2 : n < 2147483648) : (Int32.ofInt n).toInt = n := by
  rw [Int32.toInt_ofInt]
  exact t_bm h1 h2
theorem t_nI {n : Nat} (h : n < 2147483648) : (Int32.ofNat n).toInt = n := by
  exact nI_toInt h
/-! the reference's state -/
theorem gI_sI (st : RS) (k j : Nat) (v : Int32) : gI (sI st k v) j = if j = k then v else gI st j := rfl
theorem gI_sJ (st : RS) (k j : Nat) (v : Int64) : gI (sJ st k v) j = gI st j := rfl
theorem gI_sF (st : RS) (k j : Nat) (v : Nat → Int32) : gI (sF st k v) j = gI st j := rfl
theorem gI_sL (st : RS) (k j : Nat) (v : Nat → Int64) : gI (sL st k v) j = gI st j := rfl
theorem gJ_sI (st : RS) (k j : Nat) (v : Int32) : gJ (sI st k v) j = gJ st j := rfl
theorem gJ_sJ (st : RS) (k j : Nat) (v : Int64) : gJ (sJ st k v) j = if j = k then v else gJ st j := rfl
theorem gJ_sF (st : RS) (k j : Nat) (v : Nat → Int32) : gJ (sF st k v) j = gJ st j := rfl
theorem gJ_sL (st : RS) (k j : Nat) (v : Nat → Int64) : gJ (sL st k v) j = gJ st j := rfl
theorem gF_sI (st : RS) (k j : Nat) (v : Int32) : gF (sI st k v) j = gF st j := rfl
theorem gF_sJ (st : RS) (k j : Nat) (v : Int64) : gF (sJ st k v) j = gF st j := rfl
theorem gF_sF (st : RS) (k j : Nat) (v : Nat → Int32) : gF (sF st k v) j = if j = k then v else gF st j := rfl
theorem gF_sL (st : RS) (k j : Nat) (v : Nat → Int64) : gF (sL st k v) j = gF st j := rfl
theorem gL_sI (st : RS) (k j : Nat) (v : Int32) : gL (sI st k v) j = gL st j := rfl
theorem gL_sJ (st : RS) (k j : Nat) (v : Int64) : gL (sJ st k v) j = gL st j := rfl
theorem gL_sF (st : RS) (k j : Nat) (v : Nat → Int32) : gL (sF st k v) j = gL st j := rfl
theorem gL_sL (st : RS) (k j : Nat) (v : Nat → Int64) : gL (sL st k v) j = if j = k then v else gL st j := rfl
theorem upd_at (f : Nat → Int32) (k : Nat) (x : Int32) (j : Nat) : upd f k x j = if j = k then x else f j := rfl
/-- which fields may differ: ints and longs of the first list, rows of the second -/
def Fr (I F : List Nat) (a b : RS) : Prop := (∀ k, k ∉ I → gI b k = gI a k ∧ gJ b k = gJ a k) ∧ ∀ k, k ∉ F → gF b k = gF a k ∧ gL b k = gL a k
theorem Fr.rf {I F : List Nat} {a : RS} : Fr I F a a := ⟨fun _ _ => ⟨rfl, rfl⟩, fun _ _ => ⟨rfl, rfl⟩⟩
theorem Fr.tr {I F : List Nat} {a b c : RS} (h1 : Fr I F a b) (h2 : Fr I F b c) : Fr I F a c := ⟨fun k hk => ⟨(h2.1 k hk).1.trans (h1.1 k hk).1, (h2.1 k hk).2.trans (h1.1 k hk).2⟩, fun k hk => ⟨(h2.2 k hk).1.trans (h1.2 k hk).1, (h2.2 k hk).2.trans (h1.2 k hk).2⟩⟩
theorem Fr.wk {I F I' F' : List Nat} {a b : RS} (h : Fr I F a b) (hI : ∀ k, k ∈ I → k ∈ I') (hF : ∀ k, k ∈ F → k ∈ F') : Fr I' F' a b := ⟨fun k hk => h.1 k (fun q => hk (hI k q)), fun k hk => h.2 k (fun q => hk (hF k q))⟩
theorem Fr.sI {I F : List Nat} {a b : RS} {k : Nat} {v : Int32} (h : Fr I F a b) (hk : k ∈ I) : Fr I F a (sI b k v) := ⟨fun j hj => ⟨by rw [gI_sI, if_neg (fun e : j = k => hj (e ▸ hk))]; exact (h.1 j hj).1, (h.1 j hj).2⟩, h.2⟩
theorem Fr.sJ {I F : List Nat} {a b : RS} {k : Nat} {v : Int64} (h : Fr I F a b) (hk : k ∈ I) : Fr I F a (sJ b k v) := ⟨fun j hj => ⟨(h.1 j hj).1, by rw [gJ_sJ, if_neg (fun e : j = k => hj (e ▸ hk))]; exact (h.1 j hj).2⟩, h.2⟩
theorem Fr.sF {I F : List Nat} {a b : RS} {k : Nat} {v : Nat → Int32} (h : Fr I F a b) (hk : k ∈ F) : Fr I F a (sF b k v) := ⟨h.1, fun j hj => ⟨by rw [gF_sF, if_neg (fun e : j = k => hj (e ▸ hk))]; exact (h.2 j hj).1, (h.2 j hj).2⟩⟩
theorem Fr.sL {I F : List Nat} {a b : RS} {k : Nat} {v : Nat → Int64} (h : Fr I F a b) (hk : k ∈ F) : Fr I F a (sL b k v) := ⟨h.1, fun j hj => ⟨(h.2 j hj).1, by rw [gL_sL, if_neg (fun e : j = k => hj (e ▸ hk))]; exact (h.2 j hj).2⟩⟩

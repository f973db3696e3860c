theorem sI_sI (st : RS) (k : Nat) (v w : Int32) : sI (sI st k v) k w = sI st k w := by
  show (va_up (va_up st.1 k v) k w, st.2) = (va_up st.1 k w, st.2)
  congr 1
  funext j
  by_cases h : j = k
  · subst h; rw [va_up_self, va_up_self]
  · rw [va_up_ne _ _ h, va_up_ne _ _ h, va_up_ne _ _ h]
/-- answers whether, and changes nothing -/
def BP (c : Prop) (st : RS) (q : Int32 × RS) : Prop := q.2 = st ∧ (q.1 = 1 ∧ c ∨ q.1 = 0 ∧ ¬ c)
theorem BP.y {c : Prop} {st : RS} (h : c) : BP c st (1, st) := ⟨rfl, Or.inl ⟨rfl, h⟩⟩
theorem BP.n {c : Prop} {st : RS} (h : ¬ c) : BP c st (0, st) := ⟨rfl, Or.inr ⟨rfl, h⟩⟩
theorem BP.use {c : Prop} {st : RS} {q : Int32 × RS} {Q : Int32 → RS → Prop} (h : BP c st q) (hy : c → Q 1 st) (hn : ¬ c → Q 0 st) : Q q.1 q.2 := by
  obtain ⟨r, t⟩ := q
  obtain ⟨h1, h2⟩ := h
  have h1 : t = st := h1
  subst h1
  rcases h2 with ⟨h2, h3⟩ | ⟨h2, h3⟩
  · have h2 : r = 1 := h2
    subst h2
    exact hy h3
  · have h2 : r = 0 := h2
    subst h2
    exact hn h3
/-- a call that answers whether -/
theorem Ok.bp {β : Type} {c : Prop} {st : RS} {x : Option (Int32 × RS)} {k : Int32 → RS → Option β} {P : β → Prop} (h : Ok x (BP c st)) (hy : c → Ok (k 1 st) P) (hn : ¬ c → Ok (k 0 st) P) : Ok (bnd x k) P := Ok_bnd.mpr (h.mono (fun q hq => BP.use (Q := fun r t => Ok (k r t) P) hq hy hn))
/-- a make has a field that isn't gone -/
def hasN (st : RS) (m n : Nat) : Prop := 1 ≤ n ∧ n ≤ 30 ∧ gF st 8 (31 * m + n) ≠ 0 ∧ gF st 1 (31 * m + n) ≠ 0
theorem i31 {m n : Int32} (h1 : 0 ≤ m.toInt) (h2 : m.toInt < 8) (h3 : 0 ≤ n.toInt) (h4 : n.toInt ≤ 30) : (31 * m + n).toInt = 31 * m.toInt + n.toInt := by
  have e : (31 * m).toInt = 31 * m.toInt := by
    rw [t_mul (by simp; omega) (by simp; omega)]
    rfl
  rw [t_add (by rw [e]; omega) (by rw [e]; omega), e]
theorem i31n {m n : Int32} (h1 : 0 ≤ m.toInt) (h2 : m.toInt < 8) (h3 : 0 ≤ n.toInt) (h4 : n.toInt ≤ 30) : (31 * m + n).toNatClampNeg = 31 * m.toNatClampNeg + n.toNatClampNeg := by
  rw [t_nat, t_nat, t_nat, i31 h1 h2 h3 h4]
  omega
theorem r_has {m n : Int32} {st : RS} (h1 : 0 ≤ m.toInt) (h2 : m.toInt < 8) : Ok (x9_has m n st) (BP (hasN st m.toNatClampNeg n.toNatClampNeg) st) := by
  unfold x9_has
  simp only [Ok_pif, Ok_gd, Ok_some]
  simp only [t_le, Int32.reduceToInt]
  refine ⟨fun c => BP.n (fun h => by have := h.1; rw [t_nat] at this; omega), fun c => ⟨fun d => BP.n (fun h => by have := h.2.1; rw [t_nat] at this; omega), fun d => ?_⟩⟩
  have e := i31 h1 h2 (show 0 ≤ n.toInt by omega) (by omega)
  have en := i31n h1 h2 (show 0 ≤ n.toInt by omega) (by omega)
  rw [t_in, e, en]
  refine ⟨by omega, fun a => BP.n (fun h => h.2.2.1 a), fun a => ⟨by omega, fun b => BP.n (fun h => h.2.2.2 b), fun b => BP.y ⟨?_, ?_, a, b⟩⟩⟩
  · rw [t_nat]; omega
  · rw [t_nat]; omega
/-- a make that was told -/
def mkN (st : RS) (m : Int32) : Prop := 0 ≤ m.toInt ∧ m.toInt < 8 ∧ gF st 0 m.toNatClampNeg ≠ 0
theorem r_isMake {m : Int32} {st : RS} : Ok (x9_isMake m st) (BP (mkN st m) st) := by
  unfold x9_isMake
  simp only [Ok_pif, Ok_gd, Ok_some]
  simp only [t_le, t_lt, t_in, Int32.reduceToInt]
  refine ⟨fun c => BP.n (fun h => by have := h.1; omega), fun c => ⟨fun d => BP.n (fun h => by have := h.2.1; omega), fun d => ⟨by omega, fun a => BP.n (fun h => h.2.2 a), fun a => BP.y ⟨by omega, by omega, a⟩⟩⟩⟩
theorem r_isRecord {r : Int32} {st : RS} : Ok (x9_isRecord r st) (BP (0 ≤ r.toInt ∧ r.toInt < 4) st) := by
  unfold x9_isRecord
  simp only [Ok_pif, Ok_gd, Ok_some]
  simp only [t_le, t_lt, t_in, Int32.reduceToInt]
  refine ⟨fun c => BP.n (by omega), fun c => ⟨fun d => BP.n (by omega), fun d => BP.y (by omega)⟩⟩
/-- bytes of a text -/
def TxN (f : Nat → Int32) (a b : Nat) : Prop := ∀ k, a ≤ k → k < b → 32 ≤ (f k).toInt ∧ (f k).toInt ≤ 126
theorem r_isText30l (b a : Int32) (st : RS) (h0 : 0 ≤ a.toInt) (hb : b.toInt ≤ 160) : ∀ (n : Nat) (l : Int32), a.toInt ≤ l.toInt → l.toInt ≤ 1000 → (b.toInt - l.toInt).toNat < n → TxN (gF st 30) a.toNatClampNeg l.toNatClampNeg → Ok (x9_isText_30_12 n b l st) (BP (TxN (gF st 30) a.toNatClampNeg b.toNatClampNeg) st) := by
  intro n
  induction n with
  | zero => intro l h1 h2 h3; omega
  | succ n ih =>
    intro l h1 h2 h3 h4
    rw [x9_isText_30_12_s]
    simp only [Ok_pif, Ok_gd, Ok_nam, Ok_some]
    simp only [t_le, t_lt, t_in, Int32.reduceToInt]
    refine ⟨fun c => BP.y (fun k k1 k2 => h4 k k1 (by rw [t_nat] at *; omega)), fun c => ⟨by omega, fun d => BP.n (fun h => ?_), fun d => ⟨by omega, fun x => ?_, fun x => BP.n (fun h => ?_)⟩⟩⟩
    · have := h l.toNatClampNeg (by rw [t_nat, t_nat]; omega) (by rw [t_nat, t_nat]; omega)
      omega
    · have e : (l + 1).toInt = l.toInt + 1 := by rw [t_add (by simp; omega) (by simp; omega)]; rfl
      refine ih (l + 1) (by omega) (by omega) (by omega) (fun k k1 k2 => ?_)
      by_cases hk : k = l.toNatClampNeg
      · subst hk; omega
      · exact h4 k k1 (by rw [t_nat] at *; rw [e] at k2; omega)
    · have := h l.toNatClampNeg (by rw [t_nat, t_nat]; omega) (by rw [t_nat, t_nat]; omega)
      omega
theorem r_isText30 {a b : Int32} {st : RS} (h0 : 0 ≤ a.toInt) (h1 : a.toInt ≤ 160) (h2 : 0 ≤ b.toInt) (hb : b.toInt ≤ 160) : Ok (x9_isText_30 a b st) (BP (b.toInt - a.toInt ≤ 12 ∧ TxN (gF st 30) a.toNatClampNeg b.toNatClampNeg) st) := by
  unfold x9_isText_30
  simp only [Ok_pif, Ok_some]
  have e : (b - a).toInt = b.toInt - a.toInt := t_sub (by omega) (by omega)
  rw [t_le, e, show (12 : Int32).toInt = 12 from rfl]
  refine ⟨fun c => ?_, fun c => BP.n (fun h => c h.1)⟩
  refine (r_isText30l b a st h0 hb fuel a (by omega) (by omega) (by unfold fuel; omega) (fun k k1 k2 => by omega)).mono (fun q hq => ?_)
  rcases hq with ⟨h3, ⟨h4, h5⟩ | ⟨h4, h5⟩⟩
  · exact ⟨h3, Or.inl ⟨h4, c, h5⟩⟩
  · exact ⟨h3, Or.inr ⟨h4, fun h => h5 h.2⟩⟩
/-- a number fits a kind -/
def ofN (v : Int64) (k : Int32) : Prop := (k = 1 → v = 0 ∨ v = 1) ∧ (k = 2 → -128 ≤ v.toInt ∧ v.toInt ≤ 127) ∧ (k ≠ 1 → k ≠ 2 → k ≠ 4 → -2147483648 ≤ v.toInt ∧ v.toInt ≤ 2147483647)
theorem r_isOf {v : Int64} {k : Int32} {st : RS} : Ok (x9_isOf v k st) (BP (ofN v k) st) := by
  unfold x9_isOf
  simp only [Ok_pif, Ok_some, lg_cmp_eq, lg_cmp_lt, lg_cmp_gt]
  simp only [j_lt, Int64.reduceToInt]
  refine ⟨fun c => ⟨fun a => BP.y ⟨fun _ => Or.inl a, ?_, ?_⟩, fun a => ⟨fun b => BP.y ⟨fun _ => Or.inr b, ?_, ?_⟩, fun b => BP.n (fun h => (h.1 c).elim a b)⟩⟩, fun c => ⟨fun d => ⟨fun a => BP.n (fun h => ?_), fun a => ⟨fun b => BP.n (fun h => ?_), fun b => BP.y ⟨fun h => absurd h c, fun _ => by omega, fun _ h => absurd d h⟩⟩⟩, fun d => ⟨fun x => BP.y ⟨fun h => absurd h c, fun h => absurd h d, fun _ _ h => absurd x h⟩, fun x => ⟨fun a => BP.n (fun h => ?_), fun a => ⟨fun b => BP.n (fun h => ?_), fun b => BP.y ⟨fun h => absurd h c, fun h => absurd h d, fun _ _ _ => by omega⟩⟩⟩⟩⟩⟩
  · intro h; rw [c] at h; exact absurd h (by decide)
  · intro h; exact absurd c h
  · intro h; rw [c] at h; exact absurd h (by decide)
  · intro h; exact absurd c h
  · have := h.2.1 d; omega
  · have := h.2.1 d; omega
  · have := h.2.2 c d x; omega
  · have := h.2.2 c d x; omega

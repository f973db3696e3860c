/-! longs by their values -/
theorem j_le {a b : Int64} : a ≤ b ↔ a.toInt ≤ b.toInt := Int64.le_iff_toInt_le
theorem j_lt {a b : Int64} : a < b ↔ a.toInt < b.toInt := Int64.lt_iff_toInt_lt
theorem j_eq {a b : Int64} : a = b ↔ a.toInt = b.toInt := Int64.toInt_inj.symm
theorem j_of (a : Int32) : a.toInt64.toInt = a.toInt := Int32.toInt_toInt64 a
/-- what k bytes at p are worth -/
def vacc (f : Nat → Int32) (p : Nat) : Nat → Int64
  | 0 => 0
  | k + 1 => vacc f p k ||| (((f (p + k)).toInt64 &&& 127) <<< ((7 * Int32.ofNat k).toInt64 &&& 63))
/-- k bytes at p are a varint -/
def Vd (f : Nat → Int32) (p k : Nat) : Prop := 1 ≤ k ∧ k ≤ 10 ∧ (∀ i, i + 1 < k → 128 ≤ (f (p + i)).toInt) ∧ (f (p + (k - 1))).toInt < 128 ∧ (k = 10 → (f (p + 9)).toInt ≤ 1)
theorem Vd.uniq {f : Nat → Int32} {p k j : Nat} (h1 : Vd f p k) (h2 : Vd f p j) : k = j := by
  obtain ⟨a1, a2, a3, a4, a5⟩ := h1
  obtain ⟨b1, b2, b3, b4, b5⟩ := h2
  rcases Nat.lt_trichotomy k j with h | h | h
  · have := b3 (k - 1) (by omega)
    omega
  · exact h
  · have := a3 (j - 1) (by omega)
    omega
theorem Vd.same {f g : Nat → Int32} {p q k : Nat} (h : Vd f p k) (he : ∀ i, i < k → g (q + i) = f (p + i)) : Vd g q k := by
  obtain ⟨a1, a2, a3, a4, a5⟩ := h
  refine ⟨a1, a2, fun i hi => by rw [he i (by omega)]; exact a3 i hi, by rw [he (k - 1) (by omega)]; exact a4, fun h => by rw [he 9 (by omega)]; exact a5 h⟩
theorem vacc_same {f g : Nat → Int32} {p q : Nat} (k : Nat) (he : ∀ i, i < k → g (q + i) = f (p + i)) : vacc g q k = vacc f p k := by
  induction k with
  | zero => rfl
  | succ k ih =>
    show vacc g q k ||| _ = vacc f p k ||| _
    rw [ih (fun i hi => he i (by omega)), he k (by omega)]
/-- what varint() answers -/
def VrP (st : RS) (p e : Int32) (q : Int32 × RS) : Prop := Fr [31, 32] [] st q.2 ∧ ((q.1 = 1 ∧ ∃ k, Vd (gF st 30) p.toNatClampNeg k ∧ p.toInt + k ≤ e.toInt ∧ (gI q.2 32).toInt = p.toInt + k ∧ gJ q.2 31 = vacc (gF st 30) p.toNatClampNeg k) ∨ (q.1 = 0 ∧ ∀ k, Vd (gF st 30) p.toNatClampNeg k → ¬ p.toInt + k ≤ e.toInt))
theorem r_varint7 (p e : Int32) (hp : 0 ≤ p.toInt) (hp2 : p.toInt ≤ 1000) (he : e.toInt ≤ 160) (st0 : RS) : ∀ (n : Nat) (I : Nat) (l : Int32) (st : RS), l.toInt = I → I ≤ 10 → 10 - I < n → Fr [31, 32] [] st0 st → (∀ i, i < I → 128 ≤ (gF st0 30 (p.toNatClampNeg + i)).toInt) → gJ st 31 = vacc (gF st0 30) p.toNatClampNeg I → Ok (x9_varint_7 n p e l st) (VrP st0 p e) := by
  intro n
  induction n with
  | zero => intro I l st h1 h2 h3; omega
  | succ n ih =>
    intro I l st h1 h2 h3 hF h4 h5
    have hl : l = Int32.ofNat I := by rw [t_eq, t_nI (by omega)]; exact h1
    have e1 : (p + l).toInt = p.toInt + I := by rw [t_add (by omega) (by omega)]; omega
    have e2 : (p + l).toNatClampNeg = p.toNatClampNeg + I := by rw [t_nat, t_nat, e1]; omega
    have e30 : gF st 30 = gF st0 30 := (hF.2 30 (by decide)).1
    have hno : ∀ k, Vd (gF st0 30) p.toNatClampNeg k → I + 1 ≤ k := fun k hk => by
      obtain ⟨a1, a2, a3, a4, a5⟩ := hk
      rcases Nat.lt_or_ge I k with h | h
      · omega
      · have := h4 (k - 1) (by omega)
        omega
    have hst : gJ st 31 ||| ((gF st 30 (p + l).toNatClampNeg).toInt64 &&& 127) <<< ((7 * l).toInt64 &&& 63) = vacc (gF st0 30) p.toNatClampNeg (I + 1) := by
      rw [h5, e30, e2, hl]
      rfl
    have hnext : I < 10 → 128 ≤ (gF st0 30 (p.toNatClampNeg + I)).toInt → Ok (x9_varint_7 n p e (l + 1) (sJ st 31 (vacc (gF st0 30) p.toNatClampNeg (I + 1)))) (VrP st0 p e) := fun hI hb => ih (I + 1) (l + 1) _ (by rw [t_add (by rw [h1]; simp; omega) (by rw [h1]; simp; omega), h1]; rfl) (by omega) (by omega) (hF.sJ (by decide)) (fun i hi => by
      rcases Nat.lt_or_ge i I with h | h
      · exact h4 i h
      · rw [show i = I by omega]; exact hb) (by rw [gJ_sJ, if_pos rfl])
    have hend : I < 10 → (gF st0 30 (p.toNatClampNeg + I)).toInt < 128 → (I = 9 → (gF st0 30 (p.toNatClampNeg + I)).toInt ≤ 1) → (p + l).toInt < e.toInt → VrP st0 p e (1, sI (sJ st 31 (vacc (gF st0 30) p.toNatClampNeg (I + 1))) 32 (p + l + 1)) := fun hI hb h9 hlt => by
      refine ⟨(hF.sJ (by decide)).sI (by decide), Or.inl ⟨rfl, I + 1, ⟨by omega, by omega, fun i hi => h4 i (by omega), hb, fun hk => ?_⟩, ?_, ?_, ?_⟩⟩
      · have : I = 9 := by omega
        subst this
        exact h9 rfl
      · omega
      · rw [gI_sI, if_pos rfl, t_add (by rw [e1]; simp; omega) (by rw [e1]; simp; omega), e1]
        simp
        omega
      · rw [gJ_sI, gJ_sJ, if_pos rfl]
    rw [x9_varint_7_s]
    simp only [x9_varint_48, Ok_pif, Ok_gd, Ok_nam, Ok_some, lg_cmp_ge, lg_cmp_le, hst]
    simp only [t_in, t_le, t_lt, t_eq, j_le, j_of, Int32.reduceToInt, Int64.reduceToInt, e1, e2, e30, h1]
    refine ⟨fun c => ⟨hF, Or.inr ⟨rfl, fun k hk h => ?_⟩⟩, fun c => ⟨fun d => ⟨by omega, fun c9 => ⟨fun c1 => ⟨fun b => hnext (by omega) b, fun b => hend (by omega) (by omega) (fun _ => c1) (by omega)⟩, fun c1 => ⟨hF, Or.inr ⟨rfl, fun k hk h => ?_⟩⟩⟩, fun c9 => ⟨fun b => hnext (by omega) b, fun b => hend (by omega) (by omega) (fun h => by omega) (by omega)⟩⟩, fun d => ⟨hF, Or.inr ⟨rfl, fun k hk h => ?_⟩⟩⟩⟩
    · have := hno k hk
      have := hk.2.1
      omega
    · have := hno k hk
      have h10 := hk.2.1
      have := hk.2.2.2.2 (by omega)
      rw [show I = 9 by omega] at c1
      omega
    · have := hno k hk
      omega
theorem r_varint (p e : Int32) (hp : 0 ≤ p.toInt) (hp2 : p.toInt ≤ 1000) (he : e.toInt ≤ 160) (st : RS) : Ok (x9_varint p e st) (VrP st p e) := by
  unfold x9_varint
  rw [Ok_nam]
  exact r_varint7 p e hp hp2 he st fuel 0 0 _ rfl (by decide) (by decide) (Fr.rf.sJ (by decide)) (fun i hi => by omega) rfl

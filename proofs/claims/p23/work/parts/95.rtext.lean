theorem r_fail {k p : Int32} {st : RS} (hk : k ≠ 0) : Ok (x9_fail k p st) (fun t => Fr [13, 14] [] st t ∧ gI t 13 ≠ 0) := by
  unfold x9_fail
  simp only [Ok_pif, Ok_some, Ok_nam]
  exact ⟨fun _ => ⟨(Fr.rf.sI (by decide)).sI (by decide), hk⟩, fun c => ⟨Fr.rf, c⟩⟩
theorem Tx.fr {f : Nat → Int32} {n p : Nat} {st t : RS} {I F : List Nat} (h : Tx f n p st) (hF : Fr I F st t) (h9 : 9 ∉ F) (h11 : 11 ∉ I) (h12 : 12 ∉ I) : Tx f n p t := ⟨((hF.2 9 h9).1).trans h.1, by rw [(hF.1 12 h12).1]; exact h.2.1, by rw [(hF.1 11 h11).1]; exact h.2.2.1, h.2.2.2⟩
theorem pk1_eq {f : Nat → Int32} {n p : Nat} {b : Int32} (hb : b ≠ -1) : pk1 f n p = b ↔ p < n ∧ f p = b := by
  unfold pk1
  by_cases c : p < n
  · rw [if_pos c]; exact ⟨fun h => ⟨c, h⟩, fun h => h.2⟩
  · rw [if_neg c]; exact ⟨fun h => absurd h.symm hb, fun h => absurd h.1 c⟩
/-- one place further -/
theorem Tx.step {f : Nat → Int32} {n p : Nat} {st : RS} (h : Tx f n p st) (hp : p < n) : Tx f n (p + 1) (sI st 11 (gI st 11 + 1)) := by
  obtain ⟨h1, h2, h3, h4, h5⟩ := h
  refine ⟨h1, h2, ?_, h4, by omega⟩
  show (gI st 11 + 1).toInt = _
  rw [inc (by omega) (by omega), h3]
  rfl
/-- sign(b): it stands there, or a fault -/
theorem r_sign {f : Nat → Int32} {n p : Nat} {b : Int32} {st : RS} (h : Tx f n p st) (hb : b ≠ -1) : Ok (x9_sign b st) (fun t => Fr [11, 13, 14, 17] [] st t ∧ ((rn blk f n p < n ∧ f (rn blk f n p) = b ∧ gI t 13 = gI st 13 ∧ Tx f n (rn blk f n p + 1) t) ∨ (¬ (rn blk f n p < n ∧ f (rn blk f n p) = b) ∧ gI t 13 ≠ 0 ∧ Tx f n (rn blk f n p) t))) := by
  unfold x9_sign
  refine Ok.call (r_next h) (fun c t ht => ?_)
  obtain ⟨t1, t2, t3, t4⟩ := ht
  have t1 : Fr [11, 17] [] st t := t1
  have t2 : Tx f n (rn blk f n p) t := t2
  have t4 : c = pk1 f n (rn blk f n p) := t4
  have e13 : gI t 13 = gI st 13 := (t1.1 13 (by decide)).1
  simp only [Ok_pif, Ok_nam, Ok_some]
  rw [t4, pk1_eq hb]
  refine ⟨fun q => ⟨(t1.d (by decide) (by decide)).sI (by decide), Or.inl ⟨q.1, q.2, e13, t2.step q.1⟩⟩, fun q => Ok.callv (r_fail (by decide)) (fun u hu => ?_)⟩
  rw [Ok_some]
  exact ⟨(t1.d (by decide) (by decide)).tr (hu.1.d (by decide) (by decide)), Or.inr ⟨q, hu.2, t2.fr hu.1 (by decide) (by decide) (by decide)⟩⟩
/-- what k digits from s on are worth -/
def dvN (f : Nat → Int32) (s : Nat) : Nat → Int
  | 0 => 0
  | k + 1 => 10 * dvN f s k + (f (s + k)).toInt - 48
theorem dvN_r {f : Nat → Int32} {s : Nat} : ∀ k, (∀ j, j < k → dgt (f (s + j))) → 0 ≤ dvN f s k := by
  intro k
  induction k with
  | zero => intro _; exact Int.le_refl _
  | succ k ih =>
    intro h
    have h1 := ih (fun j hj => h j (by omega))
    have h2 := h k (by omega)
    unfold dgt at h2
    show 0 ≤ 10 * dvN f s k + (f (s + k)).toInt - 48
    omega
theorem dvN_2 {f : Nat → Int32} {s k : Nat} (hk : k ≤ 2) (h : ∀ j, j < k → dgt (f (s + j))) : 0 ≤ dvN f s k ∧ dvN f s k ≤ 99 := by
  refine ⟨dvN_r k h, ?_⟩
  rcases (show k = 0 ∨ k = 1 ∨ k = 2 by omega) with rfl | rfl | rfl
  · show (0 : Int) ≤ 99
    decide
  · have h0 := h 0 (by omega)
    unfold dgt at h0
    show 10 * 0 + (f (s + 0)).toInt - 48 ≤ 99
    omega
  · have h0 := h 0 (by omega)
    have h1 := h 1 (by omega)
    unfold dgt at h0 h1
    show 10 * (10 * 0 + (f (s + 0)).toInt - 48) + (f (s + 1)).toInt - 48 ≤ 99
    omega
/-- a number of one or two digits at s, 1 to 30 -/
def NumG (f : Nat → Int32) (n s : Nat) : Prop := rn dgt f n s - s ≤ 2 ∧ 1 ≤ dvN f s (rn dgt f n s - s) ∧ dvN f s (rn dgt f n s - s) ≤ 30
theorem r_number35 (f : Nat → Int32) (n s : Nat) (st0 : RS) (hn : n ≤ 400) (hs : s ≤ n) : ∀ (z i : Nat) (v : Int32) (st : RS), i ≤ 2 → 3 - i < z → s + i ≤ n → Fr [11, 13, 14, 18] [] st0 st → Tx f n (s + i) st → (gI st 17).toInt = s → gI st 13 = 0 → v.toInt = dvN f s i → (∀ j, j < i → dgt (f (s + j))) → Ok (x9_number_35 z 2 1 30 v st) (fun q => Fr [11, 13, 14, 18] [] st0 q.2 ∧ ((NumG f n s ∧ gI q.2 13 = 0 ∧ q.1.toInt = dvN f s (rn dgt f n s - s) ∧ Tx f n (rn dgt f n s) q.2 ∧ (gI q.2 18).toInt = rn dgt f n s) ∨ (¬ NumG f n s ∧ gI q.2 13 ≠ 0))) := by
  intro z
  induction z with
  | zero => intro i v st a b; omega
  | succ z ih =>
    intro i v st hi hz hsn hF hT h17 h13 hv hD
    obtain ⟨f1, f2, f3, f4, f5⟩ := id hT
    have ein : (gI st 11).toNatClampNeg = s + i := by rw [t_nat]; omega
    have dr := dvN_2 hi hD
    have fin : ¬ (s + i < n ∧ dgt (f (s + i))) → Ok (x9_number_118 1 30 v st) (fun q => Fr [11, 13, 14, 18] [] st0 q.2 ∧ ((NumG f n s ∧ gI q.2 13 = 0 ∧ q.1.toInt = dvN f s (rn dgt f n s - s) ∧ Tx f n (rn dgt f n s) q.2 ∧ (gI q.2 18).toInt = rn dgt f n s) ∨ (¬ NumG f n s ∧ gI q.2 13 ≠ 0))) := by
      intro hno
      have er : s + i = rn dgt f n s := run.eq ⟨by omega, fun j j1 j2 => ⟨by omega, by have := hD (j - s) (by omega); rw [show s + (j - s) = j by omega] at this; exact this⟩, hno⟩
      have ei : rn dgt f n s - s = i := by omega
      unfold NumG
      rw [ei, ← er]
      unfold x9_number_118 x9_number_138
      simp only [Ok_nam, Ok_pif, Ok_some]
      rw [t_lt, t_le, hv, show (1 : Int32).toInt = 1 from rfl, show (30 : Int32).toInt = 30 from rfl]
      have hF2 : Fr [11, 13, 14, 18] [] st0 (sI st 18 (gI st 11)) := hF.sI (by decide)
      have bad : ¬ (i ≤ 2 ∧ 1 ≤ dvN f s i ∧ dvN f s i ≤ 30) → Ok (bnv (x9_fail 2 (gI (sI st 18 (gI st 11)) 17) (sI st 18 (gI st 11))) (fun st_1 => some (v, st_1))) (fun q => Fr [11, 13, 14, 18] [] st0 q.2 ∧ (((i ≤ 2 ∧ 1 ≤ dvN f s i ∧ dvN f s i ≤ 30) ∧ gI q.2 13 = 0 ∧ q.1.toInt = dvN f s i ∧ Tx f n (s + i) q.2 ∧ (gI q.2 18).toInt = (s + i : Nat)) ∨ (¬ (i ≤ 2 ∧ 1 ≤ dvN f s i ∧ dvN f s i ≤ 30) ∧ gI q.2 13 ≠ 0))) := fun hb => Ok.callv (r_fail (by decide)) (fun u hu => by
        rw [Ok_some]
        exact ⟨hF2.tr (hu.1.d (by decide) (by decide)), Or.inr ⟨hb, hu.2⟩⟩)
      refine ⟨fun c => bad (fun q => by omega), fun c => ⟨fun d => ⟨hF2, Or.inl ⟨⟨hi, by omega, d⟩, h13, rfl, hT.fr (Fr.rf.sI (I := [18]) (F := []) (by decide)) (by decide) (by decide) (by decide), f3⟩⟩, fun d => bad (fun q => d q.2.2)⟩⟩
    rw [x9_number_35_s]
    simp only [Ok_pif, Ok_gd, f1, ein]
    rw [t_le, f2, f3, t_in]
    refine ⟨fun c => fin (fun q => by omega), fun c => ⟨by omega, Ok.bp r_isDigit (fun hd => ?_) (fun hd => ?_)⟩⟩
    · have es : (gI st 11 - gI st 17).toInt = i := by rw [t_sub (by omega) (by omega), f3, h17]; omega
      simp only [Ok_pif, Ok_gd, Ok_nam, f1, ein]
      have ec2 : (gI st 11 - gI st 17 = 2) ↔ i = 2 := by
        rw [t_eq, es, show (2 : Int32).toInt = 2 from rfl]
        omega
      rw [ec2]
      have hcon : dgt (f (s + i)) := hd
      refine ⟨fun h => absurd h (by decide), fun _ => ⟨fun c2 => Ok.callv (r_fail (by decide)) (fun u hu => ?_), fun c2 => ⟨by rw [t_in]; omega, ?_⟩⟩⟩
      · rw [Ok_some]
        refine ⟨hF.tr (hu.1.d (by decide) (by decide)), Or.inr ⟨fun hN => ?_, hu.2⟩⟩
        have h3 := hN.1
        obtain ⟨r1, r2, r3⟩ := rn_run dgt f n s
        have hle : rn dgt f n s ≤ s + 2 := by omega
        have hge : ¬ rn dgt f n s < s + 3 := fun hlt => by
          have : rn dgt f n s = s ∨ rn dgt f n s = s + 1 ∨ rn dgt f n s = s + 2 := by omega
          have i2 : i = 2 := by omega
          subst i2
          rcases this with e | e | e
          · exact r3 ⟨by omega, by rw [e]; exact hD 0 (by omega)⟩
          · exact r3 ⟨by omega, by rw [e]; exact hD 1 (by omega)⟩
          · exact r3 ⟨by omega, by rw [e]; exact hcon⟩
        omega
      · have hi1 : i ≤ 1 := by omega
        have hx := hcon
        unfold dgt at hx
        have em : (10 * v).toInt = 10 * v.toInt := by
          rw [t_mul (by show -2147483648 ≤ 10 * v.toInt; omega) (by show 10 * v.toInt < 2147483648; omega)]
          rfl
        have ea : (10 * v + f (s + i)).toInt = 10 * v.toInt + (f (s + i)).toInt := by rw [t_add (by omega) (by omega), em]
        have eb : (10 * v + f (s + i) - 48).toInt = 10 * v.toInt + (f (s + i)).toInt - 48 := by
          rw [t_sub (by rw [ea]; show -2147483648 ≤ 10 * v.toInt + (f (s + i)).toInt - 48; omega) (by rw [ea]; show 10 * v.toInt + (f (s + i)).toInt - 48 < 2147483648; omega), ea]
          rfl
        refine ih (i + 1) _ _ (by omega) (by omega) (by omega) (hF.sI (by decide)) (hT.step (by omega)) h17 h13 (by rw [eb, hv]; rfl) (fun j hj => ?_)
        rcases Nat.lt_or_ge j i with q | q
        · exact hD j q
        · rw [show j = i by omega]; exact hcon
    · simp only [Ok_pif]
      exact ⟨fun _ => fin (fun q => hd q.2), fun h => by simp at h⟩

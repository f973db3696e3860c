theorem dvN_mono {f : Nat → Int32} {s : Nat} : ∀ (k j : Nat), (∀ i, i < k + j → dgt (f (s + i))) → dvN f s k ≤ dvN f s (k + j) := by
  intro k j
  induction j with
  | zero => intro _; exact Int.le_refl _
  | succ j ih =>
    intro h
    have h1 := ih (fun i hi => h i (by omega))
    have h2 := dvN_r (f := f) (s := s) (k + j) (fun i hi => h i (by omega))
    have h3 := h (k + j) (by omega)
    unfold dgt at h3
    show dvN f s k ≤ 10 * dvN f s (k + j) + (f (s + (k + j))).toInt - 48
    omega
/-- the digits of a default number from s on -/
def DigG (f : Nat → Int32) (n s : Nat) : Prop := 1 ≤ rn dgt f n s - s ∧ rn dgt f n s - s ≤ 19
/-- its value with a sign, in a long, of a kind -/
def RngG (f : Nat → Int32) (n s : Nat) (neg : Prop) (k : Int32) (V : Int) : Prop := (neg → V = - dvN f s (rn dgt f n s - s)) ∧ (¬ neg → V = dvN f s (rn dgt f n s - s)) ∧ -9223372036854775808 ≤ V ∧ V < 9223372036854775808 ∧ ofN (Int64.ofInt V) k
/-- what value() leaves behind its sign -/
def VaR (f : Nat → Int32) (n s F : Nat) (neg : Prop) (k : Int32) (st0 t : RS) : Prop := Fr [11, 13, 14, 18] [6] st0 t ∧ (∀ j, j ≠ F → gL t 6 j = gL st0 6 j) ∧ (((DigG f n s ∧ ∃ V, RngG f n s neg k V ∧ (gL t 6 F).toInt = V) ∧ gI t 13 = 0 ∧ Tx f n (rn dgt f n s) t ∧ gI t 18 = gI t 11) ∨ (¬ (DigG f n s ∧ ∃ V, RngG f n s neg k V) ∧ gI t 13 ≠ 0))
theorem of64 {V : Int} (h1 : -9223372036854775808 ≤ V) (h2 : V < 9223372036854775808) : (Int64.ofInt V).toInt = V := by
  rw [Int64.toInt_ofInt]
  exact j_bm h1 h2
/-- the end of value(): range and kind -/
theorem r_value253 (f : Nat → Int32) (n s F : Nat) (neg : Prop) (fl k l3 : Int32) (st0 st : RS) (v : Int64) (by0 : Int32) (hfl : fl.toInt = F) (hF : F < 248) (hFr : Fr [11, 13, 14, 18] [6] st0 st) (h6 : gL st 6 = gL st0 6) (h13 : gI st 13 = 0) (hT : Tx f n (rn dgt f n s) st) (h18 : gI st 18 = gI st 11) (hD : DigG f n s) (hb : by0 = 0 → RngG f n s neg 4 v.toInt) (hb1 : by0 ≠ 0 → ¬ ∃ V, RngG f n s neg k V) : Ok (x9_value_253 fl k l3 v by0 st) (VaR f n s F neg k st0) := by
  have fln : fl.toNatClampNeg = F := by rw [t_nat]; omega
  have fin : ∀ u : RS, Fr [11, 13, 14, 18] [6] st0 u → gL u 6 = gL st0 6 → (((DigG f n s ∧ ∃ V, RngG f n s neg k V ∧ v.toInt = V) ∧ gI u 13 = 0 ∧ Tx f n (rn dgt f n s) u ∧ gI u 18 = gI u 11) ∨ (¬ (DigG f n s ∧ ∃ V, RngG f n s neg k V) ∧ gI u 13 ≠ 0)) → Ok (x9_value_273 fl v u) (VaR f n s F neg k st0) := by
    intro u hu u6 hc
    unfold x9_value_273
    simp only [Ok_gd, Ok_nam, Ok_some, t_in, fln]
    have eF : gL (sL u 6 (vp_updL (gL u 6) F v)) 6 F = v := by
      show vp_updL (gL u 6) F v F = v
      unfold vp_updL
      rw [if_pos rfl]
    refine ⟨by omega, hu.sL (by decide), fun j hj => ?_, ?_⟩
    · show vp_updL (gL u 6) F v j = _
      unfold vp_updL
      rw [if_neg hj, u6]
    · rcases hc with ⟨⟨c1, V, c2, c3⟩, c4, c5, c6⟩ | hc
      · exact Or.inl ⟨⟨c1, V, c2, by rw [eF]; exact c3⟩, c4, c5.fr (Fr.rf.sL (I := []) (F := [6]) (by decide)) (by decide) (by decide) (by decide), c6⟩
      · exact Or.inr hc
  have bad : ¬ (DigG f n s ∧ ∃ V, RngG f n s neg k V) → Ok (x9_value_267 fl l3 v st) (VaR f n s F neg k st0) := by
    intro hno
    unfold x9_value_267
    exact Ok.callv (r_fail (by decide)) (fun u hu => fin u (hFr.tr (hu.1.d (by decide) (by decide))) (by rw [(hu.1.2 6 (by decide)).2]; exact h6) (Or.inr ⟨hno, hu.2⟩))
  unfold x9_value_253
  simp only [Ok_pif]
  refine ⟨fun c0 => ?_, fun c0 => bad (fun w => hb1 c0 w.2)⟩
  obtain ⟨g1, g2, g3, g4, -⟩ := hb c0
  have ev : Int64.ofInt v.toInt = v := by rw [j_eq, of64 g3 g4]
  refine Ok.bp r_isOf (fun ho => ?_) (fun ho => ?_)
  · simp only [Ok_pif]
    exact ⟨fun h => absurd h (by decide), fun _ => fin st hFr h6 (Or.inl ⟨⟨hD, v.toInt, ⟨g1, g2, g3, g4, by rw [ev]; exact ho⟩, rfl⟩, h13, hT, h18⟩)⟩
  · simp only [Ok_pif]
    refine ⟨fun _ => bad (fun w => ?_), fun h => by simp at h⟩
    obtain ⟨-, V, w1, w2, w3, w4, w5⟩ := w
    have eV : V = v.toInt := by
      by_cases q : neg
      · rw [w1 q, g1 q]
      · rw [w2 q, g2 q]
    rw [eV, ev] at w5
    exact ho w5

/-- number(2, 1, 30) -/
theorem r_number {f : Nat → Int32} {n p : Nat} {st : RS} (h : Tx f n p st) (hp : p ≤ n) (h13 : gI st 13 = 0) : Ok (x9_number 2 1 30 st) (fun q => Fr [11, 13, 14, 17, 18] [] st q.2 ∧ (gI q.2 17).toInt = rn blk f n p ∧ (((rn blk f n p < n ∧ dgt (f (rn blk f n p)) ∧ (gI st 18).toInt ≠ rn blk f n p ∧ NumG f n (rn blk f n p)) ∧ gI q.2 13 = 0 ∧ q.1.toInt = dvN f (rn blk f n p) (rn dgt f n (rn blk f n p) - rn blk f n p) ∧ Tx f n (rn dgt f n (rn blk f n p)) q.2 ∧ (gI q.2 18).toInt = rn dgt f n (rn blk f n p)) ∨ (¬ (rn blk f n p < n ∧ dgt (f (rn blk f n p)) ∧ (gI st 18).toInt ≠ rn blk f n p ∧ NumG f n (rn blk f n p)) ∧ gI q.2 13 ≠ 0))) := by
  unfold x9_number x9_number_21
  refine Ok.call (r_next h) (fun c t ht => ?_)
  obtain ⟨t1, t2, t3, t4⟩ := ht
  have t1 : Fr [11, 17] [] st t := t1
  have t2 : Tx f n (rn blk f n p) t := t2
  have t3 : gI t 17 = gI t 11 := t3
  have t4 : c = pk1 f n (rn blk f n p) := t4
  have e13 : gI t 13 = 0 := ((t1.1 13 (by decide)).1).trans h13
  have e18 : gI t 18 = gI st 18 := (t1.1 18 (by decide)).1
  have hle := rn_le blk f hp
  have hc : dgt c ↔ rn blk f n p < n ∧ dgt (f (rn blk f n p)) := by
    rw [t4]
    unfold pk1
    by_cases q : rn blk f n p < n
    · rw [if_pos q]; exact ⟨fun h => ⟨q, h⟩, fun h => h.2⟩
    · rw [if_neg q]
      refine ⟨fun h => ?_, fun h => absurd h.1 q⟩
      unfold dgt at h
      have : (-1 : Int32).toInt = -1 := rfl
      omega
  have bad : ¬ (rn blk f n p < n ∧ dgt (f (rn blk f n p)) ∧ (gI st 18).toInt ≠ rn blk f n p ∧ NumG f n (rn blk f n p)) → Ok (bnv (x9_fail 1 (gI t 11) t) (fun st_20 => some ((0 : Int32), st_20))) (fun q => Fr [11, 13, 14, 17, 18] [] st q.2 ∧ (gI q.2 17).toInt = rn blk f n p ∧ (((rn blk f n p < n ∧ dgt (f (rn blk f n p)) ∧ (gI st 18).toInt ≠ rn blk f n p ∧ NumG f n (rn blk f n p)) ∧ gI q.2 13 = 0 ∧ q.1.toInt = dvN f (rn blk f n p) (rn dgt f n (rn blk f n p) - rn blk f n p) ∧ Tx f n (rn dgt f n (rn blk f n p)) q.2 ∧ (gI q.2 18).toInt = rn dgt f n (rn blk f n p)) ∨ (¬ (rn blk f n p < n ∧ dgt (f (rn blk f n p)) ∧ (gI st 18).toInt ≠ rn blk f n p ∧ NumG f n (rn blk f n p)) ∧ gI q.2 13 ≠ 0))) := fun hb => Ok.callv (r_fail (by decide)) (fun u hu => by
    rw [Ok_some]
    refine ⟨(t1.d (by decide) (by decide)).tr (hu.1.d (by decide) (by decide)), ?_, Or.inr ⟨hb, hu.2⟩⟩
    show (gI u 17).toInt = _
    rw [(hu.1.1 17 (by decide)).1, t3]
    exact t2.2.2.1)
  refine Ok.bp r_isDigit (fun hd => ?_) (fun hd => ?_)
  · simp only [Ok_pif]
    refine ⟨fun h => absurd h (by decide), fun _ => ⟨fun q => bad (fun w => w.2.2.1 ?_), fun q => ?_⟩⟩
    · rw [← e18, ← q]; exact t2.2.2.1
    · obtain ⟨d1, d2⟩ := hc.mp hd
      have hne : (gI st 18).toInt ≠ rn blk f n p := fun w => q (by rw [t_eq, t2.2.2.1, e18]; exact w.symm)
      refine (r_number35 f n (rn blk f n p) t t2.2.2.2.1 hle fuel 0 0 t (by omega) (by unfold fuel; omega) (by omega) Fr.rf (by rw [Nat.add_zero]; exact t2) (by rw [t3]; exact t2.2.2.1) e13 rfl (fun j hj => absurd hj (by omega))).mono (fun x hx => ?_)
      obtain ⟨x1, x2⟩ := hx
      refine ⟨(t1.d (by decide) (by decide)).tr (x1.d (by decide) (by decide)), ?_, ?_⟩
      · rw [(x1.1 17 (by decide)).1, t3]; exact t2.2.2.1
      · rcases x2 with ⟨y1, y2⟩ | ⟨y1, y2⟩
        · exact Or.inl ⟨⟨d1, d2, hne, y1⟩, y2⟩
        · exact Or.inr ⟨fun w => y1 w.2.2.2, y2⟩
  · simp only [Ok_pif]
    exact ⟨fun _ => bad (fun w => hd (hc.mpr ⟨w.1, w.2.1⟩)), fun h => by simp at h⟩
/-- digit() -/
theorem r_digit {f : Nat → Int32} {n p : Nat} {st : RS} (h : Tx f n p st) (hp : p ≤ n) : Ok (x9_digit st) (fun q => Fr [11, 13, 14, 17, 18] [] st q.2 ∧ (((rn blk f n p < n ∧ dgt (f (rn blk f n p)) ∧ (gI st 18).toInt ≠ rn blk f n p) ∧ gI q.2 13 = gI st 13 ∧ q.1.toInt = (f (rn blk f n p)).toInt - 48 ∧ Tx f n (rn blk f n p + 1) q.2 ∧ (gI q.2 18).toInt = (rn blk f n p + 1 : Nat)) ∨ (¬ (rn blk f n p < n ∧ dgt (f (rn blk f n p)) ∧ (gI st 18).toInt ≠ rn blk f n p) ∧ gI q.2 13 ≠ 0 ∧ q.1 = 0 ∧ Tx f n (rn blk f n p) q.2))) := by
  unfold x9_digit x9_digit_21
  refine Ok.call (r_next h) (fun c t ht => ?_)
  obtain ⟨t1, t2, t3, t4⟩ := ht
  have t1 : Fr [11, 17] [] st t := t1
  have t2 : Tx f n (rn blk f n p) t := t2
  have t3 : gI t 17 = gI t 11 := t3
  have t4 : c = pk1 f n (rn blk f n p) := t4
  have e13 : gI t 13 = gI st 13 := (t1.1 13 (by decide)).1
  have e18 : gI t 18 = gI st 18 := (t1.1 18 (by decide)).1
  have hc : dgt c ↔ rn blk f n p < n ∧ dgt (f (rn blk f n p)) := by
    rw [t4]
    unfold pk1
    by_cases q : rn blk f n p < n
    · rw [if_pos q]; exact ⟨fun h => ⟨q, h⟩, fun h => h.2⟩
    · rw [if_neg q]
      refine ⟨fun h => ?_, fun h => absurd h.1 q⟩
      unfold dgt at h
      have : (-1 : Int32).toInt = -1 := rfl
      omega
  have bad : ¬ (rn blk f n p < n ∧ dgt (f (rn blk f n p)) ∧ (gI st 18).toInt ≠ rn blk f n p) → Ok (bnv (x9_fail 1 (gI t 11) t) (fun st_1 => some ((0 : Int32), st_1))) (fun q => Fr [11, 13, 14, 17, 18] [] st q.2 ∧ (((rn blk f n p < n ∧ dgt (f (rn blk f n p)) ∧ (gI st 18).toInt ≠ rn blk f n p) ∧ gI q.2 13 = gI st 13 ∧ q.1.toInt = (f (rn blk f n p)).toInt - 48 ∧ Tx f n (rn blk f n p + 1) q.2 ∧ (gI q.2 18).toInt = (rn blk f n p + 1 : Nat)) ∨ (¬ (rn blk f n p < n ∧ dgt (f (rn blk f n p)) ∧ (gI st 18).toInt ≠ rn blk f n p) ∧ gI q.2 13 ≠ 0 ∧ q.1 = 0 ∧ Tx f n (rn blk f n p) q.2))) := fun hb => Ok.callv (r_fail (by decide)) (fun u hu => by
    rw [Ok_some]
    exact ⟨(t1.d (by decide) (by decide)).tr (hu.1.d (by decide) (by decide)), Or.inr ⟨hb, hu.2, rfl, t2.fr hu.1 (by decide) (by decide) (by decide)⟩⟩)
  refine Ok.bp r_isDigit (fun hd => ?_) (fun hd => ?_)
  · obtain ⟨d1, d2⟩ := hc.mp hd
    have n4 := t2.2.2.2.1
    simp only [Ok_pif, Ok_nam, Ok_gd, Ok_some]
    refine ⟨fun h => absurd h (by decide), fun _ => ⟨fun q => bad (fun w => w.2.2 ?_), fun q => ?_⟩⟩
    · rw [← e18, ← q]; exact t2.2.2.1
    · have hne : (gI st 18).toInt ≠ rn blk f n p := fun w => q (by rw [t_eq, t2.2.2.1, e18]; exact w.symm)
      have hT := t2.step d1
      have e17 : gI (sI (sI t 11 (gI t 11 + 1)) 18 (gI (sI t 11 (gI t 11 + 1)) 11)) 17 = gI t 17 := rfl
      have e9 : gF (sI (sI t 11 (gI t 11 + 1)) 18 (gI (sI t 11 (gI t 11 + 1)) 11)) 9 = f := t2.1
      have en : (gI t 17).toNatClampNeg = rn blk f n p := by rw [t_nat, t3, t2.2.2.1]; omega
      rw [e17, e9, en, t_in, t3, t2.2.2.1]
      have hx := d2
      unfold dgt at hx
      refine ⟨by omega, ((t1.d (by decide) (by decide)).sI (by decide)).sI (by decide), Or.inl ⟨⟨d1, d2, hne⟩, e13, ?_, hT.fr (Fr.rf.sI (I := [18]) (F := []) (by decide)) (by decide) (by decide) (by decide), hT.2.2.1⟩⟩
      show (f (rn blk f n p) - 48).toInt = _
      rw [t_sub (by show -2147483648 ≤ (f (rn blk f n p)).toInt - 48; omega) (by show (f (rn blk f n p)).toInt - 48 < 2147483648; omega)]
      rfl
  · simp only [Ok_pif]
    exact ⟨fun _ => bad (fun w => hd (hc.mpr ⟨w.1, w.2.1⟩)), fun h => by simp at h⟩
/-- ends() -/
theorem r_ends {f : Nat → Int32} {n p : Nat} {st : RS} (h : Tx f n p st) : Ok (x9_ends st) (fun t => Fr [13, 14] [] st t ∧ Tx f n p t ∧ (p < n ∧ dgt (f p) → gI t 13 ≠ 0) ∧ (¬ (p < n ∧ dgt (f p)) → t = st)) := by
  obtain ⟨f1, f2, f3, f4, f5⟩ := id h
  have en : (gI st 11).toNatClampNeg = p := by rw [t_nat]; omega
  unfold x9_ends
  simp only [Ok_pif, Ok_some, Ok_gd, f1, en]
  rw [t_le, f2, f3, t_in]
  refine ⟨fun c => ⟨Fr.rf, h, fun q => by omega, fun _ => trivial⟩, fun c => ⟨by omega, Ok.bp r_isDigit (fun hd => ?_) (fun hd => ?_)⟩⟩
  · simp only [Ok_pif, Ok_some]
    refine ⟨fun h => absurd h (by decide), fun _ => Ok.callv (r_fail (by decide)) (fun u hu => ?_)⟩
    rw [Ok_some]
    exact ⟨hu.1, h.fr hu.1 (by decide) (by decide) (by decide), fun _ => hu.2, fun q => absurd ⟨by omega, hd⟩ q⟩
  · simp only [Ok_pif, Ok_some]
    exact ⟨fun _ => ⟨Fr.rf, h, fun q => absurd q.2 hd, fun _ => trivial⟩, fun h => by simp at h⟩
/-- takes(): a word is taken -/
theorem r_takes {f : Nat → Int32} {n p : Nat} {st : RS} (h : Tx f n p st) (hp : p ≤ n) : Ok (x9_takes st) (fun t => Fr [11, 13, 14, 18] [] st t ∧ Tx f n (rn ltr f n p) t ∧ (gI t 18).toInt = rn ltr f n p ∧ ((gI st 18).toInt = p → gI t 13 ≠ 0) ∧ ((gI st 18).toInt ≠ p → gI t 13 = gI st 13)) := by
  have go : ∀ u : RS, Tx f n p u → Fr [13, 14] [] st u → ((gI st 18).toInt = p → gI u 13 ≠ 0) → ((gI st 18).toInt ≠ p → gI u 13 = gI st 13) → Ok (x9_takes_20 u) (fun t => Fr [11, 13, 14, 18] [] st t ∧ Tx f n (rn ltr f n p) t ∧ (gI t 18).toInt = rn ltr f n p ∧ ((gI st 18).toInt = p → gI t 13 ≠ 0) ∧ ((gI st 18).toInt ≠ p → gI t 13 = gI st 13)) := by
    intro u hu hF h1 h2
    unfold x9_takes_20
    refine Ok.call (r_wordEnd hu) (fun w v hv => ?_)
    obtain ⟨v1, v2⟩ := hv
    have v1 : v = u := v1
    have v2 : w.toInt = rn ltr f n p := v2
    subst v1
    simp only [Ok_nam, Ok_some]
    have := rn_le ltr f hp
    have := hu.2.2.2.1
    exact ⟨((hF.d (by decide) (by decide)).sI (by decide)).sI (by decide), ⟨hu.1, hu.2.1, v2, hu.2.2.2.1, by omega⟩, v2, h1, h2⟩
  have he : (gI st 11 = gI st 18) ↔ (gI st 18).toInt = p := by rw [t_eq, h.2.2.1]; exact ⟨fun q => q.symm, fun q => q.symm⟩
  unfold x9_takes
  simp only [Ok_pif]
  rw [he]
  exact ⟨fun c => Ok.callv (r_fail (by decide)) (fun u hu => go u (h.fr hu.1 (by decide) (by decide) (by decide)) hu.1 (fun _ => hu.2) (fun q => absurd c q)), fun c => go st h Fr.rf (fun q => absurd q c) (fun _ => rfl)⟩

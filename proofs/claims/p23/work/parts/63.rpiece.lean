/-- a long without its lowest bit -/
def hlf (v : Int64) : Int64 := (v.toUInt64 >>> ((1 : Int32).toInt64.toUInt64 &&& Int64.toUInt64 63)).toInt64
theorem hlf_nn (v : Int64) : 0 ≤ (hlf v).toInt ∧ (hlf v).toInt = v.toUInt64.toNat / 2 := by
  have e : ((1 : Int32).toInt64.toUInt64 &&& Int64.toUInt64 63) = 1 := by decide
  unfold hlf
  rw [e]
  have h : (v.toUInt64 >>> 1).toNat = v.toUInt64.toNat / 2 := by
    rw [UInt64.toNat_shiftRight]
    show v.toUInt64.toNat >>> 1 = _
    rw [Nat.shiftRight_eq_div_pow]
  have h2 := v.toUInt64.toNat_lt
  have h3 : ((v.toUInt64 >>> 1).toInt64).toInt = ((v.toUInt64 >>> 1).toNat : Int) := by
    rw [← Int64.toInt_toBitVec]
    show (v.toUInt64 >>> 1).toBitVec.toInt = _
    rw [BitVec.toInt_eq_toNat_cond]
    show (if 2 * (v.toUInt64 >>> 1).toNat < 2 ^ 64 then _ else _) = _
    rw [if_pos (by rw [h]; omega)]
    rfl
  rw [h3, h]
  omega
/-- a key's number -/
def pnum (v : Int64) : Int32 := if hlf v ≤ 30 then (hlf v).toInt32 else 0
theorem pnum_r (v : Int64) : 0 ≤ (pnum v).toInt ∧ (pnum v).toInt ≤ 30 := by
  unfold pnum
  have h := (hlf_nn v).1
  by_cases c : hlf v ≤ 30
  · rw [if_pos c]
    rw [j_le] at c
    have c : (hlf v).toInt ≤ 30 := c
    have e : ((hlf v).toInt32).toInt = (hlf v).toInt := by
      rw [Int64.toInt_toInt32]
      exact t_bm (by omega) (by omega)
    omega
  · rw [if_neg c]
    decide
/-- a varint's number, unfolded -/
def punf (v : Int64) : Int64 := hlf v ^^^ (-(v &&& 1))
/-- the fault of a piece -/
noncomputable def pfl (st : RS) (m : Nat) (num lg : Int32) (short : Prop) (a b : Int32) (v : Int64) (last gs : Int32) : Int32 :=
  pif (num = 0) 2 (pif short 3 (pif (hasN st m num.toNatClampNeg ∧ ¬ (lg = 1 ↔ 4 < (gF st 1 (31 * m + num.toNatClampNeg)).toInt)) 4 (pif (hasN st m num.toNatClampNeg ∧ (((gF st 1 (31 * m + num.toNatClampNeg)).toInt < 5 ∧ ¬ ofN v (gF st 1 (31 * m + num.toNatClampNeg))) ∨ (gF st 1 (31 * m + num.toNatClampNeg) = 5 ∧ ¬ (b.toInt - a.toInt ≤ 12 ∧ TxN (gF st 30) a.toNatClampNeg b.toNatClampNeg)))) 5 (pif (num.toInt ≤ last.toInt) 6 (pif (hasN st m num.toNatClampNeg ∧ 0 < (gF st 2 (31 * m + num.toNatClampNeg)).toInt ∧ ((gs >>> (gF st 2 (31 * m + num.toNatClampNeg) &&& 31)) &&& 1) = 1) 7 0)))))
theorem r_piece177 {m last gs sh s0 : Int32} {st : RS} (h1 : 0 ≤ m.toInt) (h2 : m.toInt < 8) (h3 : 0 ≤ (gI st 33).toInt) (h4 : (gI st 33).toInt ≤ 30) (hlg : gI st 34 = 0 ∨ gI st 34 = 1) (ha : 0 ≤ (gI st 35).toInt) (ha2 : (gI st 35).toInt ≤ 160) (hb : 0 ≤ s0.toInt) (hb2 : s0.toInt ≤ 160) :
    Ok (x9_piece_177 m last gs sh s0 st) (fun t => t = sI (sI st 36 s0) 38 (pfl st m.toNatClampNeg (gI st 33) (gI st 34) (sh ≠ 0) (gI st 35) s0 (gJ st 37) last gs)) := by
  have e := i31 h1 h2 h3 h4
  have en := i31n h1 h2 h3 h4
  obtain ⟨st1, e1⟩ : ∃ st1, st1 = sI (sI st 36 s0) 38 0 := ⟨_, rfl⟩
  have e33 : gI st1 33 = gI st 33 := by rw [e1]; rfl
  have e34 : gI st1 34 = gI st 34 := by rw [e1]; rfl
  have e35 : gI st1 35 = gI st 35 := by rw [e1]; rfl
  have e36 : gI st1 36 = s0 := by rw [e1]; rfl
  have e37 : gJ st1 37 = gJ st 37 := by rw [e1]; rfl
  have eF : ∀ k, gF st1 k = gF st k := fun k => by rw [e1]; rfl
  have eH : hasN st1 m.toNatClampNeg (gI st 33).toNatClampNeg = hasN st m.toNatClampNeg (gI st 33).toNatClampNeg := by unfold hasN; rw [eF, eF]
  have eS : ∀ v, sI st1 38 v = sI (sI st 36 s0) 38 v := fun v => by rw [e1, sI_sI]
  have eZ : st1 = sI (sI st 36 s0) 38 0 := e1
  unfold x9_piece_177
  simp only [Ok_nam, ← e1]
  have hH := r_has (n := gI st1 33) (st := st1) h1 h2
  rw [e33, eH] at hH
  rw [e33]
  -- what stands behind a number that is not there yet
  have h345 : ∀ (kn : Int32), (kn = 1 ∧ hasN st m.toNatClampNeg (gI st 33).toNatClampNeg ∨ kn = 0 ∧ ¬ hasN st m.toNatClampNeg (gI st 33).toNatClampNeg) → Ok (x9_piece_345 last gs kn (gF st 2 (31 * m.toNatClampNeg + (gI st 33).toNatClampNeg)) st1) (fun t => t = sI (sI st 36 s0) 38 (pif ((gI st 33).toInt ≤ last.toInt) 6 (pif (hasN st m.toNatClampNeg (gI st 33).toNatClampNeg ∧ 0 < (gF st 2 (31 * m.toNatClampNeg + (gI st 33).toNatClampNeg)).toInt ∧ ((gs >>> (gF st 2 (31 * m.toNatClampNeg + (gI st 33).toNatClampNeg) &&& 31)) &&& 1) = 1) 7 0))) := by
    intro kn hk
    unfold x9_piece_345
    simp only [Ok_pif, Ok_nam, Ok_some, e33, eS]
    refine ⟨fun c => ⟨fun k0 => ?_, fun k0 => ⟨fun g0 => ?_, fun g0 => ⟨fun b1 => ?_, fun b1 => ?_⟩⟩⟩, fun c => ?_⟩
    · rw [pif_neg (by rw [t_lt] at c; omega), pif_neg (fun h => by rcases hk with ⟨k1, _⟩ | ⟨_, k2⟩; rw [k0] at k1; exact absurd k1 (by decide); exact k2 h.1)]; exact eZ
    · rw [pif_neg (by rw [t_lt] at c; omega), pif_neg (fun h => by rw [t_le] at g0; have : (gF st 2 (31 * m.toNatClampNeg + (gI st 33).toNatClampNeg)).toInt ≤ 0 := g0; omega)]; exact eZ
    · rw [pif_neg (by rw [t_lt] at c; omega), pif_pos ⟨by rcases hk with ⟨_, k2⟩ | ⟨k1, _⟩; exact k2; exact absurd k1 k0, by rw [t_le] at g0; have : ¬ (gF st 2 (31 * m.toNatClampNeg + (gI st 33).toNatClampNeg)).toInt ≤ 0 := g0; omega, b1⟩]
    · rw [pif_neg (by rw [t_lt] at c; omega), pif_neg (fun h => b1 h.2.2)]; exact eZ
    · rw [pif_pos (by rw [t_lt] at c; omega)]
  refine Ok.bp hH (fun hk => ?_) (fun hk => ?_)
  · simp only [Ok_gd, Ok_nam, Ok_pif, Ok_some, e33, eF, en, t_in, e, eS]
    refine ⟨by omega, by omega, fun n0 => ?_, fun n0 => ⟨fun s0' => ⟨fun h => absurd h (by decide), fun _ => ?_⟩, fun s0' => ?_⟩⟩
    · unfold pfl; rw [pif_pos n0]
    · have h287 : (gI st 34 = 1 ↔ 4 < (gF st 1 (31 * m.toNatClampNeg + (gI st 33).toNatClampNeg)).toInt) → Ok (x9_piece_287 last gs 1 (gF st 1 (31 * m.toNatClampNeg + (gI st 33).toNatClampNeg)) (gF st 2 (31 * m.toNatClampNeg + (gI st 33).toNatClampNeg)) st1) (fun t => t = sI (sI st 36 s0) 38 (pfl st m.toNatClampNeg (gI st 33) (gI st 34) (sh ≠ 0) (gI st 35) s0 (gJ st 37) last gs)) := by
        intro hl
        unfold pfl
        rw [pif_neg (P := gI st 33 = 0) n0, pif_neg (P := sh ≠ 0) (fun h => h s0'), pif_neg (P := hasN st m.toNatClampNeg (gI st 33).toNatClampNeg ∧ ¬ (gI st 34 = 1 ↔ 4 < (gF st 1 (31 * m.toNatClampNeg + (gI st 33).toNatClampNeg)).toInt)) (fun h => h.2 hl)]
        unfold x9_piece_287
        simp only [Ok_pif]
        refine ⟨fun h => absurd h (by decide), fun _ => ⟨fun k5 => ⟨fun k6 => ?_, fun k6 => ?_⟩, fun k5 => ?_⟩⟩
        · rw [e35, e36]
          have ht := r_isText30 (a := gI st 35) (b := s0) (st := st1) ha ha2 hb hb2
          rw [eF] at ht
          refine Ok.bp ht (fun hy => ?_) (fun hn => ?_)
          · simp only [Ok_pif]
            refine ⟨fun h => absurd h (by decide), fun _ => ?_⟩
            rw [pif_neg (fun h => h.2.elim (fun q => by have h5 : (5 : Int32).toInt ≤ _ := t_le.mp k5; have : (5 : Int32).toInt = 5 := rfl; omega) (fun q => q.2 hy))]
            exact h345 1 (Or.inl ⟨rfl, hk⟩)
          · simp only [Ok_pif]
            refine ⟨fun _ => ?_, fun h => by simp at h⟩
            rw [pif_pos ⟨hk, Or.inr ⟨k6, hn⟩⟩]
            unfold x9_piece_337
            simp only [Ok_nam, Ok_some, eS]
        · rw [pif_neg (fun h => h.2.elim (fun q => by have h5 : (5 : Int32).toInt ≤ _ := t_le.mp k5; have : (5 : Int32).toInt = 5 := rfl; omega) (fun q => k6 q.1))]
          exact h345 1 (Or.inl ⟨rfl, hk⟩)
        · rw [e37]
          refine Ok.bp r_isOf (fun hy => ?_) (fun hn => ?_)
          · simp only [Ok_pif]
            refine ⟨fun h => absurd h (by decide), fun _ => ?_⟩
            rw [pif_neg (fun h => h.2.elim (fun q => q.2 hy) (fun q => k5 (by rw [q.1]; decide)))]
            exact h345 1 (Or.inl ⟨rfl, hk⟩)
          · simp only [Ok_pif]
            refine ⟨fun _ => ?_, fun h => by simp at h⟩
            rw [pif_pos ⟨hk, Or.inl ⟨by rw [t_le] at k5; have : ¬ (5 : Int) ≤ (gF st 1 (31 * m.toNatClampNeg + (gI st 33).toNatClampNeg)).toInt := k5; omega, hn⟩⟩]
            unfold x9_piece_337
            simp only [Ok_nam, Ok_some, eS]
      unfold x9_piece_276
      rw [t_le, show (4 : Int32).toInt = 4 from rfl]
      simp only [Ok_pif, Ok_nam, Ok_some, e34, eS]
      refine ⟨fun k4 => ⟨fun l0 => h287 ⟨fun h => ?_, fun h => by omega⟩, fun l0 => ?_⟩, fun k4 => ⟨fun l0 => h287 ⟨fun h => by omega, fun h => l0⟩, fun l0 => ?_⟩⟩
      · rw [l0] at h; exact absurd h (by decide)
      · unfold pfl
        rw [pif_neg n0, pif_neg (by rw [s0']; exact fun h => h rfl), pif_pos ⟨hk, fun h => by have := h.mp (hlg.resolve_left l0); omega⟩]
      · unfold pfl
        rw [pif_neg n0, pif_neg (by rw [s0']; exact fun h => h rfl), pif_pos ⟨hk, fun h => l0 (h.mpr (by omega))⟩]
    · unfold pfl; rw [pif_neg n0, pif_pos s0']
  · simp only [Ok_gd, Ok_nam, Ok_pif, Ok_some, e33, eF, en, t_in, e, eS]
    refine ⟨by omega, by omega, fun n0 => ?_, fun n0 => ⟨fun s0' => ⟨fun _ => ?_, fun h => by simp at h⟩, fun s0' => ?_⟩⟩
    · unfold pfl; rw [pif_pos n0]
    · unfold pfl
      rw [pif_neg (P := gI st 33 = 0) n0, pif_neg (P := sh ≠ 0) (fun h => h s0'), pif_neg (P := hasN st m.toNatClampNeg (gI st 33).toNatClampNeg ∧ _) (fun h => hk h.1), pif_neg (P := hasN st m.toNatClampNeg (gI st 33).toNatClampNeg ∧ (_ ∨ _)) (fun h => hk h.1)]
      unfold x9_piece_287
      simp only [Ok_pif]
      exact ⟨fun _ => h345 0 (Or.inr ⟨rfl, hk⟩), fun h => by simp at h⟩
    · unfold pfl; rw [pif_neg n0, pif_pos s0']

/-- lengths of the records -/
def RcI (st : RS) : Prop := ∀ r : Nat, r < 4 → 0 ≤ (gF st 29 r).toInt ∧ (gF st 29 r).toInt ≤ 120
theorem RcI.fr {st t : RS} (h : RcI st) (e : gF t 29 = gF st 29) : RcI t := by
  unfold RcI at *
  rw [e]
  exact h
theorem SndS.fr {st t : RS} {f : Nat → Int32} (h1 : gF t 1 = gF st 1) (h3 : gF t 3 = gF st 3) (h8 : gF t 8 = gF st 8) : ∀ (z m a b : Nat), SndS st f z m a b → SndS t f z m a b := by
  intro z
  induction z with
  | zero => intro m a b h; exact h
  | succ z ih =>
    intro m a b h
    rcases h with h | ⟨k1, k2, a1, a2, a3, a4, a5, a6⟩
    · exact Or.inl h
    · refine Or.inr ⟨k1, k2, a1, a2, a3, ?_, ih _ _ _ a5, ?_⟩
      · unfold hasN at *
        rw [h1, h8]
        exact a4
      · have eH : hasN t m (pnum (vacc f a k1)).toNatClampNeg = hasN st m (pnum (vacc f a k1)).toNatClampNeg := by unfold hasN; rw [h1, h8]
        rw [eH, h1, h3]
        exact fun q1 q2 => ih _ _ _ (a6 q1 q2)
theorem Snd.fr {st t : RS} {f : Nat → Int32} {m a b : Nat} (h : Snd st f m a b) (h1 : gF t 1 = gF st 1) (h3 : gF t 3 = gF st 3) (h8 : gF t 8 = gF st 8) : Snd t f m a b := by
  obtain ⟨z, hz⟩ := h
  exact ⟨z, SndS.fr h1 h3 h8 z m a b hz⟩
/-- the fields that reading may change -/
def rdI : List Nat := [31, 32, 33, 34, 35, 36, 37, 38, 39, 40, 41]
def rdF : List Nat := [30, 42, 43, 44, 45, 46, 47, 48, 49, 50, 51]
/-- what isRead() answers -/
def IrP (st : RS) (r m : Nat) (q : Int32 × RS) : Prop :=
  Fr rdI rdF st q.2 ∧ (∀ k : Nat, (k : Int) < (gF st 29 r).toInt → gF q.2 30 k = gF st 28 (120 * r + k)) ∧ (q.1 = 0 ∨ q.1 = 1 ∧ Snd st (gF q.2 30) m 0 (gF st 29 r).toNatClampNeg ∧ 0 ≤ (gI q.2 41).toInt ∧ (gI q.2 41).toInt ≤ 30 ∧ ∀ k : Nat, (k : Int) < (gI q.2 41).toInt → 0 ≤ (gF q.2 44 k).toInt ∧ (gF q.2 44 k).toInt ≤ (gF q.2 45 k).toInt ∧ (gF q.2 45 k).toInt ≤ (gF st 29 r).toInt)
theorem r_isRead {r m : Int32} {st : RS} (h1 : 0 ≤ r.toInt) (h2 : r.toInt < 4) (hm : mkN st m) (hM : MkI st) (hR : RcI st) : Ok (x9_isRead r m st) (IrP st r.toNatClampNeg m.toNatClampNeg) := by
  obtain ⟨l1, l2⟩ := hR r.toNatClampNeg (by rw [t_nat]; omega)
  unfold x9_isRead
  refine Ok.callv (r_loads h1 h2 l2) (fun t ht => ?_)
  obtain ⟨hF, hb⟩ := ht
  have e0 : gF t 0 = gF st 0 := (hF.2 0 (by decide)).1
  have e1 : gF t 1 = gF st 1 := (hF.2 1 (by decide)).1
  have e3 : gF t 3 = gF st 3 := (hF.2 3 (by decide)).1
  have e8 : gF t 8 = gF st 8 := (hF.2 8 (by decide)).1
  have e29 : gF t 29 = gF st 29 := (hF.2 29 (by decide)).1
  simp only [Ok_gd, t_in, e29]
  refine ⟨by omega, Ok.call (r_reads l1 l2 ⟨hm.1, hm.2.1, by rw [e0]; exact hm.2.2⟩ (hM.fr e0 e1 e3 e8 (hF.2 6 (by decide)).2)) (fun q u hu => ?_)⟩
  obtain ⟨hFu, hu⟩ := hu
  have u30 : gF u 30 = gF t 30 := (hFu.2 30 (by decide)).1
  have n29 : ((gF st 29 r.toNatClampNeg).toNatClampNeg : Int) = (gF st 29 r.toNatClampNeg).toInt := by rw [t_nat (gF st 29 r.toNatClampNeg)]; omega
  simp only [Ok_gd, Ok_some]
  refine ⟨?_, (hF.d rfl rfl).tr (hFu.d rfl rfl), fun k hk => by show gF u 30 k = _; rw [u30]; exact hb k hk, ?_⟩
  · rcases hu with hu | hu
    · have hu : q = 0 := hu
      rw [hu]; decide
    · have hu : q = 1 := hu.1
      rw [hu]; decide
  · rcases hu with hu | ⟨u1, u2, u3, u4, u5⟩
    · exact Or.inl hu
    · refine Or.inr ⟨u1, ?_, u3, u4, fun k hk => ?_⟩
      · show Snd st (gF u 30) _ _ _
        rw [u30]
        exact u2.fr e1.symm e3.symm e8.symm
      · have := u5 k hk
        rw [n29] at this
        exact this
theorem r_read53 (m : Int32) (st : RS) (h1 : 0 ≤ m.toInt) (h2 : m.toInt < 8) (h3 : (gI st 41).toInt ≤ 30) : ∀ (n : Nat) (c l : Int32), 0 ≤ l.toInt → l.toInt ≤ 64 → (64 - l.toInt).toNat < n → Ok (x9_read_53 n m c l st) (fun q => q.2 = st) := by
  intro n
  induction n with
  | zero => intro c l a b d; omega
  | succ n ih =>
    intro c l a b d
    rw [x9_read_53_s]
    simp only [Ok_pif, Ok_gd, Ok_some, t_le, t_in]
    refine ⟨fun _ => trivial, fun q => ⟨by omega, ?_⟩⟩
    have e : (l + 1).toInt = l.toInt + 1 := by rw [t_add (by simp; omega) (by simp; omega)]; rfl
    generalize l + 1 = l' at e ⊢
    refine Ok.bp (r_has h1 h2) (fun _ => ?_) (fun _ => ?_)
    · simp only [Ok_pif, Ok_nam]
      exact ⟨fun h => absurd h (by decide), fun _ => ih _ l' (by omega) (by omega) (by omega)⟩
    · simp only [Ok_pif, Ok_nam]
      exact ⟨fun _ => ih _ l' (by omega) (by omega) (by omega), fun h => by simp at h⟩
theorem r_kept31 (m : Int32) (st : RS) (h1 : 0 ≤ m.toInt) (h2 : m.toInt < 8) (h3 : (gI st 41).toInt ≤ 30) : ∀ (n : Nat) (c l : Int32), 0 ≤ l.toInt → l.toInt ≤ 64 → (64 - l.toInt).toNat < n → Ok (x9_kept_31 n m c l st) (fun q => q.2 = st) := by
  intro n
  induction n with
  | zero => intro c l a b d; omega
  | succ n ih =>
    intro c l a b d
    rw [x9_kept_31_s]
    simp only [Ok_pif, Ok_gd, Ok_some, t_le, t_in]
    refine ⟨fun _ => trivial, fun q => ⟨by omega, ?_⟩⟩
    have e : (l + 1).toInt = l.toInt + 1 := by rw [t_add (by simp; omega) (by simp; omega)]; rfl
    generalize l + 1 = l' at e ⊢
    refine Ok.bp (r_has h1 h2) (fun _ => ?_) (fun _ => ?_)
    · simp only [Ok_pif, Ok_nam]
      exact ⟨fun h => absurd h (by decide), fun _ => ih _ l' (by omega) (by omega) (by omega)⟩
    · simp only [Ok_pif, Ok_nam]
      exact ⟨fun _ => ih _ l' (by omega) (by omega) (by omega), fun h => by simp at h⟩
/-- the place of a piece, or none -/
def PoP (st : RS) (q : Int32 × RS) : Prop := q.2 = st ∧ (q.1 = -1 ∨ 0 ≤ q.1.toInt ∧ q.1.toInt < (gI st 41).toInt)
theorem r_pieceOf2 (x : Int32) (st : RS) (h3 : (gI st 41).toInt ≤ 30) : ∀ (n : Nat) (l : Int32), 0 ≤ l.toInt → l.toInt ≤ 64 → (64 - l.toInt).toNat < n → Ok (x9_pieceOf_2 n x l st) (PoP st) := by
  intro n
  induction n with
  | zero => intro l a b d; omega
  | succ n ih =>
    intro l a b d
    rw [x9_pieceOf_2_s]
    simp only [Ok_pif, Ok_gd, Ok_some, Ok_nam, t_le, t_in]
    have e : (l + 1).toInt = l.toInt + 1 := by rw [t_add (by simp; omega) (by simp; omega)]; rfl
    generalize l + 1 = l' at e ⊢
    exact ⟨fun _ => ⟨rfl, Or.inl rfl⟩, fun q => ⟨by omega, fun _ => ⟨rfl, Or.inr ⟨a, by show l.toInt < _; omega⟩⟩, fun _ => ih l' (by omega) (by omega) (by omega)⟩⟩
theorem r_pieceOf {x : Int32} {st : RS} (h3 : (gI st 41).toInt ≤ 30) : Ok (x9_pieceOf x st) (PoP st) := r_pieceOf2 x st h3 fuel 0 (by decide) (by decide) (by decide)
/-- what stands of the reference between calls: makes and records and the tape's length -/
def RI (st : RS) : Prop := MkI st ∧ RcI st ∧ 0 ≤ (gI st 10).toInt ∧ (gI st 10).toInt ≤ 400
/-- the makes' fields and the tape stay -/
def kpI : List Nat := [11, 12, 13, 14, 15, 16, 17, 18, 27, 31, 32, 33, 34, 35, 36, 37, 38, 39, 40, 41, 56]
def kpF : List Nat := [28, 29, 30, 42, 43, 44, 45, 46, 47, 48, 49, 50, 51, 52, 53, 54, 55, 57, 58]
/-- a call on records: makes and tape as they were -/
def Kp (st t : RS) : Prop := Fr kpI kpF st t ∧ RcI t
theorem Kp.ri {st t : RS} (h : Kp st t) (hI : RI st) : RI t := ⟨hI.1.fr (h.1.2 0 (by decide)).1 (h.1.2 1 (by decide)).1 (h.1.2 3 (by decide)).1 (h.1.2 8 (by decide)).1 (h.1.2 6 (by decide)).2, h.2, by rw [(h.1.1 10 (by decide)).1]; exact hI.2.2.1, by rw [(h.1.1 10 (by decide)).1]; exact hI.2.2.2⟩
theorem Kp.rf {st : RS} (h : RcI st) : Kp st st := ⟨Fr.rf, h⟩
theorem r_read {r m : Int32} {st : RS} (hI : RI st) : Ok (x9_read r m st) (fun q => Kp st q.2) := by
  unfold x9_read
  refine Ok.bp r_isRecord (fun hr => ?_) (fun _ => ?_)
  · simp only [Ok_pif, Ok_some]
    refine ⟨fun h => absurd h (by decide), fun _ => Ok.bp r_isMake (fun hm => ?_) (fun _ => ?_)⟩
    · simp only [Ok_pif, Ok_some]
      refine ⟨fun h => absurd h (by decide), fun _ => Ok.call (r_isRead hr.1 hr.2 hm hI.1 hI.2.1) (fun q t hq => ?_)⟩
      obtain ⟨hF, hb, hq⟩ := hq
      have hF : Fr rdI rdF st t := hF
      have e29 : gF t 29 = gF st 29 := (hF.2 29 (by decide)).1
      simp only [Ok_pif, Ok_some, Ok_nam]
      have hK : Kp st (sI (sI t 15 (gI t 39)) 16 (gI (sI t 15 (gI t 39)) 40)) := ⟨((hF.d (I' := kpI) (F' := kpF) (by decide) (by decide)).sI (by decide)).sI (by decide), hI.2.1.fr e29⟩
      refine ⟨fun _ => hK, fun hne => ?_⟩
      rcases hq with hq | ⟨_, _, _, h4, _⟩
      · exact absurd hq hne
      · exact (r_read53 m _ hm.1 hm.2.1 (show (gI (sI (sI t 15 (gI t 39)) 16 (gI (sI t 15 (gI t 39)) 40)) 41).toInt ≤ 30 from h4) fuel 0 0 (by decide) (by decide) (by decide)).mono (fun q hq => by rw [hq]; exact hK)
    · simp only [Ok_pif, Ok_some]
      exact ⟨fun _ => Kp.rf hI.2.1, fun h => by simp at h⟩
  · simp only [Ok_pif, Ok_some]
    exact ⟨fun _ => Kp.rf hI.2.1, fun h => by simp at h⟩
theorem r_kept {r m : Int32} {st : RS} (hI : RI st) : Ok (x9_kept r m st) (fun q => Kp st q.2) := by
  unfold x9_kept
  refine Ok.bp r_isRecord (fun hr => ?_) (fun _ => ?_)
  · simp only [Ok_pif, Ok_some]
    refine ⟨fun h => absurd h (by decide), fun _ => Ok.bp r_isMake (fun hm => ?_) (fun _ => ?_)⟩
    · simp only [Ok_pif, Ok_some]
      refine ⟨fun h => absurd h (by decide), fun _ => Ok.call (r_isRead hr.1 hr.2 hm hI.1 hI.2.1) (fun q t hq => ?_)⟩
      obtain ⟨hF, hb, hq⟩ := hq
      have hF : Fr rdI rdF st t := hF
      have e29 : gF t 29 = gF st 29 := (hF.2 29 (by decide)).1
      simp only [Ok_pif, Ok_some, Ok_nam]
      have hK : Kp st t := ⟨hF.d (I' := kpI) (F' := kpF) (by decide) (by decide), hI.2.1.fr e29⟩
      refine ⟨fun _ => hK, fun hne => ?_⟩
      rcases hq with hq | ⟨_, _, _, h4, _⟩
      · exact absurd hq hne
      · exact (r_kept31 m _ hm.1 hm.2.1 h4 fuel 0 0 (by decide) (by decide) (by decide)).mono (fun q hq => by rw [hq]; exact hK)
    · simp only [Ok_pif, Ok_some]
      exact ⟨fun _ => Kp.rf hI.2.1, fun h => by simp at h⟩
  · simp only [Ok_pif, Ok_some]
    exact ⟨fun _ => Kp.rf hI.2.1, fun h => by simp at h⟩
theorem r_isField {m n : Int32} {st : RS} : Ok (x9_isField m n st) (BP (mkN st m ∧ 0 < n.toInt ∧ n.toInt < 31 ∧ gF st 8 (31 * m.toNatClampNeg + n.toNatClampNeg) ≠ 0) st) := by
  unfold x9_isField
  refine Ok.bp r_isMake (fun hm => ?_) (fun hm => ?_)
  · simp only [Ok_pif, Ok_gd, Ok_some]
    refine ⟨fun h => absurd h (by decide), fun _ => ?_⟩
    rw [t_le, t_le, show (0 : Int32).toInt = 0 from rfl, show (31 : Int32).toInt = 31 from rfl]
    refine ⟨fun c => BP.n (fun h => by have := h.2.1; omega), fun c => ⟨fun d => BP.n (fun h => by have := h.2.2.1; omega), fun d => ?_⟩⟩
    have e := i31 hm.1 hm.2.1 (show 0 ≤ n.toInt by omega) (by omega)
    have en := i31n hm.1 hm.2.1 (show 0 ≤ n.toInt by omega) (by omega)
    have := hm.1
    have := hm.2.1
    rw [t_in, e, en]
    exact ⟨by omega, fun a => BP.n (fun h => h.2.2.2 a), fun a => BP.y ⟨hm, by omega, by omega, a⟩⟩
  · simp only [Ok_pif, Ok_gd, Ok_some]
    exact ⟨fun _ => BP.n (fun h => hm h.1), fun h => by simp at h⟩
theorem r_plain {m n : Int32} {st : RS} : Ok (x9_plain m n st) (fun q => q.2 = st) := by
  unfold x9_plain
  refine Ok.bp r_isField (fun hm => ?_) (fun hm => ?_)
  · obtain ⟨hm, h3, h4, h5⟩ := hm
    have h1 := hm.1
    have h2 := hm.2.1
    have e := i31 h1 h2 (show 0 ≤ n.toInt by omega) (by omega)
    simp only [Ok_pif, Ok_gd, Ok_some]
    refine ⟨fun h => absurd h (by decide), fun _ => Ok.bp (r_has h1 h2) (fun hy => ?_) (fun hn => ?_)⟩
    · simp only [Ok_pif, Ok_gd, Ok_some, t_in, e]
      exact ⟨fun h => absurd h (by decide), fun _ => ⟨by omega, fun _ => trivial, fun _ => ⟨by omega, trivial⟩⟩⟩
    · simp only [Ok_pif, Ok_gd, Ok_some]
      exact ⟨fun _ => trivial, fun h => by simp at h⟩
  · simp only [Ok_pif, Ok_gd, Ok_some]
    exact ⟨fun _ => trivial, fun h => by simp at h⟩

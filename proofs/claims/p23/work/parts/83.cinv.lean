/-- a String of the class's heap, of one byte a char -/
def StO (g : CS) (s : Nat) : Prop := qk g s = 1 ∧ ((s < 9 ∨ 106 ≤ s) ∧ s < qn g) ∧ qI g s 1 = 0 ∧ ∃ b, qP g s 0 = some b ∧ qk g b = 22 ∧ ql g b ≤ 1000 ∧ ((b < 18 ∨ 106 ≤ b) ∧ b < qn g)
def FdO (g : CS) (f : Nat) : Prop := qk g f = 3 ∧ (106 ≤ f ∧ f < qn g) ∧ (qI g f 0).toInt ≤ 30 ∧ (∃ s, qP g f 4 = some s ∧ StO g s) ∧ ∃ s, qP g f 5 = some s ∧ StO g s
def MkO (g : CS) (m : Nat) : Prop := qk g m = 4 ∧ (106 ≤ m ∧ m < qn g) ∧ ∃ a, qP g m 0 = some a ∧ qk g a = 26 ∧ ql g a = 31 ∧ (106 ≤ a ∧ a < qn g) ∧ ∀ n, n < 31 → ∀ f, qP g a n = some f → FdO g f
def CI1 (g : CS) : Prop := qk g 32 = 11 ∧ qP g 32 0 = some 33 ∧ qP g 32 1 = some 35 ∧ qP g 32 2 = some 44 ∧ qP g 32 3 = some 45 ∧ qP g 32 4 = some 48 ∧ qP g 32 5 = some 58 ∧ qP g 32 6 = some 70 ∧ qP g 32 7 = some 72 ∧ qP g 32 8 = some 74
def CI2 (g : CS) : Prop := qk g 35 = 23 ∧ ql g 35 = 4 ∧ qP g 35 0 = some 36 ∧ qP g 35 1 = some 38 ∧ qP g 35 2 = some 40 ∧ qP g 35 3 = some 42
def CI3 (g : CS) : Prop := qk g 44 = 24 ∧ ql g 44 = 8 ∧ ∀ j, j < 8 → ∀ m, qP g 44 j = some m → MkO g m
def CI4 (g : CS) : Prop := qk g 48 = 6 ∧ qP g 48 0 = some 44 ∧ qP g 48 1 = some 49 ∧ qk g 49 = 25 ∧ ql g 49 = 8 ∧ ∀ j, j < 8 → qP g 49 j = some (50 + j) ∧ qk g (50 + j) = 5
def CI5 (g : CS) : Prop := qk g 58 = 7 ∧ qP g 58 0 = some 44 ∧ qP g 58 1 = some 59 ∧ qP g 58 2 = some 68 ∧ qk g 59 = 25 ∧ ql g 59 = 8 ∧ ∀ j, j < 8 → qP g 59 j = some (60 + j) ∧ qk g (60 + j) = 5
def CI6 (g : CS) : Prop := qk g 70 = 10 ∧ qP g 70 0 = some 44 ∧ qP g 70 1 = some 71 ∧ qk g 71 = 21 ∧ ql g 71 = 1024
def CI7 (g : CS) : Prop := qk g 45 = 9 ∧ qP g 45 0 = some 33 ∧ qP g 45 1 = some 44 ∧ qP g 45 2 = some 46 ∧ qk g 46 = 2 ∧ qI g 46 1 = 0 ∧ ∃ b, qP g 46 0 = some b ∧ qk g b = 22 ∧ 16 ≤ ql g b ∧ ql g b ≤ 900 ∧ 0 ≤ (qI g 46 3).toInt ∧ (qI g 46 3).toInt ≤ ql g b ∧ (b = 47 ∨ 106 ≤ b) ∧ b < qn g ∧ ∀ j, -128 ≤ (qI g b j).toInt ∧ (qI g b j).toInt ≤ 127
def CI8 (g : CS) : Prop := 106 ≤ qn g ∧ (∀ i, i < 9 → qk g i = 1 ∧ qP g i 0 = some (9 + i) ∧ qI g i 1 = 0 ∧ qk g (9 + i) = 22 ∧ ql g (9 + i) = kLen.getD i 0 ∧ ∀ j, qI g (9 + i) j = (kByt.getD i []).getD j 0)
def Rows (g : CS) : Prop := RowI g 36 120 ∧ RowI g 38 120 ∧ RowI g 40 120 ∧ RowI g 42 120 ∧ RowI g 68 0 ∧ RowI g 72 256 ∧ RowI g 74 256
def CI (g : CS) : Prop := CI1 g ∧ CI2 g ∧ CI3 g ∧ CI4 g ∧ CI5 g ∧ CI6 g ∧ CI7 g ∧ CI8 g ∧ RowI g 33 400 ∧ Rows g
/-- ids that calls on records may change -/
def cfL : List Nat := [36, 37, 38, 39, 40, 41, 42, 43, 48, 50, 51, 52, 53, 54, 55, 56, 57, 60, 61, 62, 63, 64, 65, 66, 67, 72, 73, 74, 75]
theorem cfL_r : ∀ i, i ∈ cfL → 32 ≤ i ∧ i < 76 ∧ i ≠ 33 ∧ i ≠ 34 ∧ i ≠ 45 ∧ i ≠ 46 ∧ i ≠ 47 ∧ i ≠ 68 := by decide
theorem StO.fr {g t : CS} {s : Nat} (h : StO g s) (hF : Cf cfL g t) : StO t s := by
  obtain ⟨h1, h2, h3, b, h4, h5, h6, h7⟩ := h
  refine ⟨by rw [hF.k]; exact h1, by rw [hF.1]; exact h2, ?_, b, by rw [hF.p]; exact h4, by rw [hF.k]; exact h5, by rw [hF.l]; exact h6, by rw [hF.1]; exact h7⟩
  rw [hF.i (fun q => by have := cfL_r s q; omega)]
  exact h3
theorem FdO.fr {g t : CS} {s : Nat} (h : FdO g s) (hF : Cf cfL g t) : FdO t s := by
  obtain ⟨h1, h2, h0, ⟨a, h3, h4⟩, b, h5, h6⟩ := h
  exact ⟨by rw [hF.k]; exact h1, by rw [hF.1]; exact h2, by rw [hF.i (fun q => by have := cfL_r s q; omega)]; exact h0, ⟨a, by rw [hF.p]; exact h3, h4.fr hF⟩, b, by rw [hF.p]; exact h5, h6.fr hF⟩
theorem MkO.fr {g t : CS} {s : Nat} (h : MkO g s) (hF : Cf cfL g t) : MkO t s := by
  obtain ⟨h1, h2, a, h3, h4, h5, h6, h7⟩ := h
  exact ⟨by rw [hF.k]; exact h1, by rw [hF.1]; exact h2, a, by rw [hF.p]; exact h3, by rw [hF.k]; exact h4, by rw [hF.l]; exact h5, by rw [hF.1]; exact h6, fun n hn f hf => (h7 n hn f (by rw [← hF.p]; exact hf)).fr hF⟩
theorem CI.fr {g t : CS} (h : CI g) (hF : Cf cfL g t) (hR : Rows t) : CI t := by
  obtain ⟨h1, h2, h3, h4, h5, h6, h7, h8, h9, -⟩ := h
  have ek := hF.2.2.1
  have el := hF.2.2.2.1
  have ep := hF.2.2.2.2.1
  refine ⟨?_, ?_, ?_, ?_, ?_, ?_, ?_, ?_, h9.fr hF (by decide), hR⟩
  · unfold CI1 at *; rw [ek, ep]; exact h1
  · unfold CI2 at *; rw [ek, ep, el]; exact h2
  · exact ⟨by rw [ek]; exact h3.1, by rw [el]; exact h3.2.1, fun j hj m hm => (h3.2.2 j hj m (by rw [← ep]; exact hm)).fr hF⟩
  · unfold CI4 at *; rw [ek, ep, el]; exact h4
  · unfold CI5 at *; rw [ek, ep, el]; exact h5
  · unfold CI6 at *; rw [ek, ep, el]; exact h6
  · obtain ⟨a1, a2, a3, a4, a5, a6, b, a7, a8, a9, a10, a11, a12, a13, a14, a15⟩ := h7
    have eb : qI t b = qI g b := hF.i (fun q => by have := cfL_r b q; omega)
    unfold CI7
    rw [ek, ep, el, hF.1, hF.i (show 46 ∉ cfL by decide)]
    exact ⟨a1, a2, a3, a4, a5, a6, b, a7, a8, a9, a10, a11, a12, a13, a14, by rw [eb]; exact a15⟩
  · refine ⟨by rw [hF.1]; exact h8.1, fun i hi => ?_⟩
    obtain ⟨a1, a2, a3, a4, a5, a6⟩ := h8.2 i hi
    refine ⟨by rw [ek]; exact a1, by rw [ep]; exact a2, ?_, by rw [ek]; exact a4, by rw [el]; exact a5, ?_⟩
    · rw [hF.i (fun q => by have := cfL_r i q; omega)]; exact a3
    · rw [hF.i (fun q => by have := cfL_r (9 + i) q; omega)]; exact a6
/-- all stands, and only such ids have changed -/
def Sf (g t : CS) : Prop := CI t ∧ Cf cfL g t
theorem Sf.rf {g : CS} (h : CI g) : Sf g g := ⟨h, Cf.rf⟩
theorem Sf.tr {a b c : CS} (h1 : Sf a b) (h2 : Sf b c) : Sf a c := ⟨h2.1, h1.2.tr h2.2⟩
def isRw (r cap : Nat) : Prop := (r = 36 ∨ r = 38 ∨ r = 40 ∨ r = 42) ∧ cap = 120 ∨ (r = 72 ∨ r = 74) ∧ cap = 256
theorem Rows.get {g : CS} {r cap : Nat} (h : Rows g) (hr : isRw r cap) : RowI g r cap := by
  obtain ⟨a1, a2, a3, a4, a5, a6, a7⟩ := h
  rcases hr with ⟨rfl | rfl | rfl | rfl, rfl⟩ | ⟨rfl | rfl, rfl⟩
  · exact a1
  · exact a2
  · exact a3
  · exact a4
  · exact a6
  · exact a7
theorem Rows.set {g t : CS} {r cap : Nat} (h : Rows g) (hr : isRw r cap) (hF : Cf [r, r + 1] g t) (hi : RowI t r cap) : Rows t := by
  obtain ⟨a1, a2, a3, a4, a5, a6, a7⟩ := h
  rcases hr with ⟨rfl | rfl | rfl | rfl, rfl⟩ | ⟨rfl | rfl, rfl⟩
  · exact ⟨hi, a2.fr hF (by decide), a3.fr hF (by decide), a4.fr hF (by decide), a5.fr hF (by decide), a6.fr hF (by decide), a7.fr hF (by decide)⟩
  · exact ⟨a1.fr hF (by decide), hi, a3.fr hF (by decide), a4.fr hF (by decide), a5.fr hF (by decide), a6.fr hF (by decide), a7.fr hF (by decide)⟩
  · exact ⟨a1.fr hF (by decide), a2.fr hF (by decide), hi, a4.fr hF (by decide), a5.fr hF (by decide), a6.fr hF (by decide), a7.fr hF (by decide)⟩
  · exact ⟨a1.fr hF (by decide), a2.fr hF (by decide), a3.fr hF (by decide), hi, a5.fr hF (by decide), a6.fr hF (by decide), a7.fr hF (by decide)⟩
  · exact ⟨a1.fr hF (by decide), a2.fr hF (by decide), a3.fr hF (by decide), a4.fr hF (by decide), a5.fr hF (by decide), hi, a7.fr hF (by decide)⟩
  · exact ⟨a1.fr hF (by decide), a2.fr hF (by decide), a3.fr hF (by decide), a4.fr hF (by decide), a5.fr hF (by decide), a6.fr hF (by decide), hi⟩
theorem isRw.in {r cap : Nat} (h : isRw r cap) : ∀ i, i ∈ [r, r + 1] → i ∈ cfL := by
  rcases h with ⟨rfl | rfl | rfl | rfl, rfl⟩ | ⟨rfl | rfl, rfl⟩ <;> decide
theorem Sf.row {g t : CS} {r cap : Nat} (h : CI g) (hr : isRw r cap) (hF : Cf [r, r + 1] g t) (hi : RowI t r cap) : Sf g t := by
  have hF2 := hF.wk hr.in
  exact ⟨h.fr hF2 (h.2.2.2.2.2.2.2.2.2.set hr hF hi), hF2⟩
theorem Rows.fr {g t : CS} {p : Nat} (h : Rows g) (hF : Cf [p] g t) (hp : p ≠ 36 ∧ p ≠ 38 ∧ p ≠ 40 ∧ p ≠ 42 ∧ p ≠ 68 ∧ p ≠ 72 ∧ p ≠ 74) : Rows t := by
  obtain ⟨a1, a2, a3, a4, a5, a6, a7⟩ := h
  obtain ⟨p1, p2, p3, p4, p5, p6, p7⟩ := hp
  exact ⟨a1.fr hF (by simp; omega), a2.fr hF (by simp; omega), a3.fr hF (by simp; omega), a4.fr hF (by simp; omega), a5.fr hF (by simp; omega), a6.fr hF (by simp; omega), a7.fr hF (by simp; omega)⟩
/-- an object that isn't a row -/
theorem Sf.ob {g t : CS} {p : Nat} (h : CI g) (hF : Cf [p] g t) (hp : p ∈ cfL) (hq : p ≠ 36 ∧ p ≠ 38 ∧ p ≠ 40 ∧ p ≠ 42 ∧ p ≠ 68 ∧ p ≠ 72 ∧ p ≠ 74) : Sf g t := by
  have hF2 : Cf cfL g t := hF.wk (fun i hi => by rw [List.mem_singleton.mp hi]; exact hp)
  exact ⟨h.fr hF2 (h.2.2.2.2.2.2.2.2.2.fr hF hq), hF2⟩
/-- a piece of the reader or the writer -/
def isPc (p : Nat) : Prop := 50 ≤ p ∧ p < 58 ∨ 60 ≤ p ∧ p < 68
theorem isPc.in {p : Nat} (h : isPc p) : p ∈ cfL ∧ (p ≠ 36 ∧ p ≠ 38 ∧ p ≠ 40 ∧ p ≠ 42 ∧ p ≠ 68 ∧ p ≠ 72 ∧ p ≠ 74) := by
  refine ⟨?_, by unfold isPc at h; omega⟩
  rcases (show p = 50 ∨ p = 51 ∨ p = 52 ∨ p = 53 ∨ p = 54 ∨ p = 55 ∨ p = 56 ∨ p = 57 ∨ p = 60 ∨ p = 61 ∨ p = 62 ∨ p = 63 ∨ p = 64 ∨ p = 65 ∨ p = 66 ∨ p = 67 by unfold isPc at h; omega) with rfl | rfl | rfl | rfl | rfl | rfl | rfl | rfl | rfl | rfl | rfl | rfl | rfl | rfl | rfl | rfl <;> decide
theorem CI.pc {g : CS} {p : Nat} (h : CI g) (hp : isPc p) : qk g p = 5 := by
  rcases hp with ⟨h1, h2⟩ | ⟨h1, h2⟩
  · have := (h.2.2.2.1.2.2.2.2.2 (p - 50) (by omega)).2
    rw [show 50 + (p - 50) = p by omega] at this
    exact this
  · have := (h.2.2.2.2.1.2.2.2.2.2.2 (p - 60) (by omega)).2
    rw [show 60 + (p - 60) = p by omega] at this
    exact this
/-- a varint is taken: the place goes on, the piece's other ints stay -/
def TvP (g : CS) (p : Nat) (to : Int32) (t : CS) : Prop := Cf [p] g t ∧ (qI g p 6).toInt ≤ (qI t p 6).toInt ∧ ((qI t p 6).toInt ≤ to.toInt ∨ qI t p 6 = qI g p 6) ∧ (∀ k, k ≠ 6 → k ≠ 7 → qI t p k = qI g p k) ∧ qJ t p = qJ g p
theorem c_takeV5 (p row cap : Nat) (to : Int32) (g0 : CS) (hp : qk g0 p = 5) (hpr : p ≠ row ∧ p ≠ row + 1) (h0 : 0 ≤ (qI g0 p 6).toInt) (hto : to.toInt ≤ 1000) : ∀ (z i : Nat) (v : Int64) (x : Int32) (g : CS), x.toInt = i → i ≤ 10 → 10 - i < z → TvP g0 p to g → RowI g row cap → Ok (fX2_takeVarint_5 p z (some row) to v x g) (fun q => TvP g0 p to q.2) := by
  intro z
  induction z with
  | zero => intro i v x g a b c; omega
  | succ z ih =>
    intro i v x g hx hi hz hT h
    have e := inc (x := x) (by omega) (by omega)
    have hk : qk g p = 5 := by rw [hT.1.k]; exact hp
    rw [fX2_takeVarint_5_s]
    unfold fX2_takeVarint_32 fX2_takeVarint_60 fX2_takeVarint_53
    generalize x + 1 = x' at e ⊢
    have e7 : TvP g0 p to (wI g p 7 1) := by
      obtain ⟨a1, a2, a3, a4, a5⟩ := hT
      have e6 : qI (wI g p 7 1) p 6 = qI g p 6 := by rw [qI_wI, if_pos rfl, if_neg (by decide)]
      refine ⟨a1.wI (by simp), by rw [e6]; exact a2, by rw [e6]; exact a3, fun k k1 k2 => ?_, a5⟩
      rw [qI_wI, if_pos rfl, if_neg k2]
      exact a4 k k1 k2
    have hno : ∀ (b : Int32) (w : CS), w = g → i < 10 → (qI g p 6).toInt < to.toInt → (qk w p = 5 ∧ (128 ≤ b → Ok (fX2_takeVarint_5 p z (some row) to (v ||| ((b.toInt64 &&& 127) <<< ((7 * x).toInt64 &&& 63))) x' (wI w p 6 (qI w p 6 + 1))) (fun q => TvP g0 p to q.2)) ∧ (¬ 128 ≤ b → TvP g0 p to (wI w p 6 (qI w p 6 + 1)))) := by
      intro b w hw hi10 hlt
      subst hw
      have e6 := inc (x := qI w p 6) (by have := hT.2.1; omega) (by omega)
      have hT2 : TvP g0 p to (wI w p 6 (qI w p 6 + 1)) := by
        obtain ⟨a1, a2, a3, a4, a5⟩ := hT
        have e66 : qI (wI w p 6 (qI w p 6 + 1)) p 6 = qI w p 6 + 1 := by rw [qI_wI, if_pos rfl, if_pos rfl]
        refine ⟨a1.wI (by simp), by rw [e66]; omega, Or.inl (by rw [e66]; omega), fun k k1 k2 => ?_, a5⟩
        rw [qI_wI, if_pos rfl, if_neg k1]
        exact a4 k k1 k2
      refine ⟨hk, fun _ => ih (i + 1) _ x' _ (by omega) (by omega) (by omega) hT2 (h.fr (Cf.rf.wI (S := [p]) (by simp)) (by simp; omega)), fun _ => hT2⟩
    simp only [Ok_pif, Ok_some, Ok_gd, Ok_ono, Ok_nam]
    rw [t_le, t_le, show (10 : Int32).toInt = 10 from rfl]
    refine ⟨fun _ => ⟨hk, e7⟩, fun c10 => ⟨hk, fun c => ⟨fun _ => ⟨hk, e7⟩, fun h => by simp at h⟩, fun c => ⟨row, rfl, h.1, Ok.call (c_byteAt h) (fun q t ht => ?_)⟩⟩⟩
    have e2 : t = g := congrArg Prod.snd ht
    simp only [Ok_pif, Ok_some, Ok_gd, Ok_nam]
    have hg := hno q t e2 (by omega) (by omega)
    subst e2
    exact ⟨fun _ => ⟨hk, e7⟩, fun _ => ⟨fun _ => ⟨fun _ => hg, fun _ => ⟨hk, e7⟩⟩, fun _ => hg⟩⟩
theorem c_takeVarint {p row cap : Nat} {to : Int32} {g : CS} (hp : qk g p = 5) (hpr : p ≠ row ∧ p ≠ row + 1) (h0 : 0 ≤ (qI g p 6).toInt) (hto : to.toInt ≤ 1000) (h : RowI g row cap) : Ok (fX2_takeVarint p (some row) to g) (fun q => TvP g p to q.2) := c_takeV5 p row cap to g hp hpr h0 hto fuel 0 0 0 g rfl (by omega) (by unfold fuel; omega) ⟨Cf.rf, Int.le_refl _, Or.inr rfl, fun _ _ _ => rfl, rfl⟩ h
/-- what look() leaves: a body and an end ahead of the end given, a number that may be -/
def LkP (g : CS) (p : Nat) (fr to : Int32) (t : CS) : Prop := Cf [p] g t ∧ fr.toInt ≤ (qI t p 3).toInt ∧ (qI t p 3).toInt ≤ (qI t p 4).toInt ∧ (qI t p 4).toInt ≤ to.toInt
theorem c_look {p row cap : Nat} {fr to : Int32} {g : CS} (hp : qk g p = 5) (hpr : p ≠ row ∧ p ≠ row + 1) (h0 : 0 ≤ fr.toInt) (h1 : fr.toInt ≤ to.toInt) (hto : to.toInt ≤ 1000) (h : RowI g row cap) : Ok (fX2_look p (some row) fr to g) (LkP g p fr to) := by
  unfold fX2_look
  rw [Ok_gd]
  refine ⟨hp, ?_⟩
  simp only [Ok_nam]
  obtain ⟨s1, es⟩ : ∃ s1, s1 = wI (wI (wI (wI (wI (wJ (wI (wI g p 0 0) p 1 0) p 2 0) p 3 fr) p 4 to) p 5 0) p 6 fr) p 7 0 := ⟨_, rfl⟩
  rw [← es]
  have hF1 : Cf [p] g s1 := by rw [es]; exact (((((((Cf.rf.wI (by simp)).wI (by simp)).wJ (by simp)).wI (by simp)).wI (by simp)).wI (by simp)).wI (by simp)).wI (by simp)
  have a3 : qI s1 p 3 = fr := by rw [es]; simp [qI_wI, qI_wJ]
  have a4 : qI s1 p 4 = to := by rw [es]; simp [qI_wI, qI_wJ]
  have a6 : qI s1 p 6 = fr := by rw [es]; simp [qI_wI, qI_wJ]
  have k1 : qk s1 p = 5 := by rw [hF1.k]; exact hp
  have r1 : RowI s1 row cap := h.fr hF1 (by simp; omega)
  refine Ok.call (c_takeVarint k1 hpr (by rw [a6]; exact h0) hto r1) (fun key t ht => ?_)
  obtain ⟨hF2, b6, b6', bk, bj⟩ := ht
  have hF2 : Cf [p] s1 t := hF2
  have c3 : qI t p 3 = fr := (bk 3 (by decide) (by decide)).trans a3
  have c4 : qI t p 4 = to := (bk 4 (by decide) (by decide)).trans a4
  have k2 : qk t p = 5 := by rw [hF2.k]; exact k1
  have b6 : fr.toInt ≤ (qI t p 6).toInt := by rw [← a6]; exact b6
  have b6' : (qI t p 6).toInt ≤ to.toInt := by
    rcases b6' with q | q
    · exact q
    · have q : qI t p 6 = qI s1 p 6 := q
      rw [q, a6]; exact h1
  -- the end of it
  have fin : ∀ (v : Int64) (w : CS), Cf [p] g w → qI w p 3 = fr → qI w p 4 = to → fr.toInt ≤ (qI w p 6).toInt → (qI w p 6).toInt ≤ to.toInt → Ok (fX2_look_65 p to v w) (LkP g p fr to) := by
    intro v w hw w3 w4 w6 w6'
    have kw : qk w p = 5 := by rw [hw.k]; exact hp
    have base : ∀ k x, k ≠ 3 → k ≠ 4 → LkP g p fr to (wI w p k x) := fun k x hk3 hk4 => by
      have e3 : qI (wI w p k x) p 3 = fr := by rw [qI_wI, if_pos rfl, if_neg (Ne.symm hk3)]; exact w3
      have e4 : qI (wI w p k x) p 4 = to := by rw [qI_wI, if_pos rfl, if_neg (Ne.symm hk4)]; exact w4
      exact ⟨hw.wI (by simp), by rw [e3]; omega, by rw [e3, e4]; omega, by rw [e4]; omega⟩
    unfold fX2_look_65
    simp only [Ok_gd, Ok_pif, Ok_some, Ok_nam]
    refine ⟨kw, fun _ => ?_, fun _ => base 5 1 (by decide) (by decide)⟩
    refine Ok.callv (Q := LkP g p fr to) ?_ (fun t ht => by rw [Ok_some]; exact ht)
    unfold fX2_place fX2_place_21 fX2_place_48 fX2_place_99
    simp only [Ok_gd, Ok_pif, Ok_some, Ok_nam, lg_cmp_lt, lg_cmp_le, lg_cmp_eq]
    have kw1 : ∀ x, qk (wI w p 0 x) p = 5 := fun x => kw
    have pl : ∀ (x s0 : Int32), (s0 = 0 ∨ s0 = 1) → LkP g p fr to (wI (wI (wI (wI w p 0 x) p 1 s0) p 3 (qI (wI (wI w p 0 x) p 1 s0) p 6)) p 4 (qI (wI (wI (wI w p 0 x) p 1 s0) p 3 (qI (wI (wI w p 0 x) p 1 s0) p 6)) p 6)) := fun x s0 _ => by
      refine ⟨(((hw.wI (by simp)).wI (by simp)).wI (by simp)).wI (by simp), ?_, ?_, ?_⟩ <;> simp [qI_wI] <;> omega
    have pl5 : ∀ (x s0 : Int32), (s0 = 0 ∨ s0 = 1) → LkP g p fr to (wI (wI (wI (wI (wI w p 0 x) p 1 s0) p 3 (qI (wI (wI w p 0 x) p 1 s0) p 6)) p 4 (qI (wI (wI (wI w p 0 x) p 1 s0) p 3 (qI (wI (wI w p 0 x) p 1 s0) p 6)) p 6)) p 5 3) := fun x s0 _ => by
      refine ⟨((((hw.wI (by simp)).wI (by simp)).wI (by simp)).wI (by simp)).wI (by simp), ?_, ?_, ?_⟩ <;> simp [qI_wI] <;> omega
    have e6 : ∀ (x s0 : Int32), qI (wI (wI (wI (wI w p 0 x) p 1 s0) p 3 (qI (wI (wI w p 0 x) p 1 s0) p 6)) p 4 (qI (wI (wI (wI w p 0 x) p 1 s0) p 3 (qI (wI (wI w p 0 x) p 1 s0) p 6)) p 6)) p 6 = qI w p 6 := fun x s0 => by simp [qI_wI]
    have e1 : ∀ (x s0 : Int32), qI (wI (wI (wI (wI w p 0 x) p 1 s0) p 3 (qI (wI (wI w p 0 x) p 1 s0) p 6)) p 4 (qI (wI (wI (wI w p 0 x) p 1 s0) p 3 (qI (wI (wI w p 0 x) p 1 s0) p 6)) p 6)) p 1 = s0 := fun x s0 => by simp [qI_wI]
    have eJ : ∀ (x s0 : Int32), qJ (wI (wI (wI (wI w p 0 x) p 1 s0) p 3 (qI (wI (wI w p 0 x) p 1 s0) p 6)) p 4 (qI (wI (wI (wI w p 0 x) p 1 s0) p 3 (qI (wI (wI w p 0 x) p 1 s0) p 6)) p 6)) p 2 = qJ w p 2 := fun x s0 => rfl
    have lng : ∀ (x s0 : Int32), (s0 = 0 ∨ s0 = 1) → 0 ≤ (qJ w p 2).toInt → (qJ w p 2).toInt ≤ to.toInt - (qI w p 6).toInt → LkP g p fr to (wI (wI (wI (wI (wI w p 0 x) p 1 s0) p 3 (qI (wI (wI w p 0 x) p 1 s0) p 6)) p 4 (qI (wI (wI (wI w p 0 x) p 1 s0) p 3 (qI (wI (wI w p 0 x) p 1 s0) p 6)) p 6)) p 4 (qI w p 6 + (qJ w p 2).toInt32)) := fun x s0 _ l0 l1 => by
      have e32 : ((qJ w p 2).toInt32).toInt = (qJ w p 2).toInt := by
        rw [Int64.toInt_toInt32]
        exact t_bm (by omega) (by omega)
      have es : (qI w p 6 + (qJ w p 2).toInt32).toInt = (qI w p 6).toInt + (qJ w p 2).toInt := by rw [t_add (by omega) (by omega), e32]
      generalize qI w p 6 + (qJ w p 2).toInt32 = y at es ⊢
      refine ⟨((((hw.wI (by simp)).wI (by simp)).wI (by simp)).wI (by simp)).wI (by simp), ?_, ?_, ?_⟩ <;> simp [qI_wI] <;> omega
    have esub : (to - qI w p 6).toInt = to.toInt - (qI w p 6).toInt := t_sub (by omega) (by omega)
    simp only [e6, e1, eJ]
    refine ⟨fun _ => ⟨kw, base 5 2 (by decide) (by decide)⟩, fun _ => ⟨fun _ => ⟨kw, fun _ => ⟨kw, by decide, fun _ => pl _ 0 (Or.inl rfl), fun h => by simp at h⟩, fun _ => ⟨kw, by decide, fun h => absurd h (by decide), fun _ => ⟨fun _ => ⟨kw, pl5 _ 1 (Or.inr rfl)⟩, fun l0 => ⟨fun l1 => ?_, fun _ => ⟨kw, pl5 _ 1 (Or.inr rfl)⟩⟩⟩⟩⟩, fun _ => ⟨kw, base 5 2 (by decide) (by decide)⟩⟩⟩
    rw [j_lt, show (0 : Int64).toInt = 0 from rfl] at l0
    rw [j_le, j_of, esub] at l1
    exact lng _ 1 (Or.inr rfl) (by omega) (by omega)
  simp only [Ok_pif]
  refine ⟨fun _ => ?_, fun _ => fin key t (hF1.tr hF2) c3 c4 b6 b6'⟩
  refine Ok.call (c_takeVarint k2 hpr (by omega) hto (r1.fr hF2 (by simp; omega))) (fun raw u hu => ?_)
  obtain ⟨hF3, d6, d6', dk, dj⟩ := hu
  have hF3 : Cf [p] t u := hF3
  have d6 : (qI t p 6).toInt ≤ (qI u p 6).toInt := d6
  have d3 : qI u p 3 = fr := (dk 3 (by decide) (by decide)).trans c3
  have d4 : qI u p 4 = to := (dk 4 (by decide) (by decide)).trans c4
  rw [Ok_nam]
  refine fin key _ (((hF1.tr hF2).tr hF3).wJ (by simp)) d3 d4 (by show fr.toInt ≤ (qI u p 6).toInt; omega) ?_
  show (qI u p 6).toInt ≤ to.toInt
  rcases d6' with q | q
  · exact q
  · have q : qI u p 6 = qI t p 6 := q
    rw [q]; exact b6'

/-! class: words that are known, the make that is told -/
theorem w_const {g : CS} {i : Nat} (h8 : CI8 g) (hL : LwI g) (hi : i < 9) : StC (fun j => (kByt.getD i []).getD j 0) 0 (kLen.getD i 0) i g := by
  obtain ⟨a1, a2, a3, a4, a5, a6⟩ := h8.2 i hi
  have hn := h8.1
  have hl := hL.n46
  have h1000 : ∀ i : Nat, i < 9 → kLen.getD i 0 ≤ 1000 := by decide
  exact ⟨⟨a1, ⟨Or.inl hi, by omega⟩, a3, 9 + i, a2, a4, by rw [a5]; exact h1000 i hi, Or.inl (by omega), by omega⟩, 9 + i, a2, a5, fun j _ => by rw [a6, Nat.zero_add], by omega⟩
theorem w_isWord {f : Nat → Int32} {a e s : Nat} {g : CS} (i : Nat) (l : List Int32) (hs : StC f a (e - a) s g) (h8 : CI8 g) (hL : LwI g) (hi : i < 9) (hl : kByt.getD i [] = l) (hk : kLen.getD i 0 = l.length) : Ok (fJ0_equals_9ea2d s (some i) g) (BC (wEq f a e l) g) := by
  refine (w_equals hs (w_const h8 hL hi)).mono (fun q hq => ?_)
  have hi : (e - a = kLen.getD i 0 ∧ ∀ j, j < e - a → f (a + j) = (kByt.getD i []).getD (0 + j) 0) ↔ wEq f a e l := by
    rw [hl, hk]
    unfold wEq
    constructor
    · exact fun q => ⟨q.1, fun j hj => by rw [q.2 j (by omega), Nat.zero_add]⟩
    · exact fun q => ⟨q.1, fun j hj => by rw [q.2 j (by omega), Nat.zero_add]⟩
  unfold BC at *
  rw [← hi]
  exact hq
theorem w_kindOf {f : Nat → Int32} {a e s : Nat} {g : CS} (hs : StC f a (e - a) s g) (h8 : CI8 g) (hL : LwI g) : Ok (fX6_kindOf (some s) g) (fun q => q = (Int32.ofNat (kdW f a e), g)) := by
  unfold fX6_kindOf kdW
  simp only [Ok_ono, Ok_gd]
  refine ⟨s, rfl, hs.1.1, Ok.bc (w_isWord 2 [102, 108, 97, 103] hs h8 hL (by decide) rfl rfl) (fun c => ?_) (fun c => ?_)⟩
  · rw [pif_neg (by decide), Ok_some, pif_pos c]; rfl
  rw [pif_pos rfl, pif_neg c]
  refine Ok.bc (w_isWord 3 [115, 109, 97, 108, 108] hs h8 hL (by decide) rfl rfl) (fun c => ?_) (fun c => ?_)
  · rw [pif_neg (by decide), Ok_some, pif_pos c]; rfl
  rw [pif_pos rfl, pif_neg c]
  refine Ok.bc (w_isWord 4 [105, 110, 116] hs h8 hL (by decide) rfl rfl) (fun c => ?_) (fun c => ?_)
  · rw [pif_neg (by decide), Ok_some, pif_pos c]; rfl
  rw [pif_pos rfl, pif_neg c]
  refine Ok.bc (w_isWord 5 [108, 111, 110, 103] hs h8 hL (by decide) rfl rfl) (fun c => ?_) (fun c => ?_)
  · rw [pif_neg (by decide), Ok_some, pif_pos c]; rfl
  rw [pif_pos rfl, pif_neg c]
  refine Ok.bc (w_isWord 6 [116, 101, 120, 116] hs h8 hL (by decide) rfl rfl) (fun c => ?_) (fun c => ?_)
  · rw [pif_neg (by decide), Ok_some, pif_pos c]; rfl
  rw [pif_pos rfl, pif_neg c]
  refine Ok.bc (w_isWord 7 [114, 101, 99] hs h8 hL (by decide) rfl rfl) (fun c => ?_) (fun c => ?_)
  · rw [pif_neg (by decide), Ok_some, pif_pos c]; rfl
  rw [pif_pos rfl, pif_neg c, Ok_some]
  rfl
/-- what may be written: nothing or a field -/
def Wr (F : Nat) (g : CS) : Prop := F = 46 ∨ (qk g F = 3 ∧ 106 ≤ F ∧ F < qn g)
theorem Wr.n {g : CS} : Wr 46 g := Or.inl rfl
theorem StC.fr {f : Nat → Int32} {a l s F : Nat} {x y : Int} {g t : CS} (h : StC f a l s g) (hT : Tf F x y g t) (h5 : qk g 45 = 9) (hL : LwI g) (hF : Wr F g) : StC f a l s t := by
  obtain ⟨⟨s1, s2, s3, c0, s4, s5, s6, s7⟩, c, c1, c2, c3, c4⟩ := h
  have e1 : c0 = c := by rw [s4] at c1; cases c1; rfl
  subst e1
  obtain ⟨⟨t1, t2⟩, t3, t4, t5, -, -⟩ := hT
  have l1 := hL.1
  have l4 := hL.2.2.2.1
  have n1 : s ≠ 45 := fun q => by rw [q, h5] at s1; cases s1
  have n2 : s ≠ 46 := fun q => by rw [q, l1] at s1; cases s1
  have n3 : s ≠ F := fun q => by
    rcases hF with r | r
    · exact n2 (q.trans r)
    · rw [← q, s1] at r; exact absurd r.1 (by decide)
  have n4 : s ≠ lb g := fun q => by rw [q, l4] at s1; cases s1
  have m1 : c0 ≠ 45 := fun q => by rw [q, h5] at s5; cases s5
  have m2 : c0 ≠ 46 := fun q => by rw [q, l1] at s5; cases s5
  have m3 : c0 ≠ F := fun q => by
    rcases hF with r | r
    · exact m2 (q.trans r)
    · rw [← q, s5] at r; exact absurd r.1 (by decide)
  have eP : qP t s = qP g s := t5 s (by omega) n2 n3
  have eI : qI t s = qI g s := (t4 s (by omega) n1 n2 n3 n4).1
  have eB : qI t c0 = qI g c0 := (t4 c0 (by omega) m1 m2 m3 c4).1
  refine ⟨⟨by rw [(t3 s (by omega)).1]; exact s1, ⟨s2.1, by omega⟩, by rw [eI]; exact s3, c0, by rw [eP]; exact s4, by rw [(t3 c0 (by omega)).1]; exact s5, by rw [(t3 c0 (by omega)).2]; exact s6, ⟨s7.1, by omega⟩⟩, c0, by rw [eP]; exact c1, by rw [(t3 c0 (by omega)).2]; exact c2, fun j hj => by rw [eB]; exact c3 j hj, ?_⟩
  rcases t2 with q | q
  · rw [q]; exact c4
  · omega
/-- what its text may say -/
def Fx (x : FdT) : Prop := (1 ≤ fNum x ∧ fNum x ≤ 30) ∧ (fKd x ≠ 6 → fIn x = -1) ∧ (fKd x = 0 ∨ fKd x = 6 → fPv x = 0)
/-- a field as the class keeps it -/
def FdH (f : Nat → Int32) (x : FdT) (F : Nat) (g : CS) : Prop := (qk g F = 3 ∧ 106 ≤ F ∧ F < qn g) ∧ Fx x ∧ (qI g F 0).toInt = fNum x ∧ (qI g F 1).toInt = fKd x ∧ (qI g F 2).toInt = fGr x ∧ (qI g F 3).toInt = fIn x ∧ (∃ s, qP g F 4 = some s ∧ StC f (fNa x) (fNb x - fNa x) s g) ∧ (∃ s l, qP g F 5 = some s ∧ StC f (fTa x) l s g ∧ (fKd x = 5 → (l : Int) = fPv x) ∧ (fKd x ≠ 5 → l = 0)) ∧ (fKd x ≠ 5 → (qJ g F 6).toInt = fPv x) ∧ (fKd x = 5 → (qJ g F 6).toInt = 0)
theorem FdH.fr {f : Nat → Int32} {z : FdT} {H F : Nat} {x y : Int} {g t : CS} (h : FdH f z H g) (hT : Tf F x y g t) (h5 : qk g 45 = 9) (hL : LwI g) (hF : Wr F g) (hne : H ≠ F) : FdH f z H t := by
  obtain ⟨⟨h1, h2, h3⟩, h4, h6, h7, h8, h9, ⟨s, h10, h11⟩, ⟨s', l, h12, h13, h14⟩, h15⟩ := h
  obtain ⟨⟨t1, t2⟩, t3, t4, t5, -, -⟩ := id hT
  have l1 := hL.1
  have l4 := hL.2.2.2.1
  have n4 : H ≠ lb g := fun q => by rw [q, l4] at h1; cases h1
  have eP : qP t H = qP g H := t5 H (by omega) (by omega) hne
  have eI := t4 H (by omega) (by omega) (by omega) hne n4
  exact ⟨⟨by rw [(t3 H (by omega)).1]; exact h1, h2, by omega⟩, h4, by rw [eI.1]; exact h6, by rw [eI.1]; exact h7, by rw [eI.1]; exact h8, by rw [eI.1]; exact h9, ⟨s, by rw [eP]; exact h10, h11.fr hT h5 hL hF⟩, ⟨s', l, by rw [eP]; exact h12, h13.fr hT h5 hL hF, h14⟩, fun q => by rw [eI.2]; exact h15.1 q, fun q => by rw [eI.2]; exact h15.2 q⟩
/-- the make that is told: mk with its row ar -/
def MbI (f : Nat → Int32) (L : List FdT) (mk ar : Nat) (g : CS) : Prop := (qk g mk = 4 ∧ 106 ≤ mk ∧ mk < qn g) ∧ (qk g ar = 26 ∧ 106 ≤ ar ∧ ar < qn g) ∧ qP g mk 0 = some ar ∧ ql g ar = 31 ∧ (qI g mk 1).toInt = L.length ∧ (∀ j, j < 31 → (qP g ar j ≠ none ↔ seenN L j)) ∧ ∀ x, x ∈ L → ∃ H, qP g ar (fNum x) = some H ∧ FdH f x H g
theorem MbI.fr {f : Nat → Int32} {L : List FdT} {mk ar F : Nat} {x y : Int} {g t : CS} (h : MbI f L mk ar g) (hT : Tf F x y g t) (h5 : qk g 45 = 9) (hL : LwI g) (hF : Wr F g) (hne : ∀ j, j < 31 → qP g ar j ≠ some F) : MbI f L mk ar t := by
  obtain ⟨⟨h1, h2, h3⟩, ⟨h4, h6, h7⟩, h8, h9, h10, h11, h12⟩ := h
  obtain ⟨⟨t1, t2⟩, t3, t4, t5, -, -⟩ := id hT
  have l4 := hL.2.2.2.1
  have a1 : mk ≠ F := fun q => by
    rcases hF with r | r
    · omega
    · rw [← q, h1] at r; exact absurd r.1 (by decide)
  have a2 : mk ≠ lb g := fun q => by rw [q, l4] at h1; cases h1
  have b1 : ar ≠ F := fun q => by
    rcases hF with r | r
    · omega
    · rw [← q, h4] at r; exact absurd r.1 (by decide)
  have eP : qP t mk = qP g mk := t5 mk (by omega) (by omega) a1
  have eA : qP t ar = qP g ar := t5 ar (by omega) (by omega) b1
  have eI := (t4 mk (by omega) (by omega) (by omega) a1 a2).1
  refine ⟨⟨by rw [(t3 mk (by omega)).1]; exact h1, h2, by omega⟩, ⟨by rw [(t3 ar (by omega)).1]; exact h4, h6, by omega⟩, by rw [eP]; exact h8, by rw [(t3 ar (by omega)).2]; exact h9, by rw [eI]; exact h10, fun j hj => by rw [eA]; exact h11 j hj, fun z hz => ?_⟩
  obtain ⟨H, k1, k2⟩ := h12 z hz
  exact ⟨H, by rw [eA]; exact k1, k2.fr hT h5 hL hF (fun q => hne (fNum z) (by have := k2.2.1.1; omega) (by rw [← q]; exact k1))⟩
theorem MbI.n46 {f : Nat → Int32} {L : List FdT} {mk ar : Nat} {g : CS} (h : MbI f L mk ar g) : ∀ j, j < 31 → qP g ar j ≠ some 46 := fun j c q => by
  obtain ⟨y, y1, y2⟩ := (h.2.2.2.2.2.1 j c).mp (by rw [q]; exact fun h => by cases h)
  obtain ⟨H, k1, k2⟩ := h.2.2.2.2.2.2 y y1
  rw [y2, q] at k1
  cases k1
  have := k2.1.2.1
  omega
theorem MbI.f0 {f : Nat → Int32} {n : Nat} {L : List FdT} {mk ar : Nat} {x y : Int} {g t : CS} (h : MbI f L mk ar g) (hT : Tf 46 x y g t) (h5 : TrI f n g) : MbI f L mk ar t := h.fr hT h5.1.1 h5.2.2.2.2.2 Wr.n h.n46
theorem w_fieldAt {f : Nat → Int32} {L : List FdT} {mk ar k : Nat} {x : Int32} {g : CS} (h : MbI f L mk ar g) (hx : x.toInt = k) (hk : 1 ≤ k ∧ k ≤ 30) : Ok (fX1_fieldAt mk x g) (fun q => q.2 = g ∧ (q.1 = none ↔ ¬ seenN L k)) := by
  obtain ⟨⟨h1, h2, h3⟩, ⟨h4, h6, h7⟩, h8, h9, h10, h11, h12⟩ := h
  have xn : x.toNatClampNeg = k := by rw [t_nat]; omega
  unfold fX1_fieldAt
  simp only [Ok_pif, Ok_some, Ok_gd, Ok_ono, xn]
  rw [t_lt, show (0 : Int32).toInt = 0 from rfl]
  refine ⟨fun c => by omega, fun c => ⟨h1, ar, h8, h4, fun d => ?_, fun d => ⟨by rw [t_in, h9]; omega, trivial, ?_⟩⟩⟩
  · rw [t_le, e_nI (by rw [h9]; decide), h9] at d
    omega
  · have := h11 k (by omega)
    constructor
    · exact fun q r => this.mpr r q
    · exact fun q => Classical.byContradiction (fun r => q (this.mp r))
theorem w_hasName2 (f : Nat → Int32) (L : List FdT) (mk ar a e s : Nat) (g : CS) (h : MbI f L mk ar g) (hs : StC f a (e - a) s g) (hl : 1 ≤ e - a) : ∀ (z i : Nat) (x : Int32), x.toInt = i → i ≤ 31 → 31 - i < z → (∀ y, y ∈ L → fNum y < i → ¬ (fNb y - fNa y = e - a ∧ ∀ j, j < e - a → f (fNa y + j) = f (a + j))) → Ok (fX1_hasName_2 mk z (some s) x g) (BC (seenW f L a e) g) := by
  obtain ⟨⟨h1, h2, h3⟩, ⟨h4, h6, h7⟩, h8, h9, h10, h11, h12⟩ := h
  intro z
  induction z with
  | zero => intro i x b c d; omega
  | succ z ih =>
    intro i x hx hi hz hA
    have xn : x.toNatClampNeg = i := by rw [t_nat]; omega
    have e1 := inc (x := x) (by omega) (by omega)
    rw [fX1_hasName_2_s]
    generalize x + 1 = x' at e1 ⊢
    simp only [Ok_gd, Ok_ono, Ok_pif, Ok_some, Ok_nam, xn]
    refine ⟨h1, ar, h8, h4, fun c => ?_, fun c => ⟨?_, fun c0 => ?_, fun c0 => ?_⟩⟩
    · rw [t_le, e_nI (by rw [h9]; decide), h9, hx] at c
      refine Or.inr ⟨fun q => ?_, rfl⟩
      obtain ⟨y, y1, y2, y3⟩ := q
      obtain ⟨H, -, -, ⟨y4, -⟩, -⟩ := h12 y y1
      exact hA y y1 (by omega) ⟨y2, y3⟩
    · rw [t_le, e_nI (by rw [h9]; decide), h9, hx] at c
      rw [t_in, h9]
      omega
    · rw [t_le, e_nI (by rw [h9]; decide), h9, hx] at c
      refine ih (i + 1) x' (by omega) (by omega) (by omega) (fun y y1 y2 => ?_)
      by_cases cy : fNum y = i
      · obtain ⟨H, k1, -⟩ := h12 y y1
        rw [cy, c0] at k1
        cases k1
      · exact hA y y1 (by omega)
    · rw [t_le, e_nI (by rw [h9]; decide), h9, hx] at c
      obtain ⟨y, y1, y2⟩ := (h11 i (by omega)).mp c0
      obtain ⟨H, k1, kk⟩ := h12 y y1
      obtain ⟨⟨d1, -⟩, -, -, -, -, -, ⟨sy, d2, d3⟩, -⟩ := kk
      rw [y2] at k1
      have un : ∀ w, w ∈ L → fNum w = i → fNb w - fNa w = fNb y - fNa y ∧ ∀ j, j < fNb y - fNa y → f (fNa w + j) = f (fNa y + j) := fun w w1 w2 => by
        obtain ⟨H', k1', -, -, -, -, -, -, ⟨sw, d2', d3'⟩, -⟩ := h12 w w1
        rw [w2, k1] at k1'
        cases k1'
        rw [d2] at d2'
        cases d2'
        obtain ⟨-, b, b1, b2, b3, -⟩ := d3
        obtain ⟨-, b', b1', b2', b3', -⟩ := d3'
        rw [b1] at b1'
        cases b1'
        exact ⟨b2'.symm.trans b2, fun j hj => by rw [← b3 j hj, ← b3' j (by omega)]⟩
      refine ⟨H, k1, d1, sy, d2, d3.1.1, Ok.bc (w_equals d3 hs) (fun hy => ?_) (fun hn => ?_)⟩
      · simp only [Ok_pif, Ok_some, Ok_nam]
        exact ⟨fun q => absurd q (by decide), fun _ => Or.inl ⟨⟨y, y1, hy.1, fun j hj => hy.2 j (by omega)⟩, rfl⟩⟩
      · simp only [Ok_pif, Ok_some, Ok_nam]
        refine ⟨fun _ => ih (i + 1) x' (by omega) (by omega) (by omega) (fun w w1 w2 => ?_), fun q => absurd trivial q⟩
        by_cases cw : fNum w = i
        · intro q
          obtain ⟨u1, u2⟩ := un w w1 cw
          exact hn ⟨by omega, fun j hj => by rw [← u2 j hj]; exact q.2 j (by omega)⟩
        · exact hA w w1 (by omega)
theorem w_hasName {f : Nat → Int32} {L : List FdT} {mk ar a e s : Nat} {g : CS} (h : MbI f L mk ar g) (hs : StC f a (e - a) s g) (hl : 1 ≤ e - a) : Ok (fX1_hasName mk (some s) g) (BC (seenW f L a e) g) := by
  unfold fX1_hasName
  exact w_hasName2 f L mk ar a e s g h hs hl fuel 0 0 rfl (by omega) (by unfold fuel; omega) (fun y _ hy => absurd hy (by omega))

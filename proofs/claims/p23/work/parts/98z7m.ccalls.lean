/-! bytes stay bytes -/
theorem btl_seg2 {f : Nat → Int32} {a b n : Nat} (h : ∀ i, i < n → 0 ≤ (f i).toInt ∧ (f i).toInt ≤ 255) (hb : b ≤ n) : BtL (seg f a b) := BtL.seg (fun i _ i2 => h i (by omega))
theorem pcB_bt {st : RS} {f : Nat → Int32} {m a b n : Nat} {inner : List Int32} (hP : PcA f a b) (hb : b ≤ n) (hf : ∀ i, i < n → 0 ≤ (f i).toInt ∧ (f i).toInt ≤ 255) (hi : hasN st m (pNu f a) → kdN st m (pNu f a) = 6 → BtL inner) : BtL (pcB st f m a b inner) := by
  have hlt := hP.lt
  unfold pcB
  by_cases c : hasN st m (pNu f a)
  · rw [pif_pos c]
    by_cases d6 : kdN st m (pNu f a) = 6
    · rw [pif_pos d6]
      exact viL_bt.app (viL_bt.app (hi c d6))
    · rw [pif_neg d6]
      by_cases d5 : kdN st m (pNu f a) = 5
      · rw [pif_pos d5]
        exact viL_bt.app (viL_bt.app (btl_seg2 hf (by omega)))
      · rw [pif_neg d5]
        exact viL_bt.app viL_bt
  · rw [pif_neg c]
    exact btl_seg2 hf (by omega)
theorem wrL_bt {st : RS} {f : Nat → Int32} {n : Nat} (hf : ∀ i, i < n → 0 ≤ (f i).toInt ∧ (f i).toInt ≤ 255) : ∀ (w z m a b last : Nat) (gs : Int32), SdX st f w m a b last gs → b ≤ n → BtL (wrL st f z m a b) := by
  intro w
  induction w with
  | zero => intro z m a b last gs h; exact h.elim
  | succ w ih =>
    intro z m a b last gs h hb
    cases z with
    | zero => exact BtL.nil
    | succ z =>
      rcases h with h | ⟨h1, h2, h3, h4⟩
      · rw [wrL_n (by omega)]; exact BtL.nil
      · have hlt := h1.lt
        rw [wrL_s (by omega)]
        exact (pcB_bt h1 hb hf (fun q1 q2 => ih z _ _ _ _ _ (h4 q1 q2) (by omega))).app (ih z m _ b _ _ h3 hb)
theorem wrR_bt {st : RS} {f : Nat → Int32} {n m a b last : Nat} {gs : Int32} (hf : ∀ i, i < n → 0 ≤ (f i).toInt ∧ (f i).toInt ≤ 255) (h : Sd st f m a b last gs) (hb : b ≤ n) : BtL (wrR st f m a b) := by
  obtain ⟨w, h⟩ := h
  exact wrL_bt hf w _ m a b _ _ h hb
theorem midL_bt {st : RS} {f : Nat → Int32} {n m n0 a b last : Nat} {g4 gs : Int32} (hf : ∀ i, i < n → 0 ≤ (f i).toInt ∧ (f i).toInt ≤ 255) (h : Sd st f m a b last gs) (hab : a ≠ b) (hb : b ≤ n) : BtL (midL st f m n0 g4 b a) := by
  obtain ⟨hP, hok, hrest, hin⟩ := (Sd.iff hab).mp h
  have hlt := hP.lt
  unfold midL
  by_cases c : goF st m n0 g4 (pNu f a)
  · rw [pif_pos c]; exact BtL.nil
  · rw [pif_neg c]
    exact pcB_bt hP hb hf (fun q1 q2 => wrR_bt hf (hin q1 q2) (by omega))
theorem putL_bt {st : RS} {f : Nat → Int32} {n m n0 b : Nat} {g4 : Int32} {fresh : List Int32} (hf : ∀ i, i < n → 0 ≤ (f i).toInt ∧ (f i).toInt ≤ 255) (hb : b ≤ n) (hfr : BtL fresh) : ∀ (w y p a last : Nat) (gs : Int32), SdX st f w m a b last gs → BtL (putL st f m n0 g4 fresh b y p a) := by
  intro w
  induction w with
  | zero => intro y p a last gs h; exact h.elim
  | succ w ih =>
    intro y p a last gs h
    cases y with
    | zero => exact BtL.nil
    | succ y =>
      have fin : BtL (pif (p = 0) fresh []) := by
        by_cases c : p = 0
        · rw [pif_pos c]; exact hfr
        · rw [pif_neg c]; exact BtL.nil
      by_cases cab : a < b
      · have hSd : Sd st f m a b last gs := ⟨w + 1, h⟩
        have hm := midL_bt (n0 := n0) (g4 := g4) hf hSd (by omega) hb
        rcases h with h | ⟨h1, h2, h3, h4⟩
        · omega
        · by_cases c : p = 0 ∧ n0 ≤ pNu f a
          · rw [putL_y cab c]
            exact hfr.app (hm.app (ih y 1 _ _ _ h3))
          · rw [putL_x cab c]
            exact hm.app (ih y p _ _ _ h3)
      · rw [putL_n (by omega)]
        exact fin
theorem putL_len {st : RS} {f : Nat → Int32} {m n0 b : Nat} {g4 : Int32} {fresh : List Int32} (hM : MkI st) (htm : tld st m) (hb : b ≤ 120) : ∀ (w y p a last : Nat) (gs : Int32), SdX st f w m a b last gs → a ≤ b → (putL st f m n0 g4 fresh b y p a).length ≤ (b - a) + pif (p = 0) fresh.length 0 := by
  intro w
  induction w with
  | zero => intro y p a last gs h; exact h.elim
  | succ w ih =>
    intro y p a last gs h hab
    cases y with
    | zero => exact Nat.zero_le _
    | succ y =>
      by_cases cab : a < b
      · rcases h with h | ⟨h1, h2, h3, h4⟩
        · omega
        · have hlt := h1.lt
          have hm := midL_len (n0 := n0) (g0 := g4) hM htm h1 h2 (fun q1 q2 => ⟨w, h4 q1 q2⟩) hb
          by_cases c : p = 0 ∧ n0 ≤ pNu f a
          · have h5 := ih y 1 _ _ _ h3 (by omega)
            rw [pif_neg (by decide)] at h5
            rw [putL_y cab c, List.length_append, List.length_append, pif_pos c.1]
            omega
          · have h5 := ih y p _ _ _ h3 (by omega)
            rw [putL_x cab c, List.length_append]
            omega
      · rw [putL_n (by omega)]
        by_cases c : p = 0
        · rw [pif_pos c, pif_pos c]; omega
        · rw [pif_neg c]; exact Nat.zero_le _
/-! the class's calls on records -/
theorem m_recordOf {a : Int32} {g : CS} (h : CI g) : Ok (fX8_recordOf 32 a g) (SmP g (fun o => o = pif (0 ≤ a.toInt ∧ a.toInt < 4) (some (36 + 2 * a.toNatClampNeg)) none)) := by
  obtain ⟨h1, h2, h3, h4, h5, h6⟩ := h.2.1
  unfold fX8_recordOf
  simp only [Ok_pif, Ok_some]
  rw [t_lt, t_le, show (0 : Int32).toInt = 0 from rfl, show (4 : Int32).toInt = 4 from rfl]
  refine ⟨fun c => ⟨rfl, by rw [pif_neg (by omega)]⟩, fun c => ⟨fun d => ⟨rfl, by rw [pif_neg (by omega)]⟩, fun d => ?_⟩⟩
  rw [Ok_gd, h.1.2.2.1, Ok_ono]
  refine ⟨h.1.1, 35, rfl, ?_⟩
  simp only [Ok_gd, Ok_some]
  refine ⟨h1, by rw [t_in, h2]; omega, rfl, ?_⟩
  rw [pif_pos ⟨by omega, by omega⟩]
  show qP g 35 a.toNatClampNeg = _
  rcases (show a.toNatClampNeg = 0 ∨ a.toNatClampNeg = 1 ∨ a.toNatClampNeg = 2 ∨ a.toNatClampNeg = 3 by rw [t_nat]; omega) with q | q | q | q
  · rw [q, h3]
  · rw [q, h4]
  · rw [q, h5]
  · rw [q, h6]
theorem isRc_of {j : Nat} (h : j < 4) : isRc (36 + 2 * j) := by unfold isRc; omega
/-- records alike -/
def RcE (g : CS) (r : RS) : Prop := ∀ j, j < 4 → RwB g (36 + 2 * j) (rbN r j) (rbF r j)
/-- the class keeps its records -/
def ClK (g t : CS) : Prop := Sf g t ∧ ∀ i, 36 ≤ i → i < 44 → qI t i = qI g i
/-- record o becomes W -/
def ClE (g t : CS) (o : Nat) (W : List Int32) : Prop := Sf g t ∧ (RwL t (36 + 2 * o) W ∧ BtL W) ∧ ∀ j, j < 4 → j ≠ o → qI t (36 + 2 * j) = qI g (36 + 2 * j) ∧ qI t (36 + 2 * j + 1) = qI g (36 + 2 * j + 1)
theorem ClK.rf {g : CS} (h : CI g) : ClK g g := ⟨Sf.rf h, fun _ _ _ => rfl⟩
theorem ClK.tr {a b c : CS} (h1 : ClK a b) (h2 : ClK b c) : ClK a c := ⟨h1.1.tr h2.1, fun i a b => (h2.2 i a b).trans (h1.2 i a b)⟩
theorem ClK.sr {g t : CS} (h : Sr g t) : ClK g t := ⟨h.sf, fun i h1 h2 => h.2.i (fun q => by have := rdL_r i q; omega)⟩
theorem wtL_r : ∀ i, i ∈ wtL → 60 ≤ i := by decide
theorem ClK.sw {g t : CS} (h : Sw g t) : ClK g t := ⟨h.sf, fun i h1 h2 => h.2.i (fun q => by have := wtL_r i q; omega)⟩
theorem ClK.f72 {g t : CS} {l : List Int32} (h : CI g) (hp : PuL g 72 256 l t) : ClK g t := ⟨Sf.row h rw72 hp.1 hp.2.1, fun i h1 h2 => hp.1.i (by simp; omega)⟩
theorem ClK.e {a b c : CS} {o : Nat} {W : List Int32} (h1 : ClK a b) (h2 : ClE b c o W) (ho : o < 4) : ClE a c o W := ⟨h1.1.tr h2.1, h2.2.1, fun j hj hjo => ⟨((h2.2.2 j hj hjo).1).trans (h1.2 _ (by omega) (by omega)), ((h2.2.2 j hj hjo).2).trans (h1.2 _ (by omega) (by omega))⟩⟩
theorem RcE.k {g t : CS} {r : RS} (h : RcE g r) (hK : ClK g t) : RcE t r := fun j hj => by
  have := h j hj
  unfold RwB at *
  rw [hK.2 _ (by omega) (by omega), hK.2 _ (by omega) (by omega)]
  exact this
/-- a row becomes a part of another -/
theorem m_become {r cap o ocap n A B : Nat} {a b : Int32} {f : Nat → Int32} {g : CS} (h : RowI g r cap) (ho : RowI g o ocap) (hro : o ≠ r ∧ o ≠ r + 1 ∧ o + 1 ≠ r ∨ o = r) (hB : RwB g o n f) (ha : a.toInt = A) (hb : b.toInt = B) (hAB : A ≤ B) (hBn : B ≤ n) (hc : B - A ≤ cap) : Ok (fX5_become r (some o) a b g) (PuL g r cap (seg f A B)) := by
  refine (w_become h ho hro ha hb hAB (by rw [hB.1]; omega)).mono (fun t ht => ?_)
  obtain ⟨t1, t2, t3, t4⟩ := ht
  have e : min (B - A) cap = B - A := by omega
  rw [e] at t3 t4
  refine ⟨t1, t2, by rw [t3, seg_len], fun i hi => ?_⟩
  rw [seg_len] at hi
  have hb2 := hB.2 (A + i) (by omega)
  rw [Nat.zero_add, t4 i hi, hb2.1, and255_b hb2.2.1 hb2.2.2, ix_seg hi]
theorem ClE.row {g t : CS} {o : Nat} {W : List Int32} (h : CI g) (ho : o < 4) (hbt : BtL W) (hp : PuL g (36 + 2 * o) 120 W t) : ClE g t o W := ⟨Sf.row h (isRc_of ho).rw hp.1 hp.2.1, ⟨hp.2.2, hbt⟩, fun j hj hjo => ⟨hp.1.i (by simp; omega), hp.1.i (by simp; omega)⟩⟩
/-- settle(): the record with the fresh piece, if it has room -/
def SeP (g : CS) (o : Nat) (W : List Int32) (q : Int32 × CS) : Prop := (W.length ≤ 120 ∧ q.1.toInt = W.length ∧ ClE g q.2 o W) ∨ (¬ W.length ≤ 120 ∧ q.1 = -4 ∧ ClK g q.2)
theorem m_settle {r : RS} {f : Nat → Int32} {n o m mk n0 : Nat} {l3 g4 : Int32} {fresh : List Int32} {g : CS} (hn : n ≤ 120) (ho : o < 4) (hI : IR g r) (hB : RwB g (36 + 2 * o) n f) (htm : tld r m) (hmk : EqM g mk r m) (h3 : l3.toInt = n0) (hfr : RwL g 72 fresh) (hbt : BtL fresh) (hfl : fresh.length ≤ 136) (hSd : Sd r f m 0 n 0 0) : Ok (fX8_settle 32 (some (36 + 2 * o)) (some mk) l3 g4 g) (SeP g o (putL r f m n0 g4 fresh n (n + 1) 0 0)) := by
  have h := hI.1
  have hrc := isRc_of ho
  obtain ⟨w, hw⟩ := id hSd
  have hbW : BtL (putL r f m n0 g4 fresh n (n + 1) 0 0) := putL_bt (fun i hi => (hB.2 i hi).2) (Nat.le_refl _) hbt w _ _ _ _ _ hw
  unfold fX8_settle
  rw [Ok_gd, h.1.2.2.2.2.2.2.1, h.1.2.2.2.2.2.2.2.2.1, h.1.2.2.2.2.2.2.2.2.2, Ok_ono]
  refine ⟨h.1.1, 58, rfl, ?_⟩
  rw [Ok_gd]
  refine ⟨h.2.2.2.2.1.1, Ok.callv (m_rwWith (n0 := n0) hn hrc (Or.inl rfl) hI hB htm hmk h3 hfr hbt hfl hSd) (fun t ht => ?_)⟩
  obtain ⟨W, eW⟩ : ∃ W, W = putL r f m n0 g4 fresh n (n + 1) 0 0 := ⟨_, rfl⟩
  rw [← eW] at ht hbW ⊢
  obtain ⟨hSw, hl⟩ := ht
  have hC := hSw.1
  have e8 := hC.1.2.2.2.2.2.2.2.2.2
  have h74 := hC.rw isW74
  rw [e8, Ok_ono]
  refine ⟨74, rfl, ?_⟩
  rw [Ok_gd]
  refine ⟨h74.1, Ok.call (c_size h74) (fun q u hu => ?_)⟩
  have e2 : u = t := congrArg Prod.snd hu
  have eq : q = qI t 74 1 := congrArg Prod.fst hu
  subst e2
  subst eq
  rw [Ok_pif, t_le, hl.1, show (120 : Int32).toInt = 120 from rfl, Ok_some]
  refine ⟨fun c => ?_, fun c => Or.inr ⟨by omega, rfl, ClK.sw hSw⟩⟩
  rw [e8, Ok_ono]
  refine ⟨74, rfl, ?_⟩
  rw [Ok_gd]
  refine ⟨h74.1, Ok.call (c_size h74) (fun q2 u2 hu2 => ?_)⟩
  have e3 : q2 = qI u 74 1 := congrArg Prod.fst hu2
  have e4 : u2 = u := congrArg Prod.snd hu2
  subst e4
  subst e3
  rw [Ok_ono]
  refine ⟨36 + 2 * o, rfl, ?_⟩
  rw [Ok_gd]
  have hrow := hC.rw hrc.rw
  refine ⟨hrow.1, Ok.callv (m_become (A := 0) hrow h74 (Or.inl ⟨by omega, by omega, by omega⟩) (hl.b hbW) rfl hl.1 (Nat.zero_le _) (Nat.le_refl _) (by omega)) (fun v hv => ?_)⟩
  rw [seg_ix] at hv
  have hE := (ClK.sw hSw).e (ClE.row hC ho hbW hv) ho
  refine Ok.call (c_size (hE.1.1.rw hrc.rw)) (fun q3 u3 hu3 => ?_)
  have e5 : u3 = v := congrArg Prod.snd hu3
  have e6 : q3 = qI v (36 + 2 * o) 1 := congrArg Prod.fst hu3
  subst e5
  rw [Ok_some]
  exact Or.inl ⟨by omega, by rw [e6]; exact hE.2.1.1.1, hE⟩
/-- a make that was told, a field that is there -/
theorem IR.mk {m : Int32} {g : CS} {r : RS} (h : IR g r) : Ok (fX8_makeOf (qP g 32 2) m g) (SmP g (fun o => (o ≠ none ↔ mkN r m) ∧ ∀ x, o = some x → MkO g x ∧ EqM g x r m.toNatClampNeg)) := by
  rw [h.1.1.2.2.2.1]
  exact m_mk h
theorem IR.fd {m n : Int32} {g : CS} {r : RS} (h : IR g r) : Ok (fX8_fieldOf 32 m n g) (SmP g (fun o => (o ≠ none ↔ isF r m n) ∧ ∀ x, o = some x → EqF g x r (31 * m.toNatClampNeg + n.toNatClampNeg) n.toNatClampNeg)) := by
  unfold fX8_fieldOf
  rw [Ok_gd]
  refine ⟨h.1.1.1, Ok.same h.mk (fun o ho => ?_)⟩
  simp only [Ok_pif, Ok_some, Ok_ono, Ok_gd]
  refine ⟨fun c => ⟨rfl, ⟨fun q => absurd rfl q, fun q => absurd c (ho.1.mpr q.1)⟩, fun x hx => by cases hx⟩, fun c => ?_⟩
  obtain ⟨f, e⟩ := Option.ne_none_iff_exists'.mp c
  have hm := ho.1.mp c
  refine ⟨f, e, (ho.2 f e).1.1, Ok.same (m_fieldAt (ho.2 f e).2) (fun o2 ho2 => ?_)⟩
  rw [Ok_some]
  exact ⟨rfl, ⟨fun q => ⟨hm, ho2.1.mp q⟩, fun q => ho2.1.mpr q.2⟩, ho2.2⟩
theorem mkN.t {r : RS} {m : Int32} (h : mkN r m) : tld r m.toNatClampNeg := ⟨by have := h.1; have := h.2.1; rw [t_nat]; omega, h.2.2⟩
/-- a record that may be -/
def rcN (a : Int32) : Prop := 0 ≤ a.toInt ∧ a.toInt < 4
theorem rcN.l {a : Int32} (h : rcN a) : a.toNatClampNeg < 4 := by have := h.1; have := h.2; rw [t_nat]; omega
/-- what a record is by a make -/
def sdN (r : RS) (a m : Int32) : Prop := Sd r (rbF r a.toNatClampNeg) m.toNatClampNeg 0 (rbN r a.toNatClampNeg) 0 0
theorem rbN_le {r : RS} {j : Nat} (h : RcI r) (hj : j < 4) : rbN r j ≤ 120 := by
  have := h j hj
  unfold rbN
  rw [t_nat]
  omega
/-- what a call answers, and what becomes of the records -/
noncomputable def seS (o : Nat) (W : List Int32) : Int × Option (Nat × List Int32) := pif (W.length ≤ 120) ((W.length : Int), some (o, W)) (-4, none)
def ClR (g t : CS) (e : Option (Nat × List Int32)) : Prop := (e = none → ClK g t) ∧ ∀ o W, e = some (o, W) → o < 4 ∧ ClE g t o W
def ClA (g : CS) (s : Int × Option (Nat × List Int32)) (q : Int32 × CS) : Prop := q.1.toInt = s.1 ∧ ClR g q.2 s.2
theorem ClA.n {g t : CS} {v : Int32} {k : Int} (h : v.toInt = k) (hK : ClK g t) : ClA g (k, none) (v, t) := ⟨h, fun _ => hK, fun o W q => by cases q⟩
theorem ClA.e {g t : CS} {v : Int32} {k : Int} {o : Nat} {W : List Int32} (h : v.toInt = k) (ho : o < 4) (hE : ClE g t o W) : ClA g (k, some (o, W)) (v, t) := ⟨h, ⟨fun q => (by cases q), fun o' W' q => (by cases q; exact ⟨ho, hE⟩)⟩⟩
theorem ClA.k {g g1 : CS} {s : Int × Option (Nat × List Int32)} {q : Int32 × CS} (hK : ClK g g1) (h : ClA g1 s q) : ClA g s q := ⟨h.1, fun e => hK.tr (h.2.1 e), fun o W e => ⟨(h.2.2 o W e).1, hK.e (h.2.2 o W e).2 (h.2.2 o W e).1⟩⟩
theorem SeP.a {g : CS} {o : Nat} {W : List Int32} {q : Int32 × CS} (ho : o < 4) (h : SeP g o W q) : ClA g (seS o W) q := by
  unfold seS
  rcases h with ⟨h1, h2, h3⟩ | ⟨h1, h2, h3⟩
  · rw [pif_pos h1]
    exact ClA.e (v := q.1) h2 ho h3
  · rw [pif_neg h1]
    exact ClA.n (v := q.1) (by rw [h2]; rfl) h3
theorem m_at {a i : Int32} {g : CS} {r : RS} (h : CI g) (hE : RcE g r) : Ok (fX8_at 32 a i g) (fun q => q = (pif (rcN a ∧ 0 ≤ i.toInt ∧ i.toInt < rbN r a.toNatClampNeg) (rbF r a.toNatClampNeg i.toNatClampNeg) (-1), g)) := by
  unfold fX8_at
  rw [Ok_gd]
  refine ⟨h.1.1, Ok.same (m_recordOf h) (fun o ho => ?_)⟩
  by_cases c : rcN a
  · replace ho := ho.trans (pif_pos c)
    have hrow := h.rw (isRc_of c.l).rw
    have hB := hE _ c.l
    rw [ho, pif_neg (by simp), Ok_ono]
    refine ⟨_, rfl, ?_⟩
    rw [Ok_gd]
    refine ⟨hrow.1, Ok.call (c_byteAt hrow) (fun q t ht => ?_)⟩
    have e1 : q = bAt g (36 + 2 * a.toNatClampNeg) i := congrArg Prod.fst ht
    have e2 : t = g := congrArg Prod.snd ht
    rw [Ok_some, e1, e2]
    congr 1
    by_cases d : 0 ≤ i.toInt ∧ i.toInt < rbN r a.toNatClampNeg
    · rw [pif_pos ⟨c, d⟩]
      exact hB.at (k := i.toNatClampNeg) (by rw [t_nat]; omega) (by rw [t_nat]; omega)
    · rw [pif_neg (fun q => d q.2)]
      unfold bAt
      rw [pif_neg (by rw [hB.1]; exact d)]
  · replace ho := ho.trans (pif_neg c)
    rw [ho, pif_pos rfl, Ok_some, pif_neg (fun q => c q.1)]
theorem m_clear {a : Int32} {g : CS} {r : RS} (h : CI g) (hE : RcE g r) : Ok (fX8_clear 32 a g) (fun q => pif (rcN a) (q.1.toInt = rbN r a.toNatClampNeg ∧ ClE g q.2 a.toNatClampNeg []) (q = (-1, g))) := by
  unfold fX8_clear
  rw [Ok_gd]
  refine ⟨h.1.1, Ok.same (m_recordOf h) (fun o ho => ?_)⟩
  by_cases c : rcN a
  · replace ho := ho.trans (pif_pos c)
    have hrow := h.rw (isRc_of c.l).rw
    have hB := hE _ c.l
    simp only [pif_pos c]
    rw [ho, pif_neg (by simp), Ok_ono]
    refine ⟨_, rfl, ?_⟩
    rw [Ok_gd]
    refine ⟨hrow.1, Ok.call (c_size hrow) (fun q t ht => ?_)⟩
    have e1 : q = qI g (36 + 2 * a.toNatClampNeg) 1 := congrArg Prod.fst ht
    have e2 : t = g := congrArg Prod.snd ht
    subst e2
    refine Ok.call (m_cut0 hrow) (fun q2 u hu => ?_)
    rw [Ok_some]
    exact ⟨by rw [e1]; exact hB.1, ClE.row h c.l BtL.nil hu⟩
  · replace ho := ho.trans (pif_neg c)
    rw [ho, pif_pos rfl, Ok_some, pif_neg c]

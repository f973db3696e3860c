/-! the class's scan, exactly -/
theorem bit_iff (gs g : Int32) : (gs &&& ((1 : Int32) <<< (g &&& 31)) = 0) ↔ ¬ bOn gs g := by
  have hk : ((g &&& 31).toBitVec.toNat) < 32 := by
    rw [Int32.toBitVec_and, BitVec.toNat_and]
    exact Nat.lt_of_le_of_lt Nat.and_le_right (by decide)
  have key : ∀ k : Fin 32, ((BitVec.ofNat 32 k.val).smod 32).toNat = k.val := by decide
  obtain ⟨N, eN⟩ : ∃ N, N = (g &&& 31).toBitVec.toNat := ⟨_, rfl⟩
  rw [← eN] at hk
  have hs : ((g &&& 31).toBitVec.smod 32).toNat = N := by
    rw [show (g &&& 31).toBitVec = BitVec.ofNat 32 N by rw [eN, BitVec.ofNat_toNat, BitVec.setWidth_eq]]
    exact key ⟨N, hk⟩
  have e1 : (gs &&& ((1 : Int32) <<< (g &&& 31))).toBitVec = gs.toBitVec &&& BitVec.twoPow 32 N := by
    rw [Int32.toBitVec_and, Int32.toBitVec_shiftLeft, BitVec.shiftLeft_eq', hs, BitVec.twoPow_eq]
    rfl
  have e2 : ((gs >>> (g &&& 31)) &&& 1).toBitVec = (gs.toBitVec.sshiftRight N) &&& 1#32 := by
    rw [Int32.toBitVec_and, Int32.toBitVec_shiftRight, BitVec.sshiftRight_eq', hs]
    rfl
  unfold bOn
  rw [← Int32.toBitVec_inj, ← Int32.toBitVec_inj, e1, e2, BitVec.and_twoPow, BitVec.and_one_eq_setWidth_ofBool_getLsbD, BitVec.getLsbD_sshiftRight, if_pos (show N + 0 < 32 by omega), Nat.add_zero]
  cases h : gs.toBitVec.getLsbD N with
  | false => exact ⟨fun _ q => absurd q (by decide), fun _ => rfl⟩
  | true =>
    refine ⟨fun q => ?_, fun q => absurd (by decide) q⟩
    exfalso
    have q2 := congrArg BitVec.toNat q
    rw [if_pos rfl, BitVec.toNat_twoPow_of_lt hk] at q2
    have := Nat.two_pow_pos N
    have q2 : 2 ^ N = 0 := q2
    omega
/-- what reading rests on -/
def IR (g : CS) (r : RS) : Prop := CI g ∧ MkI r ∧ ToE g r ∧ MkE g r
theorem IR.c {g t : CS} {r : RS} (h : IR g r) (hS : Sf g t) : IR t r := ⟨hS.1, h.2.1, fun j hj => by rw [hS.2.p]; exact h.2.2.1 j hj, h.2.2.2.c hS⟩
theorem m_mk {m : Int32} {g : CS} {r : RS} (h : IR g r) : Ok (fX8_makeOf (some 44) m g) (SmP g (fun o => (o ≠ none ↔ mkN r m) ∧ ∀ x, o = some x → MkO g x ∧ EqM g x r m.toNatClampNeg)) := by
  obtain ⟨h1, h2, h4, hE⟩ := h
  obtain ⟨k1, k2, k3⟩ := h1.2.2.1
  unfold fX8_makeOf mkN
  simp only [Ok_pif, Ok_some, Ok_gd, Ok_ono]
  rw [t_lt, show (0 : Int32).toInt = 0 from rfl]
  refine ⟨fun c => ⟨rfl, ⟨fun q => absurd rfl q, fun q => by omega⟩, fun x hx => by cases hx⟩, fun c => ⟨44, rfl, k1, fun d => ⟨rfl, ⟨fun q => absurd rfl q, fun q => ?_⟩, fun x hx => by cases hx⟩, fun d => ?_⟩⟩
  · rw [t_le, e_nI (by rw [k2]; decide), k2] at d
    have d : (8 : Int) ≤ m.toInt := d
    omega
  · rw [t_le, e_nI (by rw [k2]; decide), k2] at d
    have d : ¬ (8 : Int) ≤ m.toInt := d
    have hm : m.toNatClampNeg < 8 := by rw [t_nat]; omega
    have h44 := h4 _ hm
    exact ⟨by rw [t_in, k2]; omega, rfl, ⟨fun q => ⟨by omega, by omega, fun w => q (h44.mpr w)⟩, fun q w => q.2.2 (h44.mp w)⟩, fun x hx => ⟨k3 _ hm x hx, hE _ hm x hx⟩⟩
theorem EqF.kd {g : CS} {H F n : Nat} {r : RS} (h : EqF g H r F n) : qI g H 1 = gF r 1 F ∧ 0 ≤ (gF r 1 F).toInt ∧ (gF r 1 F).toInt ≤ 6 ∧ 0 ≤ (gF r 2 F).toInt := h.2.2.1
/-- a text -/
theorem m_isText12 (row cap n b a : Nat) (f : Nat → Int32) (g : CS) (h : RowI g row cap) (hB : RwB g row n f) (l2 : Int32) (hl : l2.toInt = b) (hb : b ≤ n) (hn : n ≤ 1000) : ∀ (z i : Nat) (x : Int32), x.toInt = i → a ≤ i → i ≤ n → b - i < z → TxN f a i → Ok (fX5_isText_12 row z l2 x g) (BC (TxN f a b) g) := by
  intro z
  induction z with
  | zero => intro i x q1 q2 q3 q4; omega
  | succ z ih =>
    intro i x hx ha hi hz hT
    have e := inc (x := x) (by omega) (by omega)
    rw [fX5_isText_12_s]
    generalize x + 1 = x' at e ⊢
    simp only [Ok_pif, Ok_some, Ok_gd]
    rw [t_le, hl, hx]
    refine ⟨fun c => Or.inl ⟨fun k k1 k2 => hT k k1 (by omega), rfl⟩, fun c => ⟨h.1, Ok.call (c_byteAt h) (fun q t ht => ?_)⟩⟩
    have e2 : t = g := congrArg Prod.snd ht
    have e1 : q = bAt g row x := congrArg Prod.fst ht
    subst e2
    have eq : q = f i := by rw [e1]; exact hB.at hx (by omega)
    refine Ok.call c_isTextByte (fun q' t' ht' => ?_)
    obtain ⟨e3, e4⟩ := ht'
    have e3 : t' = t := e3
    subst e3
    rw [eq] at e4
    rcases e4 with ⟨w1, w2⟩ | ⟨w1, w2⟩
    · have w1 : q' = 1 := w1
      rw [w1, pif_neg (by decide), Ok_nam]
      exact ih (i + 1) x' (by omega) (by omega) (by omega) (by omega) (fun k k1 k2 => by
        by_cases ck : k = i
        · rw [ck]; exact w2
        · exact hT k k1 (by omega))
    · have w1 : q' = 0 := w1
      rw [w1, pif_pos rfl, Ok_some]
      exact Or.inr ⟨fun q => w2 (q i ha (by omega)), rfl⟩
theorem m_isText {row cap n a b : Nat} {f : Nat → Int32} {x y : Int32} {g : CS} (h : RowI g row cap) (hB : RwB g row n f) (ha : x.toInt = a) (hb : y.toInt = b) (hab : a ≤ b) (hbn : b ≤ n) (hn : n ≤ 1000) : Ok (fX5_isText row x y g) (BC (b ≤ a + 12 ∧ TxN f a b) g) := by
  have e : (y - x).toInt = y.toInt - x.toInt := t_sub (by omega) (by omega)
  unfold fX5_isText
  simp only [Ok_pif, Ok_some]
  rw [t_le, e, ha, hb, show (12 : Int32).toInt = 12 from rfl]
  refine ⟨fun c => (m_isText12 row cap n b a f g h hB y hb hbn hn fuel a x ha (by omega) (by omega) (by unfold fuel; omega) (fun k k1 k2 => absurd k2 (by omega))).mono (fun q hq => hq.iff ⟨fun w => ⟨by omega, w⟩, fun w => w.2⟩), fun c => Or.inr ⟨fun w => c (by omega), rfl⟩⟩
theorem m_isNum {g : CS} {r : RS} {H F n : Nat} (h : EqF g H r F n) : Ok (fX0_isNumber H g) (BC (1 ≤ (gF r 1 F).toInt ∧ (gF r 1 F).toInt < 5) g) := by
  unfold fX0_isNumber
  rw [Ok_gd, h.kd.1]
  refine ⟨h.1.1, ?_⟩
  simp only [Ok_pif, Ok_some]
  rw [t_lt, t_lt, show (1 : Int32).toInt = 1 from rfl, show (4 : Int32).toInt = 4 from rfl]
  exact ⟨fun c => Or.inr ⟨fun q => by omega, rfl⟩, fun c => ⟨fun d => Or.inr ⟨fun q => by omega, rfl⟩, fun d => Or.inl ⟨⟨by omega, by omega⟩, rfl⟩⟩⟩
theorem m_hasLen {g : CS} {r : RS} {H F n : Nat} (h : EqF g H r F n) : Ok (fX0_hasLength H g) (BC (4 < (gF r 1 F).toInt) g) := by
  have hk := h.kd
  unfold fX0_hasLength
  rw [Ok_gd, hk.1]
  refine ⟨h.1.1, ?_⟩
  simp only [Ok_pif, Ok_some]
  rw [t_eq, t_eq, show (5 : Int32).toInt = 5 from rfl, show (6 : Int32).toInt = 6 from rfl]
  exact ⟨fun c => Or.inl ⟨by omega, rfl⟩, fun c => ⟨fun d => Or.inl ⟨by omega, rfl⟩, fun d => Or.inr ⟨fun q => by omega, rfl⟩⟩⟩
theorem m_holds {g : CS} {r : RS} {H F n : Nat} {v : Int64} (h : EqF g H r F n) (h1 : 1 ≤ (gF r 1 F).toInt) (h5 : (gF r 1 F).toInt < 5) : Ok (fX0_holds H v g) (BC (ofN v (gF r 1 F)) g) := by
  have k1 : gF r 1 F = 1 ↔ (gF r 1 F).toInt = 1 := by rw [t_eq]; exact Iff.rfl
  have k2 : gF r 1 F = 2 ↔ (gF r 1 F).toInt = 2 := by rw [t_eq]; exact Iff.rfl
  have k3 : gF r 1 F = 3 ↔ (gF r 1 F).toInt = 3 := by rw [t_eq]; exact Iff.rfl
  have k4 : gF r 1 F = 4 ↔ (gF r 1 F).toInt = 4 := by rw [t_eq]; exact Iff.rfl
  have v0 : v = 0 ↔ v.toInt = 0 := by rw [j_eq]; exact Iff.rfl
  have v1 : v = 1 ↔ v.toInt = 1 := by rw [j_eq]; exact Iff.rfl
  unfold fX0_holds ofN
  rw [Ok_gd, h.kd.1]
  refine ⟨h.1.1, ?_⟩
  simp only [Ok_pif, Ok_some, lg_cmp_lt, lg_cmp_gt]
  simp only [j_lt, ne_eq, k1, k2, k3, k4, v0, v1, Int64.reduceToInt]
  refine ⟨fun c => ⟨fun d => Or.inr ⟨fun q => ?_, rfl⟩, fun d => ⟨fun e => Or.inr ⟨fun q => ?_, rfl⟩, fun e => Or.inl ⟨⟨fun _ => by omega, fun w => by omega, fun w => absurd c w⟩, rfl⟩⟩⟩, fun c => ⟨fun d => ⟨fun e => Or.inr ⟨fun q => ?_, rfl⟩, fun e => ⟨fun y => Or.inr ⟨fun q => ?_, rfl⟩, fun y => Or.inl ⟨⟨fun w => absurd w c, fun _ => by omega, fun _ w => absurd d w⟩, rfl⟩⟩⟩, fun d => ⟨fun e => ⟨fun y => Or.inr ⟨fun q => ?_, rfl⟩, fun y => ⟨fun z => Or.inr ⟨fun q => ?_, rfl⟩, fun z => Or.inl ⟨⟨fun w => absurd w c, fun w => absurd w d, fun _ _ _ => by omega⟩, rfl⟩⟩⟩, fun e => ⟨fun y => Or.inl ⟨⟨fun w => absurd w c, fun w => absurd w d, fun _ _ w => absurd y w⟩, rfl⟩, fun y => by omega⟩⟩⟩⟩
  · rcases q.1 c with w | w <;> omega
  · rcases q.1 c with w | w <;> omega
  · have := q.2.1 d; omega
  · have := q.2.1 d; omega
  · have := q.2.2 c d (by omega); omega
  · have := q.2.2 c d (by omega); omega
theorem m_asNum {p : Nat} {g : CS} (h : qk g p = 5) : Ok (fX2_asNumber p g) (SmP g (fun v => v = punf (qJ g p 2))) := by
  unfold fX2_asNumber
  rw [Ok_gd, Ok_some]
  exact ⟨h, rfl, rfl⟩
/-- a piece that was looked at -/
def PcE (g : CS) (p : Nat) (f : Nat → Int32) (a b : Nat) : Prop := qk g p = 5 ∧ PcA f a b ∧ pnum (pV1 f a) ≠ 0 ∧ ¬ psh (pV1 f a) (pV2 f a) (pFr f a) b ∧ qI g p 0 = pnum (pV1 f a) ∧ qI g p 1 = pif (plg (pV1 f a)) 1 0 ∧ (qI g p 3).toInt = pFr f a ∧ (qI g p 4).toInt = pTo f a b ∧ qJ g p 2 = pV2 f a ∧ qI g p 5 = 0
theorem m_fits {p H m row cap n a b : Nat} {f : Nat → Int32} {g : CS} {r : RS} (hp : PcE g p f a b) (hH : EqF g H r (31 * m + pNu f a) (pNu f a)) (hn0 : hasN r m (pNu f a)) (h : RowI g row cap) (hB : RwB g row n f) (hb : b ≤ n) (hn : n ≤ 1000) : Ok (fX3_fits (some p) (some H) (some row) g) (BC (((kdN r m (pNu f a)).toInt < 5 → ofN (punf (pV2 f a)) (kdN r m (pNu f a))) ∧ (kdN r m (pNu f a) = 5 → pTo f a b ≤ pFr f a + 12 ∧ TxN f (pFr f a) (pTo f a b))) g) := by
  obtain ⟨p1, p2, p3, p4, p5, p6, p7, p8, p9, p10⟩ := hp
  have hlt := p2.lt
  have hk := hH.kd
  have ek : gF r 1 (31 * m + pNu f a) = kdN r m (pNu f a) := rfl
  rw [ek] at hk
  have h0 : kdN r m (pNu f a) ≠ 0 := hn0.2.2.2
  have h00 : (kdN r m (pNu f a)).toInt ≠ 0 := fun q => h0 (by rw [t_eq, q]; rfl)
  have k5 : kdN r m (pNu f a) = 5 ↔ (kdN r m (pNu f a)).toInt = 5 := by rw [t_eq]; exact Iff.rfl
  unfold fX3_fits
  rw [Ok_ono]
  refine ⟨H, rfl, ?_⟩
  rw [Ok_gd]
  refine ⟨hH.1.1, Ok.bc (m_isNum hH) (fun c => ?_) (fun c => ?_)⟩
  · rw [ek] at c
    rw [pif_neg (by decide), Ok_ono]
    refine ⟨p, rfl, ?_⟩
    rw [Ok_gd]
    refine ⟨p1, Ok.same (m_asNum p1) (fun v hv => ?_)⟩
    rw [p9] at hv
    rw [hv]
    refine Ok.bc (m_holds hH (by rw [ek]; exact c.1) (by rw [ek]; exact c.2)) (fun d => ?_) (fun d => ?_)
    · rw [Ok_gd, Ok_some]
      exact ⟨by decide, Or.inl ⟨⟨fun _ => d, fun q => by rw [k5] at q; omega⟩, rfl⟩⟩
    · rw [Ok_gd, Ok_some]
      exact ⟨by decide, Or.inr ⟨fun q => d (q.1 c.2), rfl⟩⟩
  · rw [ek] at c
    rw [pif_pos rfl, hk.1]
    by_cases c5 : kdN r m (pNu f a) = 5
    · rw [pif_pos c5, Ok_ono]
      refine ⟨p, rfl, ?_⟩
      rw [Ok_gd, Ok_ono]
      refine ⟨p1, row, rfl, ?_⟩
      rw [Ok_gd]
      refine ⟨h.1, Ok.bc (m_isText h hB p7 p8 hlt.2.1 (by omega) hn) (fun d => ?_) (fun d => ?_)⟩
      · rw [pif_neg (by decide), Ok_some]
        exact Or.inl ⟨⟨fun q => by rw [k5] at c5; omega, fun _ => d⟩, rfl⟩
      · rw [pif_pos rfl, Ok_some]
        exact Or.inr ⟨fun q => d (q.2 c5), rfl⟩
    · rw [pif_neg c5, Ok_some]
      exact Or.inl ⟨⟨fun q => absurd ⟨by omega, q⟩ c, fun q => absurd q c5⟩, rfl⟩
noncomputable def gbN (r : RS) (m n : Nat) : Int32 := pif (hasN r m n ∧ 0 < (grN r m n).toInt) ((1 : Int32) <<< (grN r m n &&& 31)) 0
theorem m_groupBit {g : CS} {r : RS} {m n : Nat} {o : Option Nat} (ho : KnO g r m n o) : Ok (fX3_groupBit o g) (SmP g (fun v => v = gbN r m n)) := by
  unfold fX3_groupBit gbN
  by_cases c : o = none
  · rw [pif_pos c, Ok_some, pif_neg (fun q => ho.1.mpr q.1 c)]
    exact ⟨rfl, rfl⟩
  · rw [pif_neg c]
    obtain ⟨H, e⟩ := Option.ne_none_iff_exists'.mp c
    have hH := ho.2 H e
    have hk := hH.kd.2.2.2
    have e2 : qI g H 2 = grN r m n := hH.2.2.2.1
    have ek : gF r 2 (31 * m + n) = grN r m n := rfl
    rw [ek] at hk
    rw [e, Ok_ono]
    refine ⟨H, rfl, ?_⟩
    rw [Ok_gd, e2]
    refine ⟨hH.1.1, ?_⟩
    by_cases c0 : grN r m n = 0
    · rw [pif_pos c0, Ok_some, pif_neg (fun q => by have := q.2; rw [c0] at this; exact absurd this (by decide))]
      exact ⟨rfl, rfl⟩
    · have c1 : (grN r m n).toInt ≠ 0 := fun q => c0 (by rw [t_eq, q]; rfl)
      rw [pif_neg c0, Ok_some, pif_pos ⟨ho.1.mp c, by omega⟩]
      exact ⟨rfl, rfl⟩
theorem gsN_gb {r : RS} {m n : Nat} {gs : Int32} : gs ||| gbN r m n = gsN r m n gs := by
  unfold gbN gsN
  by_cases c : hasN r m n ∧ 0 < (grN r m n).toInt
  · rw [pif_pos c, pif_pos c]
  · rw [pif_neg c, pif_neg c, Int32.or_zero]
theorem gbN_on {r : RS} {m n : Nat} {gs : Int32} : (gs &&& gbN r m n = 0) ↔ ¬ (hasN r m n ∧ 0 < (grN r m n).toInt ∧ bOn gs (grN r m n)) := by
  unfold gbN
  by_cases c : hasN r m n ∧ 0 < (grN r m n).toInt
  · rw [pif_pos c, bit_iff]
    exact ⟨fun q w => q w.2.2, fun q w => q ⟨c.1, c.2, w⟩⟩
  · rw [pif_neg c, Int32.and_zero]
    exact ⟨fun _ w => c ⟨w.1, w.2.1⟩, fun _ => rfl⟩
theorem LkE.pc {f : Nat → Int32} {p a b : Nat} {g : CS} (h : LkE f p a b g) (hk : qk g p = 5) (h5 : qI g p 5 = 0) : PcE g p f a b := by
  rcases h with ⟨-, h, -⟩ | ⟨hP, ⟨-, h, -⟩ | ⟨h1, h2, h3, h4, h6, ⟨-, h⟩ | ⟨h7, h8, h9⟩⟩⟩
  · rw [h] at h5; exact absurd h5 (by decide)
  · rw [h] at h5; exact absurd h5 (by decide)
  · rw [h] at h5; exact absurd h5 (by decide)
  · exact ⟨hk, hP, h1, h7, h2, h3, h4, h9, h6, h8⟩
theorem LkE.bad {f : Nat → Int32} {p a b : Nat} {g : CS} (h : LkE f p a b g) (h5 : qI g p 5 ≠ 0) : ¬ (PcA f a b ∧ pnum (pV1 f a) ≠ 0 ∧ ¬ psh (pV1 f a) (pV2 f a) (pFr f a) b) := by
  rintro ⟨q1, q2, q3⟩
  rcases h with ⟨h, -, -⟩ | ⟨hP, ⟨h, -, -⟩ | ⟨h1, h2, h3, h4, h6, ⟨h, -⟩ | ⟨h7, h8, h9⟩⟩⟩
  · exact h q1
  · exact q2 h
  · exact q3 h
  · exact h5 h8
/-- the number that was looked at -/
theorem LkE.num {f : Nat → Int32} {p a b : Nat} {g : CS} (h : LkE f p a b g) : (qI g p 0).toNatClampNeg = pNu f a ∨ qI g p 5 ≠ 0 := by
  by_cases h5 : qI g p 5 = 0
  · rcases h with ⟨-, h, -⟩ | ⟨hP, ⟨-, h, -⟩ | ⟨h1, h2, h3, h4, h6, hh⟩⟩
    · rw [h] at h5; exact absurd h5 (by decide)
    · rw [h] at h5; exact absurd h5 (by decide)
    · exact Or.inl (by rw [h2]; rfl)
  · exact Or.inr h5
theorem m_faultOf {p m row cap n a b last : Nat} {o : Option Nat} {f : Nat → Int32} {l7 gs : Int32} {g : CS} {r : RS} (hk : qk g p = 5) (hL : LkE f p a b g) (ho : KnO g r m (qI g p 0).toNatClampNeg o) (h : RowI g row cap) (hB : RwB g row n f) (hb : b ≤ n) (hn : n ≤ 1000) (hl : l7.toInt = last) : Ok (fX3_faultOf (some p) o (some row) l7 gs g) (SmP g (fun v => v = 0 ↔ (PcA f a b ∧ pOk r f m a b last gs))) := by
  unfold fX3_faultOf
  rw [Ok_ono]
  refine ⟨p, rfl, ?_⟩
  rw [Ok_gd]
  refine ⟨hk, ?_⟩
  by_cases h5 : qI g p 5 = 0
  · have hp := hL.pc hk h5
    have hnu : (qI g p 0).toNatClampNeg = pNu f a := hL.num.resolve_right (fun q => q h5)
    rw [hnu] at ho
    obtain ⟨-, p2, p3, p4, p5, p6, p7, p8, p9, -⟩ := id hp
    have c0 : (qI g p 0).toInt = pNu f a := by rw [p5]; exact pNu_i
    rw [pif_pos h5]
    -- the end of it
    have f44 : (hasN r m (pNu f a) → (plg (pV1 f a) ↔ 4 < (kdN r m (pNu f a)).toInt)) → (hasN r m (pNu f a) → ((kdN r m (pNu f a)).toInt < 5 → ofN (punf (pV2 f a)) (kdN r m (pNu f a))) ∧ (kdN r m (pNu f a) = 5 → pTo f a b ≤ pFr f a + 12 ∧ TxN f (pFr f a) (pTo f a b))) → Ok (fX3_faultOf_44 (some p) o l7 gs g) (SmP g (fun v => v = 0 ↔ (PcA f a b ∧ pOk r f m a b last gs))) := fun y3 y4 => by
      unfold fX3_faultOf_44
      rw [Ok_ono]
      refine ⟨p, rfl, ?_⟩
      rw [Ok_gd]
      refine ⟨hk, ?_⟩
      simp only [Ok_pif, Ok_some]
      rw [t_lt, c0, hl]
      refine ⟨fun c => Ok.same (m_groupBit ho) (fun v hv => ?_), fun c => ⟨rfl, ⟨fun q => absurd (show (6 : Int32) = 0 from q) (by decide), fun q => absurd q.2.2.2.2.2.1 (by omega)⟩⟩⟩
      rw [hv]
      by_cases cb : gs &&& gbN r m (pNu f a) = 0
      · rw [pif_pos cb, Ok_some]
        exact ⟨rfl, ⟨fun _ => ⟨p2, p3, p4, y3, y4, by omega, gbN_on.mp cb⟩, fun _ => rfl⟩⟩
      · rw [pif_neg cb, Ok_some]
        exact ⟨rfl, ⟨fun q => absurd (show (7 : Int32) = 0 from q) (by decide), fun q => absurd (gbN_on.mpr q.2.2.2.2.2.2) cb⟩⟩
    by_cases co : o = none
    · have hno : ¬ hasN r m (pNu f a) := fun q => ho.1.mpr q co
      rw [pif_pos co]
      unfold fX3_faultOf_29
      rw [pif_pos co]
      exact f44 (fun q => absurd q hno) (fun q => absurd q hno)
    · rw [pif_neg co]
      obtain ⟨H, e⟩ := Option.ne_none_iff_exists'.mp co
      have hH := ho.2 H e
      have hN := ho.1.mp co
      rw [e, Ok_ono]
      refine ⟨H, rfl, ?_⟩
      rw [Ok_gd]
      have ek : gF r 1 (31 * m + pNu f a) = kdN r m (pNu f a) := rfl
      -- it fits, or not
      have f29 : (plg (pV1 f a) ↔ 4 < (kdN r m (pNu f a)).toInt) → Ok (fX3_faultOf_29 (some p) (some H) (some row) l7 gs g) (SmP g (fun v => v = 0 ↔ (PcA f a b ∧ pOk r f m a b last gs))) := fun y3 => by
        unfold fX3_faultOf_29
        rw [pif_neg (by rw [← e]; exact co)]
        refine Ok.bc (m_fits hp hH hN h hB hb hn) (fun d => ?_) (fun d => ?_)
        · rw [pif_neg (by decide), ← e]
          exact f44 (fun _ => y3) (fun _ => d)
        · rw [pif_pos rfl, Ok_some]
          exact ⟨rfl, ⟨fun q => absurd (show (5 : Int32) = 0 from q) (by decide), fun q => absurd (q.2.2.2.2.1 hN) d⟩⟩
      have hb2 := m_hasLen hH
      rw [ek] at hb2
      refine ⟨hH.1.1, Ok.bc hb2 (fun d => ?_) (fun d => ?_)⟩
      · by_cases cl : plg (pV1 f a)
        · rw [pif_pos (by rw [p6, pif_pos cl])]
          exact f29 ⟨fun _ => d, fun _ => cl⟩
        · rw [pif_neg (by rw [p6, pif_neg cl]; decide), Ok_some]
          exact ⟨rfl, ⟨fun q => absurd (show (4 : Int32) = 0 from q) (by decide), fun q => absurd ((q.2.2.2.1 hN).mpr d) cl⟩⟩
      · by_cases cl : plg (pV1 f a)
        · rw [pif_neg (by rw [p6, pif_pos cl]; decide), Ok_some]
          exact ⟨rfl, ⟨fun q => absurd (show (4 : Int32) = 0 from q) (by decide), fun q => absurd ((q.2.2.2.1 hN).mp cl) d⟩⟩
        · rw [pif_pos (by rw [p6, pif_neg cl])]
          exact f29 ⟨fun q => absurd q cl, fun q => absurd q d⟩
  · rw [pif_neg h5, Ok_some]
    exact ⟨rfl, ⟨fun q => absurd q h5, fun q => absurd ⟨q.1, q.2.1, q.2.2.1⟩ (hL.bad h5)⟩⟩
theorem m_isRec {g : CS} {r : RS} {m n : Nat} {o : Option Nat} (ho : KnO g r m n o) : Ok (fX3_isRec o g) (BC (hasN r m n ∧ kdN r m n = 6) g) := by
  unfold fX3_isRec
  by_cases c : o = none
  · rw [pif_pos c, Ok_some]
    exact Or.inr ⟨fun q => ho.1.mpr q.1 c, rfl⟩
  · rw [pif_neg c]
    obtain ⟨H, e⟩ := Option.ne_none_iff_exists'.mp c
    have hH := ho.2 H e
    have e1 : qI g H 1 = kdN r m n := hH.kd.1
    rw [e, Ok_ono]
    refine ⟨H, rfl, ?_⟩
    rw [Ok_gd, e1]
    refine ⟨hH.1.1, ?_⟩
    simp only [Ok_pif, Ok_some]
    exact ⟨fun d => Or.inl ⟨⟨ho.1.mp c, d⟩, rfl⟩, fun d => Or.inr ⟨fun q => d q.2, rfl⟩⟩

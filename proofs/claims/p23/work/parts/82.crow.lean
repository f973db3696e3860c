/-- of the class's heap only ints and longs of some ids may differ -/
def Cf (S : List Nat) (a b : CS) : Prop := qn b = qn a ∧ qs b = qs a ∧ qk b = qk a ∧ ql b = ql a ∧ qP b = qP a ∧ ∀ i, i ∉ S → qI b i = qI a i ∧ qJ b i = qJ a i
theorem Cf.rf {S : List Nat} {a : CS} : Cf S a a := ⟨rfl, rfl, rfl, rfl, rfl, fun _ _ => ⟨rfl, rfl⟩⟩
theorem Cf.tr {S : List Nat} {a b c : CS} (h1 : Cf S a b) (h2 : Cf S b c) : Cf S a c := by
  obtain ⟨a1, a2, a3, a4, a5, a6⟩ := h1
  obtain ⟨b1, b2, b3, b4, b5, b6⟩ := h2
  exact ⟨b1.trans a1, b2.trans a2, b3.trans a3, b4.trans a4, b5.trans a5, fun i hi => ⟨(b6 i hi).1.trans (a6 i hi).1, (b6 i hi).2.trans (a6 i hi).2⟩⟩
theorem Cf.wk {S S' : List Nat} {a b : CS} (h : Cf S a b) (hS : ∀ i, i ∈ S → i ∈ S') : Cf S' a b := ⟨h.1, h.2.1, h.2.2.1, h.2.2.2.1, h.2.2.2.2.1, fun i hi => h.2.2.2.2.2 i (fun q => hi (hS i q))⟩
theorem Cf.wI {S : List Nat} {a b : CS} {i k : Nat} {v : Int32} (h : Cf S a b) (hi : i ∈ S) : Cf S a (wI b i k v) := ⟨h.1, h.2.1, h.2.2.1, h.2.2.2.1, h.2.2.2.2.1, fun j hj => ⟨(va_up_ne _ _ (fun e : j = i => hj (e ▸ hi))).trans (h.2.2.2.2.2 j hj).1, (h.2.2.2.2.2 j hj).2⟩⟩
theorem Cf.wJ {S : List Nat} {a b : CS} {i k : Nat} {v : Int64} (h : Cf S a b) (hi : i ∈ S) : Cf S a (wJ b i k v) := ⟨h.1, h.2.1, h.2.2.1, h.2.2.2.1, h.2.2.2.2.1, fun j hj => ⟨(h.2.2.2.2.2 j hj).1, (va_up_ne _ _ (fun e : j = i => hj (e ▸ hi))).trans (h.2.2.2.2.2 j hj).2⟩⟩
theorem Cf.k {S : List Nat} {a b : CS} (h : Cf S a b) (i : Nat) : qk b i = qk a i := congrFun h.2.2.1 i
theorem Cf.l {S : List Nat} {a b : CS} (h : Cf S a b) (i : Nat) : ql b i = ql a i := congrFun h.2.2.2.1 i
theorem Cf.p {S : List Nat} {a b : CS} (h : Cf S a b) (i : Nat) : qP b i = qP a i := congrFun h.2.2.2.2.1 i
theorem Cf.i {S : List Nat} {a b : CS} (h : Cf S a b) {i : Nat} (hi : i ∉ S) : qI b i = qI a i := (h.2.2.2.2.2 i hi).1
theorem Cf.j {S : List Nat} {a b : CS} (h : Cf S a b) {i : Nat} (hi : i ∉ S) : qJ b i = qJ a i := (h.2.2.2.2.2 i hi).2
/-- a row: its ints stand behind it -/
def RowI (g : CS) (r cap : Nat) : Prop := qk g r = 8 ∧ qP g r 0 = some (r + 1) ∧ qk g (r + 1) = 21 ∧ ql g (r + 1) = cap ∧ 0 ≤ (qI g r 1).toInt ∧ (qI g r 1).toInt ≤ cap ∧ cap ≤ 1000
theorem RowI.fr {S : List Nat} {a b : CS} {r cap : Nat} (h : RowI a r cap) (hF : Cf S a b) (hr : r ∉ S) : RowI b r cap := by
  obtain ⟨h1, h2, h3, h4, h5, h6, h7⟩ := h
  exact ⟨by rw [hF.k]; exact h1, by rw [hF.p]; exact h2, by rw [hF.k]; exact h3, by rw [hF.l]; exact h4, by rw [hF.i hr]; exact h5, by rw [hF.i hr]; exact h6, h7⟩
theorem RowI.wB {a : CS} {r cap k : Nat} {v : Int32} (h : RowI a r cap) : RowI (wI a (r + 1) k v) r cap := by
  have e : qI (wI a (r + 1) k v) r = qI a r := va_up_ne _ _ (by omega)
  obtain ⟨h1, h2, h3, h4, h5, h6, h7⟩ := h
  exact ⟨h1, h2, h3, h4, by rw [e]; exact h5, by rw [e]; exact h6, h7⟩
theorem RowI.wS {a : CS} {r cap : Nat} {v : Int32} (h : RowI a r cap) (h0 : 0 ≤ v.toInt) (h1 : v.toInt ≤ cap) : RowI (wI a r 1 v) r cap := by
  have e : qI (wI a r 1 v) r 1 = v := by rw [qI_wI, if_pos rfl, if_pos rfl]
  obtain ⟨h1', h2, h3, h4, h5, h6, h7⟩ := h
  exact ⟨h1', h2, h3, h4, by rw [e]; exact h0, by rw [e]; exact h1, h7⟩
theorem c_size {g : CS} {r cap : Nat} (h : RowI g r cap) : Ok (fX5_size r g) (fun q => q = (qI g r 1, g)) := by
  unfold fX5_size
  rw [Ok_gd, Ok_some]
  exact ⟨h.1, rfl⟩
theorem e_nI {n : Nat} (h : n < 2147483648) : (nI n).toInt = n := nI_toInt h
/-- the byte at i, or -1 -/
noncomputable def bAt (g : CS) (r : Nat) (i : Int32) : Int32 := pif (0 ≤ i.toInt ∧ i.toInt < (qI g r 1).toInt) (qI g (r + 1) i.toNatClampNeg) (-1)
theorem c_byteAt {g : CS} {r cap : Nat} {i : Int32} (h : RowI g r cap) : Ok (fX5_byteAt r i g) (fun q => q = (bAt g r i, g)) := by
  obtain ⟨h1, h2, h3, h4, h5, h6, h7⟩ := h
  unfold fX5_byteAt bAt
  simp only [Ok_pif, Ok_some, Ok_gd, Ok_ono]
  rw [t_lt, t_le, show (0 : Int32).toInt = 0 from rfl]
  refine ⟨fun c => by rw [pif_neg (by omega)], fun c => ⟨h1, fun d => by rw [pif_neg (by omega)], fun d => ⟨r + 1, h2, h3, by rw [t_in, h4]; omega, by rw [pif_pos (by omega)]⟩⟩⟩
theorem c_cut {g : CS} {r cap : Nat} {n : Int32} (h : RowI g r cap) : Ok (fX5_cut r n g) (fun q => pif (0 ≤ n.toInt ∧ n.toInt ≤ (qI g r 1).toInt) (q = (1, wI g r 1 n)) (q = (0, g))) := by
  obtain ⟨h1, h2, h3, h4, h5, h6, h7⟩ := h
  unfold fX5_cut
  simp only [Ok_pif, Ok_some, Ok_gd, Ok_nam]
  rw [t_lt, t_le, show (0 : Int32).toInt = 0 from rfl]
  refine ⟨fun c => by rw [pif_neg (by omega)]; trivial, fun c => ⟨h1, fun d => by rw [pif_pos (by omega)]; trivial, fun d => by rw [pif_neg (by omega)]; trivial⟩⟩
theorem inc {x : Int32} (h0 : -2147483648 ≤ x.toInt) (h1 : x.toInt < 2147483647) : (x + 1).toInt = x.toInt + 1 := by
  rw [t_add (by show -2147483648 ≤ x.toInt + 1; omega) (by show x.toInt + 1 < 2147483648; omega)]
  rfl
theorem c_push {g : CS} {r cap : Nat} {b : Int32} (h : RowI g r cap) : Ok (fX5_push r b g) (fun t => Cf [r, r + 1] g t ∧ RowI t r cap ∧ ((qI g r 1).toInt < cap → t = wI (wI g (r + 1) (qI g r 1).toNatClampNeg (b &&& 255)) r 1 (qI g r 1 + 1)) ∧ (¬ (qI g r 1).toInt < cap → t = g)) := by
  have hh := h
  obtain ⟨h1, h2, h3, h4, h5, h6, h7⟩ := h
  unfold fX5_push
  simp only [Ok_pif, Ok_some, Ok_gd, Ok_nam, Ok_ono]
  refine ⟨h1, r + 1, h2, h3, fun c => ?_, fun c => ?_⟩
  · rw [t_le, e_nI (by rw [h4]; omega), h4] at c
    exact ⟨Cf.rf, hh, fun h => absurd h (by omega), fun _ => trivial⟩
  · rw [t_le, e_nI (by rw [h4]; omega), h4] at c
    have e : qI (wI g (r + 1) (qI g r 1).toNatClampNeg (b &&& 255)) r = qI g r := va_up_ne _ _ (by omega)
    rw [t_in, h4, e]
    have ei := inc (x := qI g r 1) (by omega) (by omega)
    refine ⟨by omega, (Cf.rf.wI (by simp)).wI (by simp), hh.wB.wS (by omega) (by omega), fun _ => rfl, fun h => absurd h (by omega)⟩
theorem c_pushW {g : CS} {r cap : Nat} {b : Int32} (h : RowI g r cap) : Ok (fX5_push r b g) (fun t => Cf [r, r + 1] g t ∧ RowI t r cap) := (c_push h).mono (fun t ht => ⟨ht.1, ht.2.1⟩)
theorem c_pushVarint5 (r cap : Nat) (g0 : CS) : ∀ (z i : Nat) (v : Int64) (x : Int32) (g : CS), x.toInt = i → i ≤ 10 → 10 - i < z → Cf [r, r + 1] g0 g → RowI g r cap → Ok (fX5_pushVarint_5 r z v x g) (fun t => Cf [r, r + 1] g0 t ∧ RowI t r cap) := by
  intro z
  induction z with
  | zero => intro i v x g a b c; omega
  | succ z ih =>
    intro i v x g hx hi hz hF h
    have e := inc (x := x) (by omega) (by omega)
    rw [fX5_pushVarint_5_s]
    unfold fX5_pushVarint_47
    generalize x + 1 = x' at e ⊢
    simp only [Ok_pif, Ok_some, Ok_gd]
    rw [t_le, show (10 : Int32).toInt = 10 from rfl]
    have fin : Ok (bnv (fX5_push r v.toInt32 g) (fun st_2 => some st_2)) (fun t => Cf [r, r + 1] g0 t ∧ RowI t r cap) := Ok.callv (c_pushW h) (fun t ht => by rw [Ok_some]; exact ⟨hF.tr ht.1, ht.2⟩)
    refine ⟨fun _ => ⟨h.1, fin⟩, fun c => ⟨fun _ => ⟨h.1, fin⟩, fun _ => ⟨h.1, Ok.callv (c_pushW h) (fun t ht => ?_)⟩⟩⟩
    simp only [Ok_nam]
    exact ih (i + 1) _ x' t (by omega) (by omega) (by omega) (hF.tr ht.1) ht.2
theorem c_pushVarint {r cap : Nat} {v : Int64} {g : CS} (h : RowI g r cap) : Ok (fX5_pushVarint r v g) (fun t => Cf [r, r + 1] g t ∧ RowI t r cap) := c_pushVarint5 r cap g fuel 0 v 0 g rfl (by omega) (by unfold fuel; omega) Cf.rf h
theorem c_pushNumber {r cap : Nat} {v : Int64} {g : CS} (h : RowI g r cap) : Ok (fX5_pushNumber r v g) (fun t => Cf [r, r + 1] g t ∧ RowI t r cap) := by
  unfold fX5_pushNumber
  rw [Ok_gd]
  exact ⟨h.1, Ok.callv (c_pushVarint h) (fun t ht => by rw [Ok_some]; exact ht)⟩
/-- a field with its texts -/
theorem c_hasLength {f : Nat} {g : CS} (h : qk g f = 3) : Ok (fX0_hasLength f g) (fun q => q.2 = g ∧ (q.1 = 0 ∨ q.1 = 1)) := by
  unfold fX0_hasLength
  simp only [Ok_pif, Ok_some, Ok_gd]
  exact ⟨h, fun _ => ⟨trivial, Or.inr trivial⟩, fun _ => ⟨fun _ => ⟨trivial, Or.inr trivial⟩, fun _ => ⟨trivial, Or.inl trivial⟩⟩⟩
theorem c_pushKey {r cap f : Nat} {g : CS} (h : RowI g r cap) (hf : qk g f = 3) : Ok (fX5_pushKey r (some f) g) (fun t => Cf [r, r + 1] g t ∧ RowI t r cap) := by
  unfold fX5_pushKey fX5_pushKey_22
  simp only [Ok_ono]
  refine ⟨f, rfl, ?_⟩
  rw [Ok_gd]
  refine ⟨hf, Ok.call (c_hasLength hf) (fun q t ht => ?_)⟩
  obtain ⟨t1, -⟩ := ht
  have t1 : t = g := t1
  subst t1
  simp only [Ok_pif, Ok_gd]
  exact ⟨fun _ => ⟨h.1, Ok.callv (c_pushVarint h) (fun t ht => by rw [Ok_some]; exact ht)⟩, fun _ => ⟨h.1, Ok.callv (c_pushVarint h) (fun t ht => by rw [Ok_some]; exact ht)⟩⟩
theorem c_append3 (r cap o ocap : Nat) (g0 : CS) (l3 : Int32) (hro : o ≠ r ∧ o ≠ r + 1 ∨ o = r) : ∀ (z : Nat) (x : Int32) (g : CS), -1000 ≤ x.toInt → x.toInt ≤ 1000 → (l3.toInt - x.toInt).toNat < z → l3.toInt ≤ 1000 → Cf [r, r + 1] g0 g → RowI g r cap → RowI g o ocap → Ok (fX5_append_3 r z (some o) l3 x g) (fun t => Cf [r, r + 1] g0 t ∧ RowI t r cap) := by
  intro z
  induction z with
  | zero => intro x g a b c; omega
  | succ z ih =>
    intro x g hx0 hx hz hl hF h ho
    have e := inc (x := x) (by omega) (by omega)
    rw [fX5_append_3_s]
    generalize x + 1 = x' at e ⊢
    simp only [Ok_pif, Ok_some, Ok_gd, Ok_ono]
    rw [t_le]
    refine ⟨fun _ => ⟨hF, h⟩, fun c => ⟨o, rfl, ho.1, Ok.call (c_byteAt ho) (fun q t ht => ?_)⟩⟩
    have e1 : q = bAt g o x := congrArg Prod.fst ht
    have e2 : t = g := congrArg Prod.snd ht
    subst e2
    rw [Ok_gd]
    refine ⟨h.1, Ok.callv (c_pushW h) (fun u hu => ?_)⟩
    rw [Ok_nam]
    refine ih x' u (by omega) (by omega) (by omega) hl (hF.tr hu.1) hu.2 ?_
    rcases hro with q | q
    · exact ho.fr hu.1 (by simp [q])
    · subst q
      have := ho.2.2.2.1
      have := h.2.2.2.1
      have ec : ocap = cap := by omega
      rw [ec]
      exact hu.2
theorem c_append {r cap o ocap : Nat} {a b : Int32} {g : CS} (h : RowI g r cap) (ho : RowI g o ocap) (hro : o ≠ r ∧ o ≠ r + 1 ∨ o = r) (ha : 0 ≤ a.toInt) (ha2 : a.toInt ≤ 1000) (hb : b.toInt ≤ 1000) : Ok (fX5_append r (some o) a b g) (fun t => Cf [r, r + 1] g t ∧ RowI t r cap) := c_append3 r cap o ocap g b hro fuel a g (by omega) ha2 (by unfold fuel; omega) hb Cf.rf h ho
theorem c_become6 (r cap o ocap : Nat) (g0 : CS) (l3 : Int32) (hro : o ≠ r ∧ o ≠ r + 1 ∨ o = r) : ∀ (z : Nat) (y x : Int32) (g : CS), 0 ≤ y.toInt → y.toInt ≤ cap → 0 ≤ x.toInt → x.toInt ≤ 1000 → (l3.toInt - x.toInt).toNat < z → l3.toInt ≤ 1000 → Cf [r, r + 1] g0 g → RowI g r cap → RowI g o ocap → Ok (fX5_become_6 r z (some o) l3 y x g) (fun t => Cf [r, r + 1] g0 t ∧ RowI t r cap) := by
  intro z
  induction z with
  | zero => intro y x g a0 a1 a b c; omega
  | succ z ih =>
    intro y x g hy0 hy1 hx0 hx hz hl hF h ho
    have hc := h.2.2.2.2.2.2
    have e := inc (x := x) (by omega) (by omega)
    have ey := inc (x := y) (by omega) (by omega)
    rw [fX5_become_6_s]
    unfold fX5_become_48
    generalize x + 1 = x' at e ⊢
    generalize y + 1 = y' at ey ⊢
    simp only [Ok_pif, Ok_some, Ok_gd, Ok_ono, Ok_nam]
    rw [t_le]
    have fin : Cf [r, r + 1] g0 (wI g r 1 y) ∧ RowI (wI g r 1 y) r cap := ⟨hF.wI (by simp), h.wS hy0 hy1⟩
    refine ⟨fun _ => ⟨h.1, fin⟩, fun c => ⟨h.1, r + 1, h.2.1, h.2.2.1, fun _ => ⟨h.1, fin⟩, fun d => ⟨o, rfl, ho.1, Ok.call (c_byteAt ho) (fun q t ht => ?_)⟩⟩⟩
    have e2 : t = g := congrArg Prod.snd ht
    subst e2
    rw [t_le, e_nI (by rw [h.2.2.2.1]; omega), h.2.2.2.1] at d
    simp only [Ok_gd, Ok_nam, t_in, h.2.2.2.1]
    refine ⟨by omega, ih y' x' _ (by omega) (by omega) (by omega) (by omega) (by omega) hl (hF.wI (by simp)) h.wB ?_⟩
    rcases hro with q2 | q2
    · exact ho.fr (Cf.rf.wI (S := [r + 1]) (by simp)) (by simp [q2])
    · subst q2
      exact ho.wB
theorem c_become {r cap o ocap : Nat} {a b : Int32} {g : CS} (h : RowI g r cap) (ho : RowI g o ocap) (hro : o ≠ r ∧ o ≠ r + 1 ∨ o = r) (ha : 0 ≤ a.toInt) (ha2 : a.toInt ≤ 1000) (hb : b.toInt ≤ 1000) : Ok (fX5_become r (some o) a b g) (fun t => Cf [r, r + 1] g t ∧ RowI t r cap) := c_become6 r cap o ocap g b hro fuel 0 a g (by decide) (by show (0 : Int32).toInt ≤ _; rw [show (0 : Int32).toInt = 0 from rfl]; omega) ha ha2 (by unfold fuel; omega) hb Cf.rf h ho
theorem c_replace {r cap : Nat} {i b : Int32} {g : CS} (h : RowI g r cap) : Ok (fX5_replace r i b g) (fun t => Cf [r, r + 1] g t ∧ RowI t r cap) := by
  have hh := h
  obtain ⟨h1, h2, h3, h4, h5, h6, h7⟩ := h
  unfold fX5_replace
  simp only [Ok_pif, Ok_some, Ok_gd, Ok_ono, Ok_nam]
  rw [t_lt, t_le, show (0 : Int32).toInt = 0 from rfl]
  exact ⟨fun c => ⟨Cf.rf, hh⟩, fun c => ⟨h1, fun d => ⟨Cf.rf, hh⟩, fun d => ⟨r + 1, h2, h3, by rw [t_in, h4]; omega, Cf.rf.wI (by simp), hh.wB⟩⟩⟩
theorem c_isTextByte {x : Int32} {g : CS} : Ok (fX5_isTextByte x g) (fun q => q.2 = g ∧ (q.1 = 1 ∧ (32 ≤ x.toInt ∧ x.toInt ≤ 126) ∨ q.1 = 0 ∧ ¬ (32 ≤ x.toInt ∧ x.toInt ≤ 126))) := by
  unfold fX5_isTextByte
  simp only [Ok_pif, Ok_some]
  rw [t_lt, t_lt, show (32 : Int32).toInt = 32 from rfl, show (126 : Int32).toInt = 126 from rfl]
  exact ⟨fun c => ⟨trivial, Or.inr ⟨trivial, by omega⟩⟩, fun c => ⟨fun d => ⟨trivial, Or.inr ⟨trivial, by omega⟩⟩, fun d => ⟨trivial, Or.inl ⟨trivial, by omega⟩⟩⟩⟩
theorem c_isText12 (r cap : Nat) (g : CS) (h : RowI g r cap) (l2 : Int32) (hl : l2.toInt ≤ 1000) : ∀ (z : Nat) (x : Int32), 0 ≤ x.toInt → x.toInt ≤ 1000 → (l2.toInt - x.toInt).toNat < z → Ok (fX5_isText_12 r z l2 x g) (fun q => q.2 = g ∧ (q.1 = 0 ∨ q.1 = 1)) := by
  intro z
  induction z with
  | zero => intro x a b c; omega
  | succ z ih =>
    intro x hx0 hx hz
    have e := inc (x := x) (by omega) (by omega)
    rw [fX5_isText_12_s]
    generalize x + 1 = x' at e ⊢
    simp only [Ok_pif, Ok_some, Ok_gd]
    rw [t_le]
    refine ⟨fun _ => ⟨trivial, Or.inr trivial⟩, fun c => ⟨h.1, Ok.call (c_byteAt h) (fun q t ht => ?_)⟩⟩
    have e2 : t = g := congrArg Prod.snd ht
    subst e2
    refine Ok.call c_isTextByte (fun q' t' ht' => ?_)
    obtain ⟨e3, -⟩ := ht'
    have e3 : t' = t := e3
    subst e3
    simp only [Ok_pif, Ok_some, Ok_nam]
    exact ⟨fun _ => ⟨trivial, Or.inl trivial⟩, fun _ => ih x' (by omega) (by omega) (by omega)⟩
theorem c_isText {r cap : Nat} {a b : Int32} {g : CS} (h : RowI g r cap) (ha : 0 ≤ a.toInt) (ha2 : a.toInt ≤ 1000) (hb0 : 0 ≤ b.toInt) (hb : b.toInt ≤ 1000) : Ok (fX5_isText r a b g) (fun q => q.2 = g ∧ (q.1 = 0 ∨ q.1 = 1)) := by
  unfold fX5_isText
  simp only [Ok_pif, Ok_some]
  exact ⟨fun _ => c_isText12 r cap g h b hb fuel a ha ha2 (by unfold fuel; omega), fun _ => ⟨trivial, Or.inl trivial⟩⟩

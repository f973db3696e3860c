/-! the class's reader: a row with its bytes, a varint, a piece -/
def rdL : List Nat := [48, 50, 51, 52, 53, 54, 55, 56, 57]
theorem rdL_in : ∀ i, i ∈ rdL → i ∈ cfL := by decide
/-- all stands, and only the reader's pieces have changed -/
def Sr (g t : CS) : Prop := CI t ∧ Cf rdL g t
theorem Sr.rf {g : CS} (h : CI g) : Sr g g := ⟨h, Cf.rf⟩
theorem Sr.tr {a b c : CS} (h1 : Sr a b) (h2 : Sr b c) : Sr a c := ⟨h2.1, h1.2.tr h2.2⟩
theorem Sr.sf {g t : CS} (h : Sr g t) : Sf g t := ⟨h.1, h.2.wk rdL_in⟩
theorem rdL_r : ∀ i, i ∈ rdL → 48 ≤ i ∧ i < 58 := by decide
theorem Sr.ob {g t : CS} {p : Nat} (h : CI g) (hF : Cf [p] g t) (hp : p ∈ rdL) : Sr g t := by
  have hr := rdL_r p hp
  exact ⟨(Sf.ob h hF (rdL_in p hp) (by omega)).1, hF.wk (fun i hi => by rw [List.mem_singleton.mp hi]; exact hp)⟩
theorem pc_rdL {D : Nat} (h : D < 8) : 50 + D ∈ rdL := by
  rcases (show D = 0 ∨ D = 1 ∨ D = 2 ∨ D = 3 ∨ D = 4 ∨ D = 5 ∨ D = 6 ∨ D = 7 by omega) with rfl | rfl | rfl | rfl | rfl | rfl | rfl | rfl <;> decide
/-- a row's bytes -/
def RwB (g : CS) (row n : Nat) (f : Nat → Int32) : Prop := (qI g row 1).toInt = n ∧ ∀ k, k < n → qI g (row + 1) k = f k ∧ 0 ≤ (f k).toInt ∧ (f k).toInt ≤ 255
theorem RwB.fr {S : List Nat} {g t : CS} {row n : Nat} {f : Nat → Int32} (h : RwB g row n f) (hF : Cf S g t) (h1 : row ∉ S) (h2 : row + 1 ∉ S) : RwB t row n f := by
  unfold RwB
  rw [hF.i h1, hF.i h2]
  exact h
theorem RwB.at {g : CS} {row n k : Nat} {f : Nat → Int32} {x : Int32} (h : RwB g row n f) (hx : x.toInt = k) (hk : k < n) : bAt g row x = f k := by
  have e : x.toNatClampNeg = k := by rw [t_nat]; omega
  unfold bAt
  rw [pif_pos ⟨by omega, by rw [h.1]; omega⟩, e]
  exact (h.2 k hk).1
/-- what takeVarint() leaves -/
def TvE (g0 : CS) (p : Nat) (f : Nat → Int32) (P E : Nat) (q : Int64 × CS) : Prop := Cf [p] g0 q.2 ∧ (∀ k, k ≠ 6 → k ≠ 7 → qI q.2 p k = qI g0 p k) ∧ qJ q.2 p = qJ g0 p ∧ ((∃ k, Vd f P k ∧ P + k ≤ E ∧ (qI q.2 p 6).toInt = (P + k : Nat) ∧ q.1 = vacc f P k ∧ qI q.2 p 7 = qI g0 p 7) ∨ ((∀ k, Vd f P k → ¬ P + k ≤ E) ∧ qI q.2 p 7 = 1 ∧ P ≤ (qI q.2 p 6).toInt ∧ (qI q.2 p 6).toInt ≤ E))
theorem m_takeV5 (p row cap n E P : Nat) (f : Nat → Int32) (to : Int32) (g0 : CS) (hp : qk g0 p = 5) (hpr : p ≠ row ∧ p ≠ row + 1) (hto : to.toInt = E) (hE : E ≤ n) (hn : n ≤ 1000) (hB : RwB g0 row n f) : ∀ (z i : Nat) (v : Int64) (x : Int32) (g : CS), x.toInt = i → i ≤ 10 → 10 - i < z → Cf [p] g0 g → RowI g row cap → (qI g p 6).toInt = (P + i : Nat) → (∀ k, k ≠ 6 → k ≠ 7 → qI g p k = qI g0 p k) → qJ g p = qJ g0 p → qI g p 7 = qI g0 p 7 → (∀ j, j < i → 128 ≤ (f (P + j)).toInt) → P + i ≤ E → v = vacc f P i → Ok (fX2_takeVarint_5 p z (some row) to v x g) (TvE g0 p f P E) := by
  intro z
  induction z with
  | zero => intro i v x g a b c; omega
  | succ z ih =>
    intro i v x g hx hi hz hF h h6 hk0 hj0 h7 hb hle hv
    have e := inc (x := x) (by omega) (by omega)
    have hk : qk g p = 5 := by rw [hF.k]; exact hp
    have hxi : x = Int32.ofNat i := by rw [t_eq, t_nI (by omega)]; exact hx
    have hno : ∀ k, Vd f P k → i + 1 ≤ k := fun k hk' => by
      obtain ⟨a1, a2, a3, a4, a5⟩ := hk'
      rcases Nat.lt_or_ge i k with q | q
      · omega
      · have := hb (k - 1) (by omega)
        omega
    have e7 : (∀ k, Vd f P k → ¬ P + k ≤ E) → TvE g0 p f P E ((0 : Int64), wI g p 7 1) := fun hn => by
      have e6 : qI (wI g p 7 1) p 6 = qI g p 6 := by rw [qI_wI, if_pos rfl, if_neg (by decide)]
      refine ⟨hF.wI (by simp), fun k k1 k2 => ?_, hj0, Or.inr ⟨hn, by rw [qI_wI, if_pos rfl, if_pos rfl], by rw [e6]; omega, by rw [e6]; omega⟩⟩
      rw [qI_wI, if_pos rfl, if_neg k2]
      exact hk0 k k1 k2
    have e6 := inc (x := qI g p 6) (by omega) (by omega)
    rw [fX2_takeVarint_5_s]
    unfold fX2_takeVarint_32 fX2_takeVarint_60 fX2_takeVarint_53
    generalize x + 1 = x' at e ⊢
    simp only [Ok_pif, Ok_some, Ok_gd, Ok_ono, Ok_nam]
    rw [t_le, t_le, show (10 : Int32).toInt = 10 from rfl]
    refine ⟨fun c => ⟨hk, e7 (fun k hk' => by have := hno k hk'; have := hk'.2.1; omega)⟩, fun c10 => ⟨hk, fun c => ⟨fun _ => ⟨hk, e7 (fun k hk' => by have := hno k hk'; omega)⟩, fun h => by simp at h⟩, fun c => ⟨row, rfl, h.1, Ok.call (c_byteAt h) (fun q t ht => ?_)⟩⟩⟩
    have e2 : t = g := congrArg Prod.snd ht
    have e1 : q = bAt g row (qI g p 6) := congrArg Prod.fst ht
    subst e2
    have hBt : RwB t row n f := hB.fr hF (by simp; omega) (by simp; omega)
    have eq : q = f (P + i) := by rw [e1]; exact hBt.at h6 (by omega)
    have hq := (hBt.2 (P + i) (by omega)).2
    rw [← eq] at hq
    have hst : v ||| ((q.toInt64 &&& 127) <<< ((7 * x).toInt64 &&& 63)) = vacc f P (i + 1) := by
      rw [eq, hv, hxi]
      rfl
    simp only [Ok_pif, Ok_some, Ok_gd, Ok_nam]
    have hg : (i = 9 → q.toInt ≤ 1) → (qk t p = 5 ∧ (128 ≤ q → Ok (fX2_takeVarint_5 p z (some row) to (v ||| ((q.toInt64 &&& 127) <<< ((7 * x).toInt64 &&& 63))) x' (wI t p 6 (qI t p 6 + 1))) (TvE g0 p f P E)) ∧ (¬ 128 ≤ q → TvE g0 p f P E (v ||| ((q.toInt64 &&& 127) <<< ((7 * x).toInt64 &&& 63)), wI t p 6 (qI t p 6 + 1)))) := fun h9 => by
      rw [hst]
      generalize qI t p 6 + 1 = y at e6 ⊢
      have w6 : qI (wI t p 6 y) p 6 = y := by rw [qI_wI, if_pos rfl, if_pos rfl]
      have w7 : qI (wI t p 6 y) p 7 = qI t p 7 := by rw [qI_wI, if_pos rfl, if_neg (by decide)]
      have wk : ∀ k, k ≠ 6 → k ≠ 7 → qI (wI t p 6 y) p k = qI g0 p k := fun k k1 k2 => by
        rw [qI_wI, if_pos rfl, if_neg k1]
        exact hk0 k k1 k2
      refine ⟨hk, fun c128 => ?_, fun c128 => ?_⟩
      · rw [t_le, show (128 : Int32).toInt = 128 from rfl] at c128
        exact ih (i + 1) _ x' _ (by omega) (by omega) (by omega) (hF.wI (by simp)) (h.fr (Cf.rf.wI (S := [p]) (by simp)) (by simp; omega)) (by rw [w6]; omega) wk hj0 (by rw [w7]; exact h7) (fun j hj => by
          by_cases c : j = i
          · rw [c, ← eq]; exact c128
          · exact hb j (by omega)) (by omega) rfl
      · rw [t_le, show (128 : Int32).toInt = 128 from rfl] at c128
        refine ⟨hF.wI (by simp), wk, hj0, Or.inl ⟨i + 1, ⟨by omega, by omega, fun j hj => hb j (by omega), ?_, fun hk => ?_⟩, by omega, by rw [w6]; omega, rfl, by rw [w7]; exact h7⟩⟩
        · rw [show i + 1 - 1 = i by omega, ← eq]; omega
        · have : i = 9 := by omega
          subst this
          rw [← eq]; exact h9 rfl
    refine ⟨fun cm => ?_, fun _ => ⟨fun c9 => ⟨fun c1 => hg (fun _ => ?_), fun c1 => ⟨hk, e7 (fun k hk' => ?_)⟩⟩, fun c9 => hg (fun q9 => ?_)⟩⟩
    · rw [t_eq, show (-1 : Int32).toInt = -1 from rfl] at cm
      omega
    · rw [t_le, show (1 : Int32).toInt = 1 from rfl] at c1
      exact c1
    · rw [t_le, show (1 : Int32).toInt = 1 from rfl] at c1
      rw [t_eq, show (9 : Int32).toInt = 9 from rfl] at c9
      intro _
      have a1 := hno k hk'
      have a2 := hk'.2.1
      have a5 := hk'.2.2.2.2 (by omega)
      rw [show 9 = i by omega, ← eq] at a5
      omega
    · exact absurd (by rw [t_eq, show (9 : Int32).toInt = 9 from rfl]; omega) c9
theorem m_takeVarint {p row cap n E P : Nat} {f : Nat → Int32} {to : Int32} {g : CS} (hp : qk g p = 5) (hpr : p ≠ row ∧ p ≠ row + 1) (hto : to.toInt = E) (hE : E ≤ n) (hn : n ≤ 1000) (hB : RwB g row n f) (h : RowI g row cap) (h6 : (qI g p 6).toInt = P) (hP : P ≤ E) : Ok (fX2_takeVarint p (some row) to g) (TvE g p f P E) := m_takeV5 p row cap n E P f to g hp hpr hto hE hn hB fuel 0 0 0 g rfl (by omega) (by unfold fuel; omega) Cf.rf h (by rw [h6]; rfl) (fun _ _ _ => rfl) rfl rfl (fun j hj => absurd hj (by omega)) (by omega) rfl
/-- what look() leaves -/
def LkE (f : Nat → Int32) (p a b : Nat) (t : CS) : Prop := (¬ PcA f a b ∧ qI t p 5 = 1 ∧ qI t p 0 = 0) ∨ (PcA f a b ∧ ((pnum (pV1 f a) = 0 ∧ qI t p 5 = 2 ∧ qI t p 0 = 0) ∨ (pnum (pV1 f a) ≠ 0 ∧ qI t p 0 = pnum (pV1 f a) ∧ qI t p 1 = pif (plg (pV1 f a)) 1 0 ∧ (qI t p 3).toInt = pFr f a ∧ qJ t p 2 = pV2 f a ∧ ((psh (pV1 f a) (pV2 f a) (pFr f a) b ∧ qI t p 5 = 3) ∨ (¬ psh (pV1 f a) (pV2 f a) (pFr f a) b ∧ qI t p 5 = 0 ∧ (qI t p 4).toInt = pTo f a b)))))
theorem plg0 (v : Int64) : (v &&& 1 = 0) ↔ ¬ plg v := by
  have e : uN (v &&& 1) = uN v % 2 := by
    show (v.toUInt64 &&& (1 : Int64).toUInt64).toNat = v.toUInt64.toNat % 2
    rw [UInt64.toNat_and]
    exact Nat.and_two_pow_sub_one_eq_mod v.toUInt64.toNat 1
  have h2 := uN_toInt (v &&& 1)
  rw [e, if_pos (by omega)] at h2
  rw [plg_odd, j_eq, h2, show (0 : Int64).toInt = 0 from rfl]
  omega
theorem pnum_0 (v : Int64) : pnum v = 0 ↔ ((hlf v).toInt < 1 ∨ 30 < (hlf v).toInt) := by
  have h := (hlf_nn v).1
  unfold pnum
  by_cases c : hlf v ≤ 30
  · rw [if_pos c, t_eq, Int64.toInt_toInt32]
    rw [j_le] at c
    have c : (hlf v).toInt ≤ 30 := c
    rw [t_bm (by omega) (by omega)]
    show _ = (0 : Int) ↔ _
    omega
  · rw [if_neg c]
    rw [j_le] at c
    have c : ¬ (hlf v).toInt ≤ 30 := c
    exact ⟨fun _ => Or.inr (by omega), fun _ => rfl⟩
theorem m_lk {p row cap n a b : Nat} {f : Nat → Int32} {fr to : Int32} {g : CS} (hp : qk g p = 5) (hpr : p ≠ row ∧ p ≠ row + 1) (hfr : fr.toInt = a) (hto : to.toInt = b) (hab : a ≤ b) (hb : b ≤ n) (hn : n ≤ 1000) (hB : RwB g row n f) (h : RowI g row cap) : Ok (fX2_look p (some row) fr to g) (fun t => Cf [p] g t ∧ LkE f p a b t) := by
  unfold fX2_look
  rw [Ok_gd]
  refine ⟨hp, ?_⟩
  simp only [Ok_nam]
  obtain ⟨s1, es⟩ : ∃ s1, s1 = wI (wI (wI (wI (wI (wJ (wI (wI g p 0 0) p 1 0) p 2 0) p 3 fr) p 4 to) p 5 0) p 6 fr) p 7 0 := ⟨_, rfl⟩
  rw [← es]
  have hF1 : Cf [p] g s1 := by rw [es]; exact (((((((Cf.rf.wI (by simp)).wI (by simp)).wJ (by simp)).wI (by simp)).wI (by simp)).wI (by simp)).wI (by simp)).wI (by simp)
  have a0 : qI s1 p 0 = 0 := by rw [es]; simp [qI_wI, qI_wJ]
  have a1 : qI s1 p 1 = 0 := by rw [es]; simp [qI_wI, qI_wJ]
  have a5 : qI s1 p 5 = 0 := by rw [es]; simp [qI_wI, qI_wJ]
  have a6 : qI s1 p 6 = fr := by rw [es]; simp [qI_wI, qI_wJ]
  have a7 : qI s1 p 7 = 0 := by rw [es]; simp [qI_wI, qI_wJ]
  have k1 : qk s1 p = 5 := by rw [hF1.k]; exact hp
  have r1 : RowI s1 row cap := h.fr hF1 (by simp; omega)
  have b1 : RwB s1 row n f := hB.fr hF1 (by simp; omega) (by simp; omega)
  clear es
  refine Ok.call (m_takeVarint k1 hpr hto hb hn b1 r1 (by rw [a6]; exact hfr) hab) (fun key t ht => ?_)
  obtain ⟨hF2, bk, bj, hc⟩ := ht
  have hF2 : Cf [p] s1 t := hF2
  have bk : ∀ k, k ≠ 6 → k ≠ 7 → qI t p k = qI s1 p k := bk
  have k2 : qk t p = 5 := by rw [hF2.k]; exact k1
  -- a varint is wanting
  have wan : ∀ (v : Int64) (w : CS), Cf [p] g w → qI w p 7 = 1 → qI w p 0 = 0 → ¬ PcA f a b → Ok (fX2_look_65 p to v w) (fun t => Cf [p] g t ∧ LkE f p a b t) := fun v w hw w7 w0 hno => by
    unfold fX2_look_65
    rw [Ok_gd]
    refine ⟨by rw [hw.k]; exact hp, ?_⟩
    rw [pif_neg (by rw [w7]; decide), Ok_nam, Ok_some]
    exact ⟨hw.wI (by simp), Or.inl ⟨hno, by rw [qI_wI, if_pos rfl, if_pos rfl], by rw [qI_wI, if_pos rfl, if_neg (by decide)]; exact w0⟩⟩
  rcases hc with ⟨j1, d1, d2, d3, d4, d5⟩ | ⟨d1, d2, d3, d4⟩
  case inr =>
    have d2 : qI t p 7 = 1 := d2
    rw [pif_neg (by rw [d2]; decide)]
    exact wan key t (hF1.tr hF2) d2 (by rw [bk 0 (by decide) (by decide)]; exact a0) (fun hP => d1 _ hP.1 (by have := hP.2.2; omega))
  have d3 : (qI t p 6).toInt = (a + j1 : Nat) := d3
  have d4 : key = vacc f a j1 := d4
  have d5 : qI t p 7 = qI s1 p 7 := d5
  have e1 := vk_of d1
  rw [pif_pos (by rw [d5, a7])]
  refine Ok.call (m_takeVarint k2 hpr hto hb hn (b1.fr hF2 (by simp; omega) (by simp; omega)) (r1.fr hF2 (by simp; omega)) d3 d2) (fun raw u hu => ?_)
  obtain ⟨hF3, ck, cj, hc⟩ := hu
  have hF3 : Cf [p] t u := hF3
  have ck : ∀ k, k ≠ 6 → k ≠ 7 → qI u p k = qI t p k := ck
  have k3 : qk u p = 5 := by rw [hF3.k]; exact k2
  rw [Ok_nam]
  have hFu := ((hF1.tr hF2).tr hF3).wJ (k := 2) (v := raw) (i := p) (by simp)
  rcases hc with ⟨j2, f1, f2, f3, f4, f5⟩ | ⟨f1, f2, f3, f4⟩
  case inr =>
    have f2 : qI u p 7 = 1 := f2
    exact wan key _ hFu f2 (by show qI u p 0 = 0; rw [ck 0 (by decide) (by decide), bk 0 (by decide) (by decide)]; exact a0) (fun hP => f1 _ (by have := hP.2.1; rw [e1] at this; exact this) (by have := hP.2.2; rw [e1] at this; omega))
  have f3 : (qI u p 6).toInt = (a + j1 + j2 : Nat) := f3
  have f4 : raw = vacc f (a + j1) j2 := f4
  have f5 : qI u p 7 = qI t p 7 := f5
  have e2 := vk_of f1
  have hK : PcK f a b j1 j2 := ⟨d1, f1, f2⟩
  obtain ⟨-, -, hP⟩ := hK.a
  have ev1 : key = pV1 f a := by rw [d4]; unfold pV1; rw [e1]
  have ev2 : raw = pV2 f a := by rw [f4]; unfold pV2; rw [e1, e2]
  have efr : a + j1 + j2 = pFr f a := by unfold pFr; rw [e1, e2]
  rw [efr] at f3
  have hlt := hP.lt
  have hl := (hlf_nn (pV1 f a)).1
  obtain ⟨w, ew⟩ : ∃ w, w = wJ u p 2 raw := ⟨_, rfl⟩
  rw [← ew] at hFu ⊢
  have w0 : qI w p 0 = 0 := by rw [ew]; show qI u p 0 = 0; rw [ck 0 (by decide) (by decide), bk 0 (by decide) (by decide)]; exact a0
  have w5 : qI w p 5 = 0 := by rw [ew]; show qI u p 5 = 0; rw [ck 5 (by decide) (by decide), bk 5 (by decide) (by decide)]; exact a5
  have w6 : (qI w p 6).toInt = pFr f a := by rw [ew]; exact f3
  have w7 : qI w p 7 = 0 := by rw [ew]; show qI u p 7 = 0; rw [f5, d5, a7]
  have wj : qJ w p 2 = pV2 f a := by rw [ew, qJ_wJ, if_pos rfl, if_pos rfl]; exact ev2
  have kw : qk w p = 5 := by rw [hFu.k]; exact hp
  clear ew
  unfold fX2_look_65
  rw [Ok_gd]
  refine ⟨kw, ?_⟩
  rw [pif_pos w7]
  refine Ok.callv (Q := fun t => Cf [p] g t ∧ LkE f p a b t) ?_ (fun t ht => by rw [Ok_some]; exact ht)
  rw [ev1]
  unfold fX2_place fX2_place_21
  rw [Ok_nam]
  have h14 : ((pV1 f a).toUInt64 >>> ((1 : Int32).toInt64.toUInt64 &&& Int64.toUInt64 63)).toInt64 = hlf (pV1 f a) := rfl
  rw [h14]
  have two : pnum (pV1 f a) = 0 → Cf [p] g (wI w p 5 2) ∧ LkE f p a b (wI w p 5 2) := fun h0 => ⟨hFu.wI (by simp), Or.inr ⟨hP, Or.inl ⟨h0, by rw [qI_wI, if_pos rfl, if_pos rfl], by rw [qI_wI, if_pos rfl, if_neg (by decide)]; exact w0⟩⟩⟩
  simp only [Ok_pif, Ok_gd, Ok_nam, Ok_some, lg_cmp_lt, lg_cmp_le]
  rw [j_lt, j_le, show (1 : Int64).toInt = 1 from rfl, show (30 : Int64).toInt = 30 from rfl]
  refine ⟨fun c => ⟨kw, two ((pnum_0 _).mpr (Or.inl c))⟩, fun c1 => ⟨fun c30 => ⟨kw, ?_⟩, fun c => ⟨kw, two ((pnum_0 _).mpr (Or.inr (by omega)))⟩⟩⟩
  have pn0 : pnum (pV1 f a) ≠ 0 := fun q => by
    rcases (pnum_0 _).mp q with q | q <;> omega
  have epn : (hlf (pV1 f a)).toInt32 = pnum (pV1 f a) := by
    unfold pnum
    rw [if_pos (by rw [j_le]; exact c30)]
  rw [epn]
  -- the place
  have pl : ∀ s0 : Int32, s0 = pif (plg (pV1 f a)) 1 0 → Ok (fX2_place_48 p to s0 (wI w p 0 (pnum (pV1 f a)))) (fun t => Cf [p] g t ∧ LkE f p a b t) := fun s0 hs0 => by
    have hs01 : s0 = 0 ∨ s0 = 1 := by
      rw [hs0]
      by_cases c : plg (pV1 f a)
      · rw [pif_pos c]; exact Or.inr rfl
      · rw [pif_neg c]; exact Or.inl rfl
    have hs1 : s0 = 0 ↔ ¬ plg (pV1 f a) := by
      rw [hs0]
      by_cases c : plg (pV1 f a)
      · rw [pif_pos c]; exact ⟨fun q => absurd q (by decide), fun q => absurd c q⟩
      · rw [pif_neg c]; exact ⟨fun _ => c, fun _ => rfl⟩
    unfold fX2_place_48 fX2_place_99
    simp only [Ok_gd, Ok_nam]
    obtain ⟨y, ey⟩ : ∃ y, y = wI (wI (wI (wI w p 0 (pnum (pV1 f a))) p 1 s0) p 3 (qI (wI (wI w p 0 (pnum (pV1 f a))) p 1 s0) p 6)) p 4 (qI (wI (wI (wI w p 0 (pnum (pV1 f a))) p 1 s0) p 3 (qI (wI (wI w p 0 (pnum (pV1 f a))) p 1 s0) p 6)) p 6) := ⟨_, rfl⟩
    rw [← ey]
    have hFy : Cf [p] g y := by rw [ey]; exact (((hFu.wI (by simp)).wI (by simp)).wI (by simp)).wI (by simp)
    have y0 : qI y p 0 = pnum (pV1 f a) := by rw [ey]; simp [qI_wI]
    have y1 : qI y p 1 = s0 := by rw [ey]; simp [qI_wI]
    have y3 : qI y p 3 = qI w p 6 := by rw [ey]; simp [qI_wI]
    have y4 : qI y p 4 = qI w p 6 := by rw [ey]; simp [qI_wI]
    have y5 : qI y p 5 = 0 := by rw [ey]; simp [qI_wI]; exact w5
    have y6 : qI y p 6 = qI w p 6 := by rw [ey]; simp [qI_wI]
    have yj : qJ y p 2 = pV2 f a := by rw [ey]; exact wj
    have ky : qk y p = 5 := by rw [hFy.k]; exact hp
    clear ey
    have esub : (to - qI w p 6).toInt = to.toInt - (qI w p 6).toInt := t_sub (by omega) (by omega)
    have three : psh (pV1 f a) (pV2 f a) (pFr f a) b → Cf [p] g (wI y p 5 3) ∧ LkE f p a b (wI y p 5 3) := fun hps => by
      have z : ∀ k, k ≠ 5 → qI (wI y p 5 3) p k = qI y p k := fun k hk => by rw [qI_wI, if_pos rfl, if_neg hk]
      exact ⟨hFy.wI (by simp), Or.inr ⟨hP, Or.inr ⟨pn0, by rw [z 0 (by decide)]; exact y0, by rw [z 1 (by decide), y1]; exact hs0, by rw [z 3 (by decide), y3]; exact w6, yj, Or.inl ⟨hps, by rw [qI_wI, if_pos rfl, if_pos rfl]⟩⟩⟩⟩
    rw [y1, yj, y6]
    refine ⟨kw, ⟨nar01 hs01, by rcases hs01 with q | q <;> rw [q] <;> decide⟩, ?_⟩
    simp only [Ok_pif, Ok_gd, Ok_nam, Ok_some, lg_cmp_lt, lg_cmp_le]
    rw [j_lt, j_le, j_of, esub, hto, w6, show (0 : Int64).toInt = 0 from rfl]
    refine ⟨fun c0 => ?_, fun c0 => ?_⟩
    · have nl := hs1.mp c0
      have nps : ¬ psh (pV1 f a) (pV2 f a) (pFr f a) b := fun q => nl q.1
      refine ⟨hFy, Or.inr ⟨hP, Or.inr ⟨pn0, y0, by rw [y1]; exact hs0, by rw [y3]; exact w6, yj, Or.inr ⟨nps, y5, ?_⟩⟩⟩⟩
      rw [y4, w6]
      unfold pTo pto
      rw [pif_neg (fun q => nl q.1)]
      rfl
    · have lg : plg (pV1 f a) := Classical.byContradiction (fun q => c0 (hs1.mpr q))
      refine ⟨fun cn => ⟨ky, three ⟨lg, Or.inl cn⟩⟩, fun cn => ⟨fun cl => ?_, fun cl => ⟨ky, three ⟨lg, Or.inr (by omega)⟩⟩⟩⟩
      have nps : ¬ psh (pV1 f a) (pV2 f a) (pFr f a) b := fun q => by
        rcases q.2 with q | q <;> omega
      have e32 : ((pV2 f a).toInt32).toInt = (pV2 f a).toInt := by
        rw [Int64.toInt_toInt32]
        exact t_bm (by omega) (by omega)
      have es : (qI w p 6 + (pV2 f a).toInt32).toInt = pFr f a + (pV2 f a).toInt := by rw [t_add (by omega) (by omega), e32, w6]
      generalize qI w p 6 + (pV2 f a).toInt32 = yy at es ⊢
      have z : ∀ k, k ≠ 4 → qI (wI y p 4 yy) p k = qI y p k := fun k hk => by rw [qI_wI, if_pos rfl, if_neg hk]
      refine ⟨hFy.wI (by simp), Or.inr ⟨hP, Or.inr ⟨pn0, by rw [z 0 (by decide)]; exact y0, by rw [z 1 (by decide), y1]; exact hs0, by rw [z 3 (by decide), y3]; exact w6, yj, Or.inr ⟨nps, by rw [z 5 (by decide)]; exact y5, ?_⟩⟩⟩⟩
      rw [qI_wI, if_pos rfl, if_pos rfl, es]
      unfold pTo pto
      rw [pif_pos ⟨lg, nps⟩]
      omega
  simp only [lg_cmp_eq]
  refine ⟨fun c => pl 0 ?_, fun c => pl 1 ?_⟩
  · rw [pif_neg ((plg0 _).mp c)]
  · rw [pif_pos (Classical.byContradiction (fun q => c ((plg0 _).mpr q)))]

/-! writing: the bytes as lists -/
def ix (l : List Int32) (i : Nat) : Int32 := l.getD i 0
theorem ix_l {a b : List Int32} {i : Nat} (h : i < a.length) : ix (a ++ b) i = ix a i := by
  show ((a ++ b)[i]?).getD 0 = (a[i]?).getD 0
  rw [List.getElem?_append_left h]
theorem ix_r {a b : List Int32} {i : Nat} : ix (a ++ b) (a.length + i) = ix b i := by
  show ((a ++ b)[a.length + i]?).getD 0 = (b[i]?).getD 0
  rw [List.getElem?_append_right (Nat.le_add_right _ _), Nat.add_sub_cancel_left]
theorem ix_r' {a b : List Int32} {i : Nat} (h : a.length ≤ i) : ix (a ++ b) i = ix b (i - a.length) := by
  rw [← ix_r (a := a) (b := b) (i := i - a.length), show a.length + (i - a.length) = i by omega]
theorem ix_1 {x : Int32} : ix [x] 0 = x := rfl
/-- the bytes from p on -/
def Hs (f : Nat → Int32) (p : Nat) (l : List Int32) : Prop := ∀ i, i < l.length → f (p + i) = ix l i
theorem Hs.nil {f : Nat → Int32} {p : Nat} : Hs f p [] := fun i hi => absurd hi (by simp)
theorem Hs.app {f : Nat → Int32} {p : Nat} {a b : List Int32} : Hs f p (a ++ b) ↔ Hs f p a ∧ Hs f (p + a.length) b := by
  constructor
  · intro h
    refine ⟨fun i hi => ?_, fun i hi => ?_⟩
    · rw [h i (by rw [List.length_append]; omega), ix_l hi]
    · rw [Nat.add_assoc, h _ (by rw [List.length_append]; omega), ix_r]
  · rintro ⟨h1, h2⟩ i hi
    rw [List.length_append] at hi
    rcases Nat.lt_or_ge i a.length with q | q
    · rw [ix_l q]; exact h1 i q
    · rw [ix_r' q, ← h2 _ (by omega)]
      congr 1
      omega
theorem Hs.same {f g : Nat → Int32} {p : Nat} {l : List Int32} (h : Hs f p l) (he : ∀ i, p ≤ i → i < p + l.length → g i = f i) : Hs g p l := fun i hi => by rw [he _ (by omega) (by omega)]; exact h i hi
def seg (f : Nat → Int32) (a b : Nat) : List Int32 := (List.range (b - a)).map (fun i => f (a + i))
theorem seg_len {f : Nat → Int32} {a b : Nat} : (seg f a b).length = b - a := by unfold seg; rw [List.length_map, List.length_range]
theorem ix_seg {f : Nat → Int32} {a b i : Nat} (h : i < b - a) : ix (seg f a b) i = f (a + i) := by
  show (((List.range (b - a)).map (fun i => f (a + i)))[i]?).getD 0 = _
  rw [List.getElem?_map, List.getElem?_range h]
  rfl
theorem seg_snoc {f : Nat → Int32} {a b : Nat} (h : a ≤ b) : seg f a (b + 1) = seg f a b ++ [f b] := by
  unfold seg
  rw [show b + 1 - a = (b - a) + 1 by omega, List.range_succ, List.map_append]
  show _ ++ [f (a + (b - a))] = _
  rw [show a + (b - a) = b by omega]
theorem seg_nil {f : Nat → Int32} {a b : Nat} (h : b ≤ a) : seg f a b = [] := by
  unfold seg
  rw [show b - a = 0 by omega]
  rfl
theorem seg_eq {f g : Nat → Int32} {a b : Nat} (h : ∀ i, a ≤ i → i < b → g i = f i) : seg g a b = seg f a b := by
  unfold seg
  refine List.map_congr_left (fun i hi => ?_)
  rw [List.mem_range] at hi
  exact h _ (by omega) (by omega)
/-- the bytes may be -/
def BtL (l : List Int32) : Prop := ∀ i, i < l.length → 0 ≤ (ix l i).toInt ∧ (ix l i).toInt ≤ 255
theorem BtL.app {a b : List Int32} (h1 : BtL a) (h2 : BtL b) : BtL (a ++ b) := fun i hi => by
  rw [List.length_append] at hi
  rcases Nat.lt_or_ge i a.length with q | q
  · rw [ix_l q]; exact h1 i q
  · rw [ix_r' q]; exact h2 _ (by omega)
theorem BtL.nil : BtL [] := fun i hi => absurd hi (by simp)
theorem BtL.seg {f : Nat → Int32} {a b : Nat} (h : ∀ i, a ≤ i → i < b → 0 ≤ (f i).toInt ∧ (f i).toInt ≤ 255) : BtL (seg f a b) := fun i hi => by
  rw [seg_len] at hi
  rw [ix_seg hi]
  exact h _ (by omega) (by omega)
/-! a varint, as short as can be -/
def srl7 (v : Int64) : Int64 := (v.toUInt64 >>> ((7 : Int32).toInt64.toUInt64 &&& Int64.toUInt64 63)).toInt64
theorem uN_srl7 (v : Int64) : uN (srl7 v) = uN v / 128 := uN_shr v
def viX : Nat → Int64 → List Int32
  | 0, x => [x.toInt32]
  | z + 1, x => if uN x < 128 then [x.toInt32] else ((x &&& 127).toInt32 ||| 128) :: viX z (srl7 x)
def viL (v : Int64) : List Int32 := viX 9 v
theorem viX_1 {z : Nat} {x : Int64} (h : uN x < 128) : viX z x = [x.toInt32] := by
  cases z with
  | zero => rfl
  | succ z => show (if uN x < 128 then _ else _) = _; rw [if_pos h]
theorem viX_s {z : Nat} {x : Int64} (h : 128 ≤ uN x) : viX (z + 1) x = ((x &&& 127).toInt32 ||| 128) :: viX z (srl7 x) := by
  show (if uN x < 128 then _ else _) = _
  rw [if_neg (by omega)]
theorem b128 (x : Int64) : 128 ≤ ((x &&& 127).toInt32 ||| 128).toInt ∧ ((x &&& 127).toInt32 ||| 128).toInt < 256 := or128 (y := (x &&& 127).toInt32) (by rw [to32_small (by rw [and127]; omega)]; omega) (by rw [to32_small (by rw [and127]; omega), and127]; omega)
theorem viX_len : ∀ (z j : Nat) (x : Int64), 1 ≤ j → uN x < 2 ^ (7 * j) → (viX z x).length ≤ j := by
  intro z
  induction z with
  | zero => intro j x hj _; exact hj
  | succ z ih =>
    intro j x hj hx
    by_cases c : uN x < 128
    · rw [viX_1 c]; exact hj
    · rw [viX_s (by omega)]
      rcases Nat.lt_or_ge 1 j with q | q
      · have h2 := ih (j - 1) (srl7 x) (by omega) (by
          rw [uN_srl7, Nat.div_lt_iff_lt_mul (by decide)]
          have : 2 ^ (7 * (j - 1)) * 128 = 2 ^ (7 * j) := by
            rw [show (128 : Nat) = 2 ^ 7 from rfl, ← Nat.pow_add]
            congr 1
            omega
          omega)
        show (viX z (srl7 x)).length + 1 ≤ j
        omega
      · have : j = 1 := by omega
        subst this
        exact absurd hx (by show ¬ uN x < 2 ^ 7; omega)
theorem viX_pos : ∀ (z : Nat) (x : Int64), 1 ≤ (viX z x).length ∧ (viX z x).length ≤ z + 1 := by
  intro z
  induction z with
  | zero => intro x; exact ⟨Nat.le_refl _, Nat.le_refl _⟩
  | succ z ih =>
    intro x
    by_cases c : uN x < 128
    · rw [viX_1 c]; exact ⟨Nat.le_refl _, by show 1 ≤ z + 1 + 1; omega⟩
    · rw [viX_s (by omega)]
      have := ih (srl7 x)
      show 1 ≤ (viX z (srl7 x)).length + 1 ∧ (viX z (srl7 x)).length + 1 ≤ z + 1 + 1
      omega
theorem ix_c {x : Int32} {l : List Int32} {i : Nat} : ix (x :: l) (i + 1) = ix l i := rfl
theorem viX_b : ∀ (z : Nat) (x : Int64), uN x < 2 ^ (7 * z + 1) → (∀ i, i + 1 < (viX z x).length → 128 ≤ (ix (viX z x) i).toInt ∧ (ix (viX z x) i).toInt ≤ 255) ∧ (0 ≤ (ix (viX z x) ((viX z x).length - 1)).toInt ∧ (ix (viX z x) ((viX z x).length - 1)).toInt < 128) ∧ ((viX z x).length = z + 1 → (ix (viX z x) z).toInt ≤ 1) := by
  intro z
  induction z with
  | zero =>
    intro x hx
    have hx : uN x < 2 := hx
    have e := to32_small (v := x) (by omega)
    exact ⟨fun i hi => absurd hi (by show ¬ i + 1 < 1; omega), by show 0 ≤ (x.toInt32).toInt ∧ (x.toInt32).toInt < 128; omega, fun _ => by show (x.toInt32).toInt ≤ 1; omega⟩
  | succ z ih =>
    intro x hx
    by_cases c : uN x < 128
    · have e := to32_small c
      rw [viX_1 c]
      exact ⟨fun i hi => absurd hi (by show ¬ i + 1 < 1; omega), by show 0 ≤ (x.toInt32).toInt ∧ (x.toInt32).toInt < 128; omega, fun q => absurd q (by show ¬ 1 = z + 1 + 1; omega)⟩
    · rw [viX_s (by omega)]
      have hb := b128 x
      have hp := viX_pos z (srl7 x)
      obtain ⟨h1, h2, h3⟩ := ih (srl7 x) (by
        rw [uN_srl7, Nat.div_lt_iff_lt_mul (by decide)]
        have : 2 ^ (7 * z + 1) * 128 = 2 ^ (7 * (z + 1) + 1) := by
          rw [show (128 : Nat) = 2 ^ 7 from rfl, ← Nat.pow_add]
          congr 1
        omega)
      refine ⟨fun i hi => ?_, ?_, fun q => ?_⟩
      · have hi : i + 1 < (viX z (srl7 x)).length + 1 := hi
        cases i with
        | zero => show 128 ≤ ((x &&& 127).toInt32 ||| 128).toInt ∧ ((x &&& 127).toInt32 ||| 128).toInt ≤ 255; omega
        | succ i => rw [ix_c]; exact h1 i (by omega)
      · show 0 ≤ (ix (_ :: viX z (srl7 x)) ((viX z (srl7 x)).length + 1 - 1)).toInt ∧ (ix (_ :: viX z (srl7 x)) ((viX z (srl7 x)).length + 1 - 1)).toInt < 128
        rw [show (viX z (srl7 x)).length + 1 - 1 = ((viX z (srl7 x)).length - 1) + 1 by omega, ix_c]
        exact h2
      · have q : (viX z (srl7 x)).length + 1 = z + 1 + 1 := q
        rw [ix_c]
        exact h3 (by omega)
theorem viL_pos {v : Int64} : 1 ≤ (viL v).length ∧ (viL v).length ≤ 10 := viX_pos 9 v
theorem viL_1 {v : Int64} (h : uN v < 128) : viL v = [v.toInt32] := viX_1 h
theorem viL_len {v : Int64} {j : Nat} (hj : 1 ≤ j) (h : uN v < 2 ^ (7 * j)) : (viL v).length ≤ j := viX_len 9 j v hj h
theorem viL_b {v : Int64} : (∀ i, i + 1 < (viL v).length → 128 ≤ (ix (viL v) i).toInt ∧ (ix (viL v) i).toInt ≤ 255) ∧ (0 ≤ (ix (viL v) ((viL v).length - 1)).toInt ∧ (ix (viL v) ((viL v).length - 1)).toInt < 128) ∧ ((viL v).length = 10 → (ix (viL v) 9).toInt ≤ 1) := viX_b 9 v (by have := uN_lt v; show uN v < 18446744073709551616; omega)
theorem viL_bt {v : Int64} : BtL (viL v) := fun i hi => by
  obtain ⟨h1, h2, -⟩ := viL_b (v := v)
  by_cases c : i + 1 < (viL v).length
  · have := h1 i c; omega
  · rw [show i = (viL v).length - 1 by omega]; omega
theorem viL_vd {g : Nat → Int32} {q : Nat} {v : Int64} (h : Hs g q (viL v)) : Vd g q (viL v).length := by
  obtain ⟨h1, h2, h3⟩ := viL_b (v := v)
  have hp := viL_pos (v := v)
  refine ⟨hp.1, hp.2, fun i hi => ?_, ?_, fun e => ?_⟩
  · rw [h i (by omega)]; exact (h1 i hi).1
  · rw [h _ (by omega)]; exact h2.2
  · rw [h 9 (by omega)]; exact h3 e
/-- small numbers as longs -/
def iV (k : Nat) : Int64 := Int64.ofNat k
theorem iV_i {k : Nat} (h : k < 2147483648) : (iV k).toInt = k := by
  unfold iV
  rw [Int64.toInt_ofNat_of_lt (by omega)]
theorem iV_u {k : Nat} (h : k < 2147483648) : uN (iV k) = k := by
  have h1 := uN_toInt (iV k)
  have h2 := uN_lt (iV k)
  rw [iV_i h] at h1
  by_cases c : uN (iV k) < 9223372036854775808
  · rw [if_pos c] at h1; omega
  · rw [if_neg c] at h1; omega
theorem iV_of {v : Int64} {k : Nat} (h : k < 2147483648) (hv : v.toInt = k) : v = iV k := by rw [j_eq, hv, iV_i h]
theorem viL_k {k : Nat} (h : k < 128) : viL (iV k) = [Int32.ofNat k] := by
  have hu := iV_u (k := k) (by omega)
  rw [viL_1 (by omega)]
  congr 1
  rw [t_eq, to32_small (by omega), hu, t_nI (by omega)]
/-- a piece, written anew; what is in a rec is given -/
noncomputable def pcB (st : RS) (f : Nat → Int32) (m a b : Nat) (inner : List Int32) : List Int32 := pif (hasN st m (pNu f a)) (pif (kdN st m (pNu f a) = 6) (viL (iV (2 * pNu f a + 1)) ++ (viL (iV inner.length) ++ inner)) (pif (kdN st m (pNu f a) = 5) (viL (iV (2 * pNu f a + 1)) ++ (viL (iV (pTo f a b - pFr f a)) ++ seg f (pFr f a) (pTo f a b))) (viL (iV (2 * pNu f a)) ++ viL (pV2 f a)))) (seg f a (pTo f a b))
/-- a row, written anew -/
noncomputable def wrL (st : RS) (f : Nat → Int32) : Nat → Nat → Nat → Nat → List Int32
  | 0, _, _, _ => []
  | z + 1, m, a, b => pif (a < b) (pcB st f m a b (wrL st f z (inM st m (pNu f a)) (pFr f a) (pTo f a b)) ++ wrL st f z m (pTo f a b) b) []
theorem wrL_n {st : RS} {f : Nat → Int32} {z m a b : Nat} (h : b ≤ a) : wrL st f z m a b = [] := by
  cases z with
  | zero => rfl
  | succ z => show pif (a < b) _ [] = []; rw [pif_neg (by omega)]
theorem wrL_s {st : RS} {f : Nat → Int32} {z m a b : Nat} (h : a < b) : wrL st f (z + 1) m a b = pcB st f m a b (wrL st f z (inM st m (pNu f a)) (pFr f a) (pTo f a b)) ++ wrL st f z m (pTo f a b) b := by
  show pif (a < b) _ [] = _
  rw [pif_pos h]
theorem pcB_c {st : RS} {f : Nat → Int32} {m a b : Nat} {i1 i2 : List Int32} (h : hasN st m (pNu f a) → kdN st m (pNu f a) = 6 → i1 = i2) : pcB st f m a b i1 = pcB st f m a b i2 := by
  unfold pcB
  by_cases c : hasN st m (pNu f a)
  · rw [pif_pos c, pif_pos c]
    by_cases d : kdN st m (pNu f a) = 6
    · rw [pif_pos d, pif_pos d, h c d]
    · rw [pif_neg d, pif_neg d]
  · rw [pif_neg c, pif_neg c]
/-- the measure does not matter -/
theorem wrL_st {st : RS} {f : Nat → Int32} : ∀ (w z y m a b last : Nat) (gs : Int32), SdX st f w m a b last gs → a ≤ b → b - a < z → b - a < y → wrL st f z m a b = wrL st f y m a b := by
  intro w
  induction w with
  | zero => intro z y m a b last gs h; exact h.elim
  | succ w ih =>
    intro z y m a b last gs h hab hz hy
    rcases h with h | ⟨h1, h2, h3, h4⟩
    · rw [wrL_n (by omega), wrL_n (by omega)]
    · have hlt := h1.lt
      obtain ⟨z, rfl⟩ : ∃ k, z = k + 1 := ⟨z - 1, by omega⟩
      obtain ⟨y, rfl⟩ : ∃ k, y = k + 1 := ⟨y - 1, by omega⟩
      rw [wrL_s (by omega), wrL_s (by omega), ih z y m _ b _ _ h3 (by omega) (by omega) (by omega)]
      congr 1
      exact pcB_c (fun q1 q2 => ih z y _ _ _ _ _ (h4 q1 q2) (by omega) (by omega) (by omega))
noncomputable def wrR (st : RS) (f : Nat → Int32) (m a b : Nat) : List Int32 := wrL st f (b - a + 1) m a b
theorem wrR_n {st : RS} {f : Nat → Int32} {m a b : Nat} (h : b ≤ a) : wrR st f m a b = [] := wrL_n h
theorem wrR_s {st : RS} {f : Nat → Int32} {m a b last : Nat} {gs : Int32} (h : Sd st f m a b last gs) (hab : a < b) : wrR st f m a b = pcB st f m a b (wrR st f (inM st m (pNu f a)) (pFr f a) (pTo f a b)) ++ wrR st f m (pTo f a b) b := by
  obtain ⟨h1, h2, ⟨w, h3⟩, h4⟩ := (Sd.iff (by omega)).mp h
  have hlt := h1.lt
  unfold wrR
  rw [wrL_s hab, wrL_st w (b - a) (b - pTo f a b + 1) m _ b _ _ h3 (by omega) (by omega) (by omega)]
  congr 1
  refine pcB_c (fun q1 q2 => ?_)
  obtain ⟨w2, h5⟩ := h4 q1 q2
  exact wrL_st w2 _ _ _ _ _ _ _ h5 (by omega) (by omega) (by omega)
theorem pOk.num {st : RS} {f : Nat → Int32} {m a b last : Nat} {gs : Int32} (h : pOk st f m a b last gs) (hn : hasN st m (pNu f a)) (h5 : (kdN st m (pNu f a)).toInt < 5) : pTo f a b = pFr f a ∧ ¬ plg (pV1 f a) := by
  have nl : ¬ plg (pV1 f a) := fun q => by have := (h.2.2.1 hn).mp q; omega
  refine ⟨?_, nl⟩
  unfold pTo pto
  rw [pif_neg (fun q => nl q.1)]
  rfl
/-- a piece isn't longer than it was -/
theorem pcB_len {st : RS} {f : Nat → Int32} {m a b last : Nat} {gs : Int32} {inner : List Int32} (hP : PcA f a b) (h : pOk st f m a b last gs) (hi : inner.length ≤ pTo f a b - pFr f a) (hb : b ≤ 120) (hk6 : (kdN st m (pNu f a)).toInt ≤ 6) : (pcB st f m a b inner).length ≤ pTo f a b - a := by
  have hlt := hP.lt
  have hnr := pNu_r (f := f) (a := a)
  unfold pcB
  by_cases c : hasN st m (pNu f a)
  · rw [pif_pos c]
    have e1 : ∀ k, k ≤ 61 → (viL (iV k)).length = 1 := fun k hk => by rw [viL_k (by omega)]; rfl
    by_cases d6 : kdN st m (pNu f a) = 6
    · rw [pif_pos d6, List.length_append, List.length_append, e1 _ (by omega), viL_k (k := inner.length) (by omega)]
      show 1 + (1 + inner.length) ≤ _
      omega
    · rw [pif_neg d6]
      by_cases d5 : kdN st m (pNu f a) = 5
      · rw [pif_pos d5, List.length_append, List.length_append, e1 _ (by omega), viL_k (k := pTo f a b - pFr f a) (by omega), seg_len]
        show 1 + (1 + _) ≤ _
        omega
      · rw [pif_neg d5, List.length_append, e1 _ (by omega)]
        have k5 : (kdN st m (pNu f a)).toInt < 5 := by
          have q5 : (kdN st m (pNu f a)).toInt ≠ 5 := fun q => d5 (by rw [t_eq, q]; rfl)
          have q6 : (kdN st m (pNu f a)).toInt ≠ 6 := fun q => d6 (by rw [t_eq, q]; rfl)
          omega
        have hto := (h.num c k5).1
        have k1 := hP.1.1
        have k2 := hP.2.1.1
        have k10 := hP.2.1.2.1
        have ef : pFr f a = a + vk f a + vk f (a + vk f a) := rfl
        have hl : (viL (pV2 f a)).length ≤ vk f (a + vk f a) := by
          rcases Nat.lt_or_ge 9 (vk f (a + vk f a)) with q | q
          · have := (viL_pos (v := pV2 f a)).2; omega
          · exact viL_len k2 (vacc_lt f _ _ q)
        omega
  · rw [pif_neg c, seg_len]
    omega
theorem wrX_len {st : RS} {f : Nat → Int32} (hk : ∀ m n, tld st m → hasN st m n → (kdN st m n).toInt ≤ 6 ∧ (kdN st m n = 6 → tld st (inM st m n))) : ∀ (w z m a b last : Nat) (gs : Int32), SdX st f w m a b last gs → tld st m → a ≤ b → b ≤ 120 → (wrL st f z m a b).length ≤ b - a := by
  intro w
  induction w with
  | zero => intro z m a b last gs h; exact h.elim
  | succ w ih =>
    intro z m a b last gs h htm hab hb
    cases z with
    | zero => exact Nat.zero_le _
    | succ z =>
      rcases h with h | ⟨h1, h2, h3, h4⟩
      · rw [wrL_n (by omega)]; exact Nat.zero_le _
      · have hlt := h1.lt
        rw [wrL_s (by omega), List.length_append]
        have l2 := ih z m _ b _ _ h3 htm (by omega) hb
        by_cases c : hasN st m (pNu f a) ∧ kdN st m (pNu f a) = 6
        · have l1 := ih z _ _ _ _ _ (h4 c.1 c.2) ((hk m _ htm c.1).2 c.2) (by omega) (by omega)
          have := pcB_len h1 h2 l1 hb (hk m _ htm c.1).1
          omega
        · by_cases d : hasN st m (pNu f a)
          · rw [pcB_c (i2 := []) (fun q1 q2 => absurd ⟨q1, q2⟩ c)]
            have := pcB_len h1 h2 (inner := []) (Nat.zero_le _) hb (hk m _ htm d).1
            omega
          · unfold pcB
            rw [pif_neg d, seg_len]
            omega
theorem MkI.hk {st : RS} (h : MkI st) : ∀ m n, tld st m → hasN st m n → (kdN st m n).toInt ≤ 6 ∧ (kdN st m n = 6 → tld st (inM st m n)) := fun m n hm hn => by
  obtain ⟨h1, h2, -⟩ := h m n hm.1 hm.2 hn
  refine ⟨h1, fun q => ?_⟩
  obtain ⟨i1, i2, i3⟩ := h2 q
  have := hm.1
  refine ⟨?_, i3⟩
  unfold inM
  rw [t_nat]
  omega
theorem wrR_len {st : RS} {f : Nat → Int32} {m a b last : Nat} {gs : Int32} (hM : MkI st) (h : Sd st f m a b last gs) (htm : tld st m) (hab : a ≤ b) (hb : b ≤ 120) : (wrR st f m a b).length ≤ b - a := by
  obtain ⟨w, h⟩ := h
  exact wrX_len hM.hk w _ m a b _ _ h htm hab hb
/-! what is written can be taken for pieces again -/
theorem pnum_k {v : Int64} {n e : Nat} (hv : uN v = 2 * n + e) (he : e ≤ 1) (hn : n ≤ 30) : (pnum v).toNatClampNeg = n ∧ (plg v ↔ e = 1) := by
  have h2 : (hlf v).toInt = n := by
    rw [(hlf_nn v).2]
    show ((uN v : Nat) : Int) / 2 = _
    omega
  refine ⟨?_, ?_⟩
  · unfold pnum
    rw [if_pos (by rw [j_le, h2]; show (n : Int) ≤ 30; omega), t_nat, Int64.toInt_toInt32, h2, t_bm (by omega) (by omega)]
    omega
  · rw [plg_odd, hv]
    omega
theorem vd_1 {g : Nat → Int32} {q k : Nat} (hk : k < 128) (h : g q = Int32.ofNat k) : Vd g q 1 ∧ vk g q = 1 ∧ uN (vacc g q 1) = k ∧ (vacc g q 1).toInt = k := by
  have e : (g q).toInt = k := by rw [h, t_nI (by omega)]
  have hv : Vd g q 1 := ⟨Nat.le_refl _, by omega, fun i hi => absurd hi (by omega), by show (g (q + 0)).toInt < 128; rw [Nat.add_zero]; omega, fun x => absurd x (by omega)⟩
  have v1 := vacc_1 (f := g) (p := q) (by omega) (by omega)
  exact ⟨hv, vk_of hv, by omega, by omega⟩
/-- a piece that was written, elsewhere -/
theorem pcB_rd {st : RS} {f g : Nat → Int32} {m a b q e last : Nat} {gs : Int32} {inner : List Int32} (hP : PcA f a b) (h : pOk st f m a b last gs) (hi : hasN st m (pNu f a) → kdN st m (pNu f a) = 6 → inner.length ≤ pTo f a b - pFr f a) (hb : b ≤ 120) (hk6 : hasN st m (pNu f a) → (kdN st m (pNu f a)).toInt ≤ 6) (hg : Hs g q (pcB st f m a b inner)) (he : q + (pcB st f m a b inner).length ≤ e) : PcA g q e ∧ pNu g q = pNu f a ∧ pTo g q e = q + (pcB st f m a b inner).length := by
  have hlt := hP.lt
  have hnr := pNu_r (f := f) (a := a)
  -- with a length
  have lng : ∀ L : List Int32, L.length < 128 → Hs g q (viL (iV (2 * pNu f a + 1)) ++ (viL (iV L.length) ++ L)) → q + (viL (iV (2 * pNu f a + 1)) ++ (viL (iV L.length) ++ L)).length ≤ e → PcA g q e ∧ pNu g q = pNu f a ∧ pTo g q e = q + (viL (iV (2 * pNu f a + 1)) ++ (viL (iV L.length) ++ L)).length := fun L hL hh hle => by
    rw [viL_k (k := 2 * pNu f a + 1) (by omega), viL_k hL] at hh hle ⊢
    have hlen : ([Int32.ofNat (2 * pNu f a + 1)] ++ ([Int32.ofNat L.length] ++ L)).length = 2 + L.length := by show (L.length + 1) + 1 = _; omega
    rw [hlen] at hle ⊢
    obtain ⟨x1, x2, x3, x4⟩ := vd_1 (g := g) (q := q) (k := 2 * pNu f a + 1) (by omega) (by have := hh 0 (by rw [hlen]; omega); exact this)
    obtain ⟨y1, y2, y3, y4⟩ := vd_1 (g := g) (q := q + 1) (k := L.length) hL (by have := hh 1 (by rw [hlen]; omega); exact this)
    have hK : PcK g q e 1 1 := ⟨x1, y1, by omega⟩
    obtain ⟨-, -, hA⟩ := hK.a
    have ev1 : pV1 g q = vacc g q 1 := by unfold pV1; rw [x2]
    have ev2 : pV2 g q = vacc g (q + 1) 1 := by unfold pV2; rw [x2, y2]
    have efr : pFr g q = q + 1 + 1 := by unfold pFr; rw [x2, y2]
    obtain ⟨n1, n2⟩ := pnum_k (n := pNu f a) (e := 1) x3 (Nat.le_refl _) hnr
    have lg : plg (pV1 g q) := by rw [ev1]; exact n2.mpr rfl
    have ns : ¬ psh (pV1 g q) (pV2 g q) (pFr g q) e := by
      rintro ⟨-, w⟩
      rw [ev2, y4, efr] at w
      omega
    refine ⟨hA, by unfold pNu; rw [ev1]; exact n1, ?_⟩
    unfold pTo pto
    rw [pif_pos ⟨lg, ns⟩, efr, ev2, y4]
    omega
  unfold pcB at hg he ⊢
  by_cases c : hasN st m (pNu f a)
  · have hk := hk6 c
    rw [pif_pos c] at hg he ⊢
    by_cases d6 : kdN st m (pNu f a) = 6
    · rw [pif_pos d6] at hg he ⊢
      have hi := hi c d6
      exact lng inner (by omega) hg he
    · rw [pif_neg d6] at hg he ⊢
      by_cases d5 : kdN st m (pNu f a) = 5
      · rw [pif_pos d5] at hg he ⊢
        have hl := lng (seg f (pFr f a) (pTo f a b)) (by rw [seg_len]; omega)
        rw [seg_len] at hl
        exact hl hg he
      · rw [pif_neg d5] at hg he ⊢
        obtain ⟨g1, g2⟩ := Hs.app.mp hg
        rw [viL_k (k := 2 * pNu f a) (by omega)] at g1 g2 he ⊢
        rw [List.length_append] at he ⊢
        have l1 : ([Int32.ofNat (2 * pNu f a)] : List Int32).length = 1 := rfl
        rw [l1] at g2 he ⊢
        obtain ⟨x1, x2, x3, x4⟩ := vd_1 (g := g) (q := q) (k := 2 * pNu f a) (by omega) (by have := g1 0 (by rw [l1]; omega); exact this)
        have y1 := viL_vd g2
        have hK : PcK g q e 1 (viL (pV2 f a)).length := ⟨x1, y1, by omega⟩
        obtain ⟨-, y2, hA⟩ := hK.a
        have ev1 : pV1 g q = vacc g q 1 := by unfold pV1; rw [x2]
        have efr : pFr g q = q + 1 + (viL (pV2 f a)).length := by unfold pFr; rw [x2, y2]
        obtain ⟨n1, n2⟩ := pnum_k (v := vacc g q 1) (n := pNu f a) (e := 0) (by omega) (by omega) hnr
        refine ⟨hA, by unfold pNu; rw [ev1]; exact n1, ?_⟩
        unfold pTo pto
        rw [pif_neg (fun w => by have := w.1; rw [ev1] at this; have := n2.mp this; omega), efr]
        omega
  · rw [pif_neg c, seg_len] at he
    rw [pif_neg c] at hg
    rw [pif_neg c, seg_len]
    obtain ⟨z1, -, -, -, z5, z6, -⟩ := hP.same (g := g) (q := q) (e := e) h.2.1 he (fun i hi => by rw [hg i (by rw [seg_len]; exact hi), ix_seg hi])
    exact ⟨z1, z6, z5⟩

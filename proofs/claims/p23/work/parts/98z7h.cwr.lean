/-! the class's rows, written to -/
theorem and255_b {b : Int32} (h0 : 0 ≤ b.toInt) (h1 : b.toInt ≤ 255) : b &&& 255 = b := by
  have e : b.toInt = b.toBitVec.toInt := rfl
  have e2 := BitVec.toInt_eq_toNat_cond b.toBitVec
  have hlt := b.toBitVec.isLt
  rw [← e] at e2
  have hn : b.toBitVec.toNat < 256 := by
    by_cases c : 2 * b.toBitVec.toNat < 2 ^ 32
    · rw [if_pos c] at e2; omega
    · rw [if_neg c] at e2; omega
  rw [← Int32.toBitVec_inj, Int32.toBitVec_and]
  apply BitVec.eq_of_toNat_eq
  rw [BitVec.toNat_and]
  show b.toBitVec.toNat &&& 255 = _
  rw [show (255 : Nat) = 2 ^ 8 - 1 from rfl, Nat.and_two_pow_sub_one_eq_mod]
  exact Nat.mod_eq_of_lt hn
/-- a row holds a list -/
def RwL (g : CS) (r : Nat) (l : List Int32) : Prop := (qI g r 1).toInt = l.length ∧ Hs (qI g (r + 1)) 0 l
theorem RwL.fr {S : List Nat} {g t : CS} {r : Nat} {l : List Int32} (h : RwL g r l) (hF : Cf S g t) (h1 : r ∉ S) (h2 : r + 1 ∉ S) : RwL t r l := by
  unfold RwL
  rw [hF.i h1, hF.i h2]
  exact h
theorem RwL.b {g : CS} {r : Nat} {l : List Int32} (h : RwL g r l) (hb : BtL l) : RwB g r l.length (ix l) := ⟨h.1, fun k hk => ⟨by have := h.2 k hk; rw [Nat.zero_add] at this; exact this, hb k hk⟩⟩
/-- what a push leaves -/
def PuL (g : CS) (r cap : Nat) (l : List Int32) (t : CS) : Prop := Cf [r, r + 1] g t ∧ RowI t r cap ∧ RwL t r l
theorem m_push {g : CS} {r cap : Nat} {b : Int32} {l : List Int32} (h : RowI g r cap) (hl : RwL g r l) (hs : l.length < cap) (h0 : 0 ≤ b.toInt) (h1 : b.toInt ≤ 255) : Ok (fX5_push r b g) (PuL g r cap (l ++ [b])) := by
  have hc := hl.1
  have en : (qI g r 1).toNatClampNeg = l.length := by rw [t_nat, hc]; omega
  refine (w_push h (by omega)).mono (fun t ht => ?_)
  obtain ⟨t1, t2, t3, t4, t5⟩ := ht
  rw [en] at t4 t5
  refine ⟨t1, t2, by rw [t3, hc, List.length_append]; rfl, Hs.app.mpr ⟨fun i hi => ?_, fun i hi => ?_⟩⟩
  · rw [t5 _ (by omega)]; exact hl.2 i hi
  · have hi : i < 1 := hi
    rw [show i = 0 by omega, show 0 + l.length + 0 = l.length by omega, t4, and255_b h0 h1]
    rfl
theorem and128n (x : Int64) : (x &&& (-128) = 0) ↔ uN x < 128 := by
  have e : uN (x &&& (-128)) = uN x &&& 18446744073709551488 := by
    show (x.toUInt64 &&& (-128 : Int64).toUInt64).toNat = _
    rw [UInt64.toNat_and]
    rfl
  have hlt := uN_lt x
  have h1 : uN x &&& 127 = uN x % 128 := Nat.and_two_pow_sub_one_eq_mod (uN x) 7
  constructor
  · intro h
    have h0 : uN (x &&& (-128)) = 0 := by rw [h]; rfl
    rw [e] at h0
    have h2 : uN x &&& 18446744073709551615 = uN x := by
      rw [show (18446744073709551615 : Nat) = 2 ^ 64 - 1 from rfl, Nat.and_two_pow_sub_one_eq_mod]
      exact Nat.mod_eq_of_lt hlt
    rw [show (18446744073709551615 : Nat) = 18446744073709551488 ||| 127 from by decide, Nat.and_or_distrib_left, h0, h1, Nat.zero_or] at h2
    omega
  · intro h
    have h0 : uN (x &&& (-128)) = 0 := by
      have h3 : uN x = uN x &&& 127 := by rw [h1, Nat.mod_eq_of_lt h]
      rw [e, h3, Nat.and_assoc, show (127 &&& 18446744073709551488 : Nat) = 0 from by decide, Nat.and_zero]
    have h1 := uN_toInt (x &&& (-128))
    rw [h0] at h1
    rw [j_eq, h1]
    rfl
theorem m_pushV5 (r cap : Nat) (g0 : CS) : ∀ (z i k : Nat) (v : Int64) (x : Int32) (g : CS) (l : List Int32), x.toInt = i → i + k = 9 → 10 - i < z → uN v < 2 ^ (7 * k + 1) → Cf [r, r + 1] g0 g → RowI g r cap → RwL g r l → l.length + (viX k v).length ≤ cap → Ok (fX5_pushVarint_5 r z v x g) (PuL g0 r cap (l ++ viX k v)) := by
  intro z
  induction z with
  | zero => intro i k v x g l q1 q2 q3; omega
  | succ z ih =>
    intro i k v x g l hx hik hz hv hF h hl hlen
    have e := inc (x := x) (by omega) (by omega)
    have h47 : uN v < 128 → Ok (fX5_pushVarint_47 r v g) (PuL g0 r cap (l ++ viX k v)) := fun c => by
      have e32 := to32_small c
      rw [viX_1 c] at hlen ⊢
      have hlen : l.length + 1 ≤ cap := hlen
      unfold fX5_pushVarint_47
      rw [Ok_gd]
      refine ⟨h.1, Ok.callv (m_push h hl (by omega) (by omega) (by omega)) (fun t ht => ?_)⟩
      rw [Ok_some]
      exact ⟨hF.tr ht.1, ht.2⟩
    rw [fX5_pushVarint_5_s]
    generalize x + 1 = x' at e ⊢
    rw [Ok_pif, t_le, hx, show (10 : Int32).toInt = 10 from rfl]
    refine ⟨fun c => by omega, fun _ => ?_⟩
    rw [Ok_pif, lg_cmp_eq, and128n]
    refine ⟨h47, fun c => ?_⟩
    rw [Ok_gd]
    have k0 : k ≠ 0 := fun q => by
      rw [q] at hv
      have hv : uN v < 2 := hv
      omega
    obtain ⟨k, rfl⟩ : ∃ j, k = j + 1 := ⟨k - 1, by omega⟩
    rw [viX_s (by omega)] at hlen ⊢
    have hlen : l.length + ((viX k (srl7 v)).length + 1) ≤ cap := hlen
    have hb := b128 v
    refine ⟨h.1, Ok.callv (m_push h hl (by omega) (by omega) (by omega)) (fun t ht => ?_)⟩
    rw [Ok_nam, Ok_nam]
    have hsp : l ++ ((v &&& 127).toInt32 ||| 128) :: viX k (srl7 v) = (l ++ [((v &&& 127).toInt32 ||| 128)]) ++ viX k (srl7 v) := by rw [List.append_assoc]; rfl
    rw [hsp]
    refine ih (i + 1) k (srl7 v) x' t _ (by omega) (by omega) (by omega) ?_ (hF.tr ht.1) ht.2.1 ht.2.2 (by rw [List.length_append]; show l.length + 1 + _ ≤ cap; omega)
    rw [uN_srl7, Nat.div_lt_iff_lt_mul (by decide)]
    have : 2 ^ (7 * k + 1) * 128 = 2 ^ (7 * (k + 1) + 1) := by
      rw [show (128 : Nat) = 2 ^ 7 from rfl, ← Nat.pow_add]
      congr 1
    omega
theorem m_pushV {r cap : Nat} {v : Int64} {g : CS} {l : List Int32} (h : RowI g r cap) (hl : RwL g r l) (hlen : l.length + (viL v).length ≤ cap) : Ok (fX5_pushVarint r v g) (PuL g r cap (l ++ viL v)) := m_pushV5 r cap g fuel 0 9 v 0 g l rfl (by omega) (by unfold fuel; omega) (by have := uN_lt v; show uN v < 18446744073709551616; omega) Cf.rf h hl hlen
theorem m_pushN {r cap : Nat} {v : Int64} {g : CS} {l : List Int32} (h : RowI g r cap) (hl : RwL g r l) (hlen : l.length + (viL (fold v)).length ≤ cap) : Ok (fX5_pushNumber r v g) (PuL g r cap (l ++ viL (fold v))) := by
  unfold fX5_pushNumber
  rw [Ok_gd]
  refine ⟨h.1, Ok.callv (m_pushV (v := fold v) h hl hlen) (fun t ht => ?_)⟩
  rw [Ok_some]
  exact ht
theorem m_pushK {r cap H F n : Nat} {g : CS} {rs : RS} {l : List Int32} (h : RowI g r cap) (hl : RwL g r l) (hH : EqF g H rs F n) (hn : n ≤ 30) (hlen : l.length + 1 ≤ cap) : Ok (fX5_pushKey r (some H) g) (PuL g r cap (l ++ viL (iV (2 * n + pif (4 < (gF rs 1 F).toInt) 1 0)))) := by
  have e0 : (qI g H 0).toInt = n := hH.2.1
  have em : (2 * (qI g H 0).toInt64).toInt = 2 * n := by
    rw [Int64.toInt_mul, j_of, e0]
    show Int.bmod (2 * (n : Int)) 18446744073709551616 = _
    rw [Int.bmod_def]
    omega
  have ea : ∀ (s : Int32) (e : Nat), s.toInt = e → e ≤ 1 → 2 * (qI g H 0).toInt64 + s.toInt64 = iV (2 * n + e) := fun s e hs he => by
    refine iV_of (by omega) ?_
    rw [Int64.toInt_add, em, j_of, hs]
    show Int.bmod _ 18446744073709551616 = _
    rw [Int.bmod_def]
    omega
  have go : ∀ (s : Int32) (e : Nat), s.toInt = e → e ≤ 1 → Ok (fX5_pushKey_22 r s (2 * (qI g H 0).toInt64) g) (PuL g r cap (l ++ viL (iV (2 * n + e)))) := fun s e hs he => by
    unfold fX5_pushKey_22
    rw [Ok_gd, ea s e hs he]
    refine ⟨h.1, Ok.callv (m_pushV h hl (by rw [viL_k (by omega)]; exact hlen)) (fun t ht => ?_)⟩
    rw [Ok_some]
    exact ht
  unfold fX5_pushKey
  rw [Ok_ono]
  refine ⟨H, rfl, ?_⟩
  rw [Ok_gd]
  refine ⟨hH.1.1, Ok.bc (m_hasLen hH) (fun c => ?_) (fun c => ?_)⟩
  · rw [pif_neg (by decide), pif_pos c]
    exact go 1 1 rfl (by omega)
  · rw [pif_pos rfl, pif_neg c]
    exact go 0 0 rfl (by omega)
theorem m_app3 (r cap o ocap n a b : Nat) (f : Nat → Int32) (g0 : CS) (l0 : List Int32) (l3 : Int32) (hl3 : l3.toInt = b) (hbn : b ≤ n) (hn : n ≤ 1000) (hro : o ≠ r ∧ o ≠ r + 1 ∧ o + 1 ≠ r ∧ o + 1 ≠ r + 1) (hB0 : RwB g0 o n f) (hlen : l0.length + (b - a) ≤ cap) : ∀ (z i : Nat) (x : Int32) (g : CS), x.toInt = i → a ≤ i → i ≤ b → b - i < z → Cf [r, r + 1] g0 g → RowI g r cap → RowI g o ocap → RwL g r (l0 ++ seg f a i) → Ok (fX5_append_3 r z (some o) l3 x g) (PuL g0 r cap (l0 ++ seg f a b)) := by
  intro z
  induction z with
  | zero => intro i x g q1 q2 q3 q4; omega
  | succ z ih =>
    intro i x g hx hai hib hz hF h ho hl
    have e := inc (x := x) (by omega) (by omega)
    rw [fX5_append_3_s]
    generalize x + 1 = x' at e ⊢
    rw [Ok_pif, t_le, hl3, hx, Ok_some]
    refine ⟨fun c => ?_, fun c => ?_⟩
    · rw [show i = b by omega] at hl
      exact ⟨hF, h, hl⟩
    · rw [Ok_ono]
      refine ⟨o, rfl, ?_⟩
      rw [Ok_gd]
      refine ⟨ho.1, Ok.call (c_byteAt ho) (fun q t ht => ?_)⟩
      have e2 : t = g := congrArg Prod.snd ht
      have e1 : q = bAt g o x := congrArg Prod.fst ht
      subst e2
      have hB : RwB t o n f := hB0.fr hF (by simp; omega) (by simp; omega)
      have eq : q = f i := by rw [e1]; exact hB.at hx (by omega)
      have hq := (hB.2 i (by omega)).2
      rw [← eq] at hq
      rw [Ok_gd]
      refine ⟨h.1, Ok.callv (m_push h hl (by rw [List.length_append, seg_len]; omega) hq.1 hq.2) (fun u hu => ?_)⟩
      rw [Ok_nam]
      refine ih (i + 1) x' u (by omega) (by omega) (by omega) (by omega) (hF.tr hu.1) hu.2.1 (ho.fr hu.1 (by simp; omega)) ?_
      have h3 := hu.2.2
      rw [List.append_assoc, eq, ← seg_snoc hai] at h3
      exact h3
theorem m_app {r cap o ocap n a b : Nat} {f : Nat → Int32} {x y : Int32} {g : CS} {l : List Int32} (h : RowI g r cap) (hl : RwL g r l) (ho : RowI g o ocap) (hB : RwB g o n f) (hro : o ≠ r ∧ o ≠ r + 1 ∧ o + 1 ≠ r ∧ o + 1 ≠ r + 1) (hx : x.toInt = a) (hy : y.toInt = b) (hab : a ≤ b) (hbn : b ≤ n) (hn : n ≤ 1000) (hlen : l.length + (b - a) ≤ cap) : Ok (fX5_append r (some o) x y g) (PuL g r cap (l ++ seg f a b)) := m_app3 r cap o ocap n a b f g l y hy hbn hn hro hB hlen fuel a x g hx (by omega) hab (by unfold fuel; omega) Cf.rf h ho (by rw [seg_nil (Nat.le_refl _), List.append_nil]; exact hl)
theorem m_repl {r cap k : Nat} {x b : Int32} {g : CS} {l1 l2 : List Int32} {y : Int32} (h : RowI g r cap) (hl : RwL g r (l1 ++ (y :: l2))) (hx : x.toInt = l1.length) (h0 : 0 ≤ b.toInt) (h1 : b.toInt ≤ 255) : Ok (fX5_replace r x b g) (PuL g r cap (l1 ++ (b :: l2))) := by
  have hc := hl.1
  rw [List.length_append] at hc
  have hc : (qI g r 1).toInt = (l1.length + (l2.length + 1) : Nat) := hc
  have hcap := h.2.2.2.2.2
  have xn : x.toNatClampNeg = l1.length := by rw [t_nat, hx]; omega
  unfold fX5_replace
  rw [Ok_pif, t_lt, hx, show (0 : Int32).toInt = 0 from rfl]
  refine ⟨fun c => by omega, fun _ => ?_⟩
  rw [Ok_gd, Ok_pif, t_le, hc, hx]
  refine ⟨h.1, fun c => by omega, fun _ => ?_⟩
  rw [Ok_ono]
  refine ⟨r + 1, h.2.1, ?_⟩
  rw [Ok_gd, Ok_gd, Ok_nam, Ok_some, t_in, h.2.2.2.1, hx, xn, and255_b h0 h1]
  refine ⟨h.2.2.1, by omega, Cf.rf.wI (by simp), h.wB, ?_, fun i hi => ?_⟩
  · rw [qI_wo (by omega), hc, List.length_append]; rfl
  · rw [List.length_append] at hi
    have hi : i < l1.length + (l2.length + 1) := hi
    rw [qI_wI, if_pos rfl, Nat.zero_add]
    by_cases c : i = l1.length
    · rw [if_pos c, c, ix_r' (Nat.le_refl _), Nat.sub_self]
      rfl
    · rw [if_neg c]
      have h2 := hl.2 i (by rw [List.length_append]; show i < l1.length + (l2.length + 1); omega)
      rw [Nat.zero_add] at h2
      rw [h2]
      rcases Nat.lt_or_ge i l1.length with q | q
      · rw [ix_l q, ix_l q]
      · rw [ix_r' q, ix_r' q, show i - l1.length = (i - l1.length - 1) + 1 by omega]
        rfl
theorem m_cut0 {g : CS} {r cap : Nat} (h : RowI g r cap) : Ok (fX5_cut r 0 g) (fun q => PuL g r cap [] q.2) := by
  refine (c_cut h).mono (fun q hq => ?_)
  have hz := h.2.2.2.2.1
  rw [pif_pos (show 0 ≤ (0 : Int32).toInt ∧ (0 : Int32).toInt ≤ (qI g r 1).toInt from ⟨by decide, by show (0 : Int) ≤ _; exact hz⟩)] at hq
  rw [hq]
  refine ⟨Cf.rf.wI (by simp), h.wS (by decide) (by show (0 : Int) ≤ _; omega), ?_, Hs.nil⟩
  show (qI (wI g r 1 0) r 1).toInt = _
  rw [qI_wI, if_pos rfl, if_pos rfl]
  rfl

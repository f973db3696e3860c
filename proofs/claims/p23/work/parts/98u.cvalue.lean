/-! class: a number as default -/
theorem dvN_lt {f : Nat → Int32} {s : Nat} : ∀ k, (∀ j, j < k → dgt (f (s + j))) → dvN f s k < ((10 ^ k : Nat) : Int) := by
  intro k
  induction k with
  | zero => intro _; show (0 : Int) < ((10 ^ 0 : Nat) : Int); decide
  | succ k ih =>
    intro h
    have h1 := ih (fun j hj => h j (by omega))
    have h2 := h k (by omega)
    unfold dgt at h2
    show 10 * dvN f s k + (f (s + k)).toInt - 48 < _
    rw [Nat.pow_succ]
    omega
theorem ten19 : ∀ k : Nat, k ≤ 19 → 10 ^ k ≤ 10000000000000000000 := by
  intro k hk
  have : 10 ^ k ≤ 10 ^ 19 := Nat.pow_le_pow_right (by decide) hk
  exact this
theorem i64_of {D : Int} (h0 : 0 ≤ D) (h1 : D < 18446744073709551616) : (D < 9223372036854775808 → (Int64.ofInt D).toInt = D) ∧ (9223372036854775808 ≤ D → (Int64.ofInt D).toInt = D - 18446744073709551616) := by
  constructor
  · exact fun h => of64 (by omega) h
  · intro h
    have : Int64.ofInt D = Int64.ofInt (D - 18446744073709551616) := by
      apply Int64.toInt_inj.mp
      rw [Int64.toInt_ofInt, Int64.toInt_ofInt]
      show D.bmod 18446744073709551616 = (D - 18446744073709551616).bmod 18446744073709551616
      exact (Int.sub_bmod_right D 18446744073709551616).symm
    rw [this]
    exact of64 (by omega) (by omega)
theorem w_holds {F kd : Nat} {v : Int64} {g : CS} (h : qk g F = 3) (hk : (qI g F 1).toInt = kd) (h1 : 1 ≤ kd) (h4 : kd ≤ 4) : Ok (fX0_holds F v g) (BC (ofN v (Int32.ofNat kd)) g) := by
  have ek : qI g F 1 = Int32.ofNat kd := of_nat hk
  have v01 : (v = 0 ∨ v = 1) ↔ 0 ≤ v.toInt ∧ v.toInt ≤ 1 := by
    rw [j_eq, j_eq, show (0 : Int64).toInt = 0 from rfl, show (1 : Int64).toInt = 1 from rfl]
    omega
  unfold fX0_holds ofN
  rw [ek]
  simp only [Ok_pif, Ok_some, Ok_gd, lg_cmp_lt, lg_cmp_gt]
  rw [v01, j_lt, j_lt, j_lt, j_lt, j_lt, j_lt, show (0 : Int64).toInt = 0 from rfl, show (1 : Int64).toInt = 1 from rfl, show (-128 : Int64).toInt = -128 from rfl, show (127 : Int64).toInt = 127 from rfl, show (-2147483648 : Int64).toInt = -2147483648 from rfl, show (2147483647 : Int64).toInt = 2147483647 from rfl]
  refine ⟨h, ?_⟩
  rcases (show kd = 1 ∨ kd = 2 ∨ kd = 3 ∨ kd = 4 by omega) with rfl | rfl | rfl | rfl
  · refine ⟨fun _ => ⟨fun c => Or.inr ⟨fun q => by have := q.1 rfl; omega, rfl⟩, fun c => ⟨fun d => Or.inr ⟨fun q => by have := q.1 rfl; omega, rfl⟩, fun d => Or.inl ⟨⟨fun _ => by omega, fun q => absurd q (by decide), fun q => absurd rfl q⟩, rfl⟩⟩⟩, fun q => absurd rfl q⟩
  · refine ⟨fun q => absurd q (by decide), fun _ => ⟨fun _ => ⟨fun c => Or.inr ⟨fun q => by have := q.2.1 rfl; omega, rfl⟩, fun c => ⟨fun d => Or.inr ⟨fun q => by have := q.2.1 rfl; omega, rfl⟩, fun d => Or.inl ⟨⟨fun q => absurd q (by decide), fun _ => by omega, fun _ q => absurd rfl q⟩, rfl⟩⟩⟩, fun q => absurd rfl q⟩⟩
  · refine ⟨fun q => absurd q (by decide), fun _ => ⟨fun q => absurd q (by decide), fun _ => ⟨fun _ => ⟨fun c => Or.inr ⟨fun q => by have := q.2.2 (by decide) (by decide) (by decide); omega, rfl⟩, fun c => ⟨fun d => Or.inr ⟨fun q => by have := q.2.2 (by decide) (by decide) (by decide); omega, rfl⟩, fun d => Or.inl ⟨⟨fun q => absurd q (by decide), fun q => absurd q (by decide), fun _ _ _ => by omega⟩, rfl⟩⟩⟩, fun q => absurd rfl q⟩⟩⟩
  · exact ⟨fun q => absurd q (by decide), fun _ => ⟨fun q => absurd q (by decide), fun _ => ⟨fun q => absurd q (by decide), fun _ => ⟨fun _ => Or.inl ⟨⟨fun q => absurd q (by decide), fun q => absurd q (by decide), fun _ _ q => absurd rfl q⟩, rfl⟩, fun q => absurd rfl q⟩⟩⟩⟩
/-- a number is taken -/
def VuP (f : Nat → Int32) (n F kd v : Nat) (g : CS) (q : Int32 × CS) : Prop := (VlG f n v (Int32.ofNat kd) ∧ q.1 = 1 ∧ Tf F 0 0 g q.2 ∧ Tr f n (rn dgt f n (vS f n v)) q.2 ∧ (qJ q.2 F 6).toInt = vV f n v ∧ qI q.2 F = qI g F ∧ qP q.2 F = qP g F) ∨ (¬ VlG f n v (Int32.ofNat kd) ∧ Bd f n F 0 0 g q)
theorem w_val174 {f : Nat → Int32} {n F kd v s : Nat} {l2 l7 : Int32} {s0 : Int64} {g0 g : CS} (h0 : TrI f n g0) (hO : FO g0 F) (hkd : (qI g0 F 1).toInt = kd) (h1 : 1 ≤ kd) (h4 : kd ≤ 4) (hs : s = vS f n v) (h : Tr f n (rn dgt f n s) g) (hT : Tf 46 0 0 g0 g) (hD : DigG f n s) (hb : l7 ≠ 0 → RngG f n s (v < n ∧ f v = 45) 4 s0.toInt) (hb1 : l7 = 0 → ¬ ∃ V, RngG f n s (v < n ∧ f v = 45) (Int32.ofNat kd) V) : Ok (fX6_takeValue_174 45 (some F) l2 l7 s0 g) (VuP f n F kd v g0) := by
  have keep := hO.s h0 hT
  have hF106 := hO.2.1
  have hOg := hO.fr hT
  unfold fX6_takeValue_174 fX6_takeValue_190
  have bad : ¬ VlG f n v (Int32.ofNat kd) → Ok (bnd (fX6_refuse 45 2 l2 g) (fun r t => gd (narrow .boolean (.int r) = .int r) (some (r, t)))) (VuP f n F kd v g0) := fun hc => (w_badN h.1 hT.up (by decide)).mono (fun q hq => Or.inr ⟨hc, hq⟩)
  simp only [Ok_pif, Ok_gd, Ok_ono]
  refine ⟨fun c => ⟨h.1.1.1, bad (fun q => hb1 c (by rw [hs]; exact q.2))⟩, fun c => ⟨F, rfl, hOg.1, Ok.bc (w_holds hOg.1 (by rw [keep.1]; exact hkd) h1 h4) (fun ho => ?_) (fun ho => ?_)⟩⟩
  · obtain ⟨r1, r2, r3, r4, -⟩ := hb c
    have ev : Int64.ofInt s0.toInt = s0 := by rw [j_eq, of64 r3 r4]
    have hR : RngG f n s (v < n ∧ f v = 45) (Int32.ofNat kd) s0.toInt := ⟨r1, r2, r3, r4, by rw [ev]; exact ho⟩
    simp only [Ok_pif, Ok_nam, Ok_some, Ok_gd]
    refine ⟨fun q => absurd q (by decide), fun _ => Or.inl ⟨⟨by rw [← hs]; exact hD, s0.toInt, by rw [← hs]; exact hR⟩, by trivial, ((hT.up (F := F)).tr Tf.wFJ).le (by omega) (by omega), by rw [← hs]; exact ⟨h.1.fr (Tf.wFJ (F := F)) h.1.2.2.2.2.2.j (Or.inr hF106), h.2.1, h.2.2⟩, ?_, keep.1, keep.2.2⟩⟩
    show (qJ (wJ g F 6 s0) F 6).toInt = _
    rw [qJ_wJ, if_pos rfl, if_pos rfl]
    exact vV_of (k := Int32.ofNat kd) (by rw [← hs]; exact hR)
  · simp only [Ok_pif, Ok_gd]
    refine ⟨fun _ => ⟨h.1.1.1, bad (fun q => ho ?_)⟩, fun q => absurd trivial q⟩
    obtain ⟨-, V, w1, w2, w3, w4, w5⟩ := q
    obtain ⟨r1, r2, r3, r4, -⟩ := hb c
    rw [← hs] at w1 w2
    have eV : V = s0.toInt := by
      by_cases q : v < n ∧ f v = 45
      · rw [w1 q, r1 q]
      · rw [w2 q, r2 q]
    rw [eV, show Int64.ofInt s0.toInt = s0 by rw [j_eq, of64 r3 r4]] at w5
    exact w5
theorem w_val105 {f : Nat → Int32} {n F kd v s k : Nat} {l2 l3 l4 : Int32} {l5 : Int64} {g0 g : CS} (h0 : TrI f n g0) (hO : FO g0 F) (hkd : (qI g0 F 1).toInt = kd) (h1 : 1 ≤ kd) (h4 : kd ≤ 4) (hs : s = vS f n v) (hsn : s ≤ n) (h : Tr f n (s + k) g) (hT : Tf 46 0 0 g0 g) (hl3 : l3 = 0 ↔ ¬ (v < n ∧ f v = 45)) (hl4 : l4.toInt = s) (h5 : l5 = Int64.ofInt (dvN f s k)) (hk : k ≤ 19) (hd : ∀ j, j < k → dgt (f (s + j))) (hkn : s + k ≤ n) (hend : k = 19 ∨ ¬ (s + k < n ∧ dgt (f (s + k)))) : Ok (fX6_takeValue_105 45 (some F) l2 l3 l4 l5 g) (VuP f n F kd v g0) := by
  have hn4 := h.1.n400
  have hpos := h.2.1
  have D0 := dvN_r k hd
  have D1 := dvN_lt k hd
  have D2 := ten19 k hk
  have bad : ¬ VlG f n v (Int32.ofNat kd) → Ok (bnd (fX6_refuse 45 1 (qI g 45 3) g) (fun r t => gd (narrow .boolean (.int r) = .int r) (some (r, t)))) (VuP f n F kd v g0) := fun hc => (w_badN h.1 hT.up (by decide)).mono (fun q hq => Or.inr ⟨hc, hq⟩)
  unfold fX6_takeValue_105 fX6_takeValue_125
  rw [Ok_gd, Ok_pif, t_eq, hpos, hl4]
  refine ⟨h.1.1.1, fun c => ?_, fun c => Ok.bc (w_isDigit h.1 hpos) (fun hg => ?_) (fun hg => ?_)⟩
  · rw [Ok_gd]
    refine ⟨h.1.1.1, bad (fun q => ?_)⟩
    have k0 : k = 0 := by omega
    subst k0
    have hno : ¬ (s < n ∧ dgt (f s)) := hend.resolve_left (by decide)
    have := q.1.1
    rw [← hs, rn_stop hno] at this
    omega
  · rw [Ok_pif]
    refine ⟨fun q => absurd q (by decide), fun _ => ?_⟩
    rw [Ok_gd]
    refine ⟨h.1.1.1, bad (fun q => ?_)⟩
    have k19 : k = 19 := hend.resolve_right (fun r => r hg)
    have q2 := q.1.2
    rw [← hs] at q2
    have r1 := (rn_run dgt f n s).2.2
    have hge := rn_ge dgt f n s
    obtain ⟨j, hj⟩ : ∃ j, rn dgt f n s = s + j := ⟨rn dgt f n s - s, by omega⟩
    rw [hj] at r1 q2
    rcases Nat.lt_or_ge j k with q4 | q4
    · exact r1 ⟨by omega, hd j q4⟩
    · rw [show j = k by omega] at r1; exact r1 hg
  · have er : s + k = rn dgt f n s := run.eq ⟨by omega, fun j j1 j2 => ⟨by omega, by have := hd (j - s) (by omega); rw [show s + (j - s) = j by omega] at this; exact this⟩, hg⟩
    have ek : rn dgt f n s - s = k := by omega
    have hD : DigG f n s := ⟨by omega, by omega⟩
    have hTr : Tr f n (rn dgt f n s) g := by rw [← er]; exact h
    obtain ⟨i1, i2⟩ := i64_of D0 (by omega : dvN f s k < 18446744073709551616)
    rw [← h5] at i1 i2
    clear h5
    have hR : ∀ V, RngG f n s (v < n ∧ f v = 45) 4 V ↔ ((v < n ∧ f v = 45) → V = - dvN f s k) ∧ (¬ (v < n ∧ f v = 45) → V = dvN f s k) ∧ -9223372036854775808 ≤ V ∧ V < 9223372036854775808 := fun V => by
      unfold RngG
      rw [ek]
      exact ⟨fun q => ⟨q.1, q.2.1, q.2.2.1, q.2.2.2.1⟩, fun q => ⟨q.1, q.2.1, q.2.2.1, q.2.2.2, ofN_4 _⟩⟩
    have hRk : (∃ V, RngG f n s (v < n ∧ f v = 45) (Int32.ofNat kd) V) → ∃ V, RngG f n s (v < n ∧ f v = 45) 4 V := fun ⟨V, q1, q2, q3, q4, _⟩ => ⟨V, q1, q2, q3, q4, ofN_4 _⟩
    have min64 : (-9223372036854775808 : Int64).toInt = -9223372036854775808 := rfl
    -- whether it is a long
    have yes : (dvN f s k < 9223372036854775808 ∨ (v < n ∧ f v = 45) ∧ dvN f s k = 9223372036854775808) → Ok (fX6_takeValue_155 45 (some F) l2 l3 l5 g) (VuP f n F kd v g0) := fun hy => by
      unfold fX6_takeValue_155 fX6_takeValue_160
      rw [Ok_pif]
      refine ⟨fun c3 => w_val174 h0 hO hkd h1 h4 hs hTr hT hD (fun _ => (hR _).mpr ?_) (fun q => absurd q (by decide)), fun c3 => w_val174 h0 hO hkd h1 h4 hs hTr hT hD (fun _ => (hR _).mpr ?_) (fun q => absurd q (by decide))⟩
      · have hng := hl3.mp c3
        have hlt : dvN f s k < 9223372036854775808 := hy.resolve_right (fun q => hng q.1)
        have := i1 hlt
        exact ⟨fun q => absurd q hng, fun _ => this, by omega, by omega⟩
      · have hng : v < n ∧ f v = 45 := Classical.byContradiction (fun q => c3 (hl3.mpr q))
        have e0 : (-l5).toInt = - dvN f s k := by
          rcases Int.lt_or_le (dvN f s k) 9223372036854775808 with q | q
          · have e := i1 q
            rw [Int64.toInt_neg, e]
            exact j_bm (by omega) (by omega)
          · have e : dvN f s k = 9223372036854775808 := by
              rcases hy with y | y
              · omega
              · exact y.2
            have e2 := i2 q
            rw [e] at e2
            have e3 : l5 = -9223372036854775808 := by rw [j_eq, min64]; omega
            rw [e3, e]
            rfl
        exact ⟨fun _ => e0, fun q => absurd hng q, by omega, by omega⟩
    have no : ¬ (dvN f s k < 9223372036854775808 ∨ (v < n ∧ f v = 45) ∧ dvN f s k = 9223372036854775808) → Ok (fX6_takeValue_159 45 (some F) l2 l3 l5 g) (VuP f n F kd v g0) := fun hy => by
      have hno : ¬ ∃ V, RngG f n s (v < n ∧ f v = 45) (Int32.ofNat kd) V := fun q => by
        obtain ⟨V, q⟩ := hRk q
        obtain ⟨q1, q2, q3, q4⟩ := (hR V).mp q
        by_cases c45 : v < n ∧ f v = 45
        · have := q1 c45
          exact hy (by
            rcases Int.lt_or_le (dvN f s k) 9223372036854775808 with r | r
            · exact Or.inl r
            · exact Or.inr ⟨c45, by omega⟩)
        · have := q2 c45
          exact hy (Or.inl (by omega))
      unfold fX6_takeValue_159 fX6_takeValue_160
      rw [Ok_pif]
      exact ⟨fun c3 => w_val174 h0 hO hkd h1 h4 hs hTr hT hD (fun q => absurd rfl q) (fun _ => hno), fun c3 => w_val174 h0 hO hkd h1 h4 hs hTr hT hD (fun q => absurd rfl q) (fun _ => hno)⟩
    rw [Ok_pif]
    refine ⟨fun _ => ?_, fun q => absurd rfl q⟩
    simp only [Ok_pif, lg_cmp_ge, lg_cmp_eq]
    rw [j_le, j_eq, min64, show (0 : Int64).toInt = 0 from rfl]
    refine ⟨fun c1 => yes (Or.inl ?_), fun c1 => ⟨fun c3 => no (fun q => ?_), fun c3 => ⟨fun c4 => yes (Or.inr ⟨Classical.byContradiction (fun q => c3 (hl3.mpr q)), ?_⟩), fun c4 => no (fun q => ?_)⟩⟩⟩
    · rcases Int.lt_or_le (dvN f s k) 9223372036854775808 with q | q
      · exact q
      · have := i2 q
        omega
    · rcases q with q | q
      · have := i1 q
        omega
      · exact hl3.mp c3 q.1
    · rcases Int.lt_or_le (dvN f s k) 9223372036854775808 with q | q
      · have := i1 q
        omega
      · have := i2 q
        omega
    · rcases q with q | q
      · have := i1 q
        omega
      · have := i2 (by omega)
        omega
theorem ofI_step {D d : Int} {x : Int32} (hx : x.toInt = d) : Int64.ofInt D * 10 + x.toInt64 = Int64.ofInt (10 * D + d) := by
  apply Int64.toInt_inj.mp
  rw [Int64.toInt_add, Int64.toInt_mul, Int64.toInt_ofInt, Int64.toInt_ofInt, j_of, hx]
  show ((D.bmod 18446744073709551616 * 10).bmod 18446744073709551616 + d).bmod 18446744073709551616 = (10 * D + d).bmod 18446744073709551616
  rw [Int.bmod_add_bmod, Int.add_comm _ d, Int.add_comm (10 * D) d, ← Int.add_bmod_bmod, Int.bmod_mul_bmod, Int.add_bmod_bmod, Int.mul_comm]
theorem w_val53 (f : Nat → Int32) (n F kd v s : Nat) (l2 l3 l4 : Int32) (g0 : CS) (h0 : TrI f n g0) (hO : FO g0 F) (hkd : (qI g0 F 1).toInt = kd) (h1 : 1 ≤ kd) (h4 : kd ≤ 4) (hs : s = vS f n v) (hsn : s ≤ n) (hl3 : l3 = 0 ↔ ¬ (v < n ∧ f v = 45)) (hl4 : l4.toInt = s) : ∀ (z k : Nat) (x : Int32) (l5 : Int64) (g : CS), x.toInt = k → k ≤ 19 → 19 - k < z → s + k ≤ n → Tr f n (s + k) g → Tf 46 0 0 g0 g → l5 = Int64.ofInt (dvN f s k) → (∀ j, j < k → dgt (f (s + j))) → Ok (fX6_takeValue_53 45 z (some F) l2 l3 l4 l5 x g) (VuP f n F kd v g0) := by
  intro z
  induction z with
  | zero => intro k x l5 g a b c; omega
  | succ z ih =>
    intro k x l5 g hx hk hz hkn hT hF h5 hd
    have hn4 := hT.1.n400
    have hpos := hT.2.1
    have e := inc (x := x) (by omega) (by omega)
    have e3 := inc (x := qI g 45 3) (by omega) (by omega)
    have fin : (k = 19 ∨ ¬ (s + k < n ∧ dgt (f (s + k)))) → Ok (fX6_takeValue_105 45 (some F) l2 l3 l4 l5 g) (VuP f n F kd v g0) := fun he => w_val105 h0 hO hkd h1 h4 hs hsn hT hF hl3 hl4 h5 hk hd hkn he
    rw [fX6_takeValue_53_s]
    generalize x + 1 = x' at e ⊢
    rw [Ok_pif, t_le, hx, show (19 : Int32).toInt = 19 from rfl]
    refine ⟨fun c => fin (Or.inl (by omega)), fun c => ?_⟩
    rw [Ok_gd]
    refine ⟨hT.1.1.1, Ok.bc (w_isDigit hT.1 hpos) (fun hg => ?_) (fun hg => ?_)⟩
    · rw [Ok_pif]
      refine ⟨fun q => absurd q (by decide), fun _ => Ok.call (w_digitAt hT.1 hpos) (fun r t ht => ?_)⟩
      obtain ⟨t1, t2⟩ := ht
      have t1 : t = g := t1
      subst t1
      have t3 : r.toInt = (f (s + k)).toInt - 48 := by
        rcases t2 with q | q
        · exact q.2
        · exact absurd hg q.1
      simp only [Ok_nam]
      obtain ⟨g1, g2⟩ := hT.go (d := 1) (x := qI t 45 3 + 1) (by omega)
      refine ih (k + 1) x' _ _ (by omega) (by omega) (by omega) (by have := hg.1; omega) g1 ((hF.tr g2).le (by omega) (by omega)) ?_ (fun j hj => ?_)
      · rw [h5, ofI_step t3]
        congr 1
        show _ = 10 * dvN f s k + (f (s + k)).toInt - 48
        omega
      · by_cases cj : j = k
        · rw [cj]; exact hg.2
        · exact hd j (by omega)
    · rw [Ok_pif]
      exact ⟨fun _ => fin (Or.inr hg), fun q => absurd rfl q⟩
theorem w_takeValue {f : Nat → Int32} {n F kd v : Nat} {g : CS} (hv : v ≤ n) (h : Tr f n v g) (hO : FO g F) (hkd : (qI g F 1).toInt = kd) (h1 : 1 ≤ kd) (h4 : kd ≤ 4) : Ok (fX6_takeValue 45 (some F) g) (VuP f n F kd v g) := by
  have hn4 := h.1.n400
  have hpos := h.2.1
  have e3 := inc (x := qI g 45 3) (by omega) (by omega)
  unfold fX6_takeValue
  simp only [Ok_gd, Ok_ono, Ok_nam]
  refine ⟨h.1.1.1, 33, h.1.1.2.1, h.1.2.1.1, Ok.call (w_at h.1 h.2.1) (fun r t ht => ?_)⟩
  cases ht
  have h45 : pk1 f n v = 45 ↔ v < n ∧ f v = 45 := pk1_P (P := fun x => x = 45) (by decide)
  unfold fX6_takeValue_26 fX6_takeValue_41
  rw [Ok_pif, h45]
  refine ⟨fun c => ?_, fun c => ?_⟩
  · rw [Ok_pif]
    refine ⟨fun q => absurd q (by decide), fun _ => ?_⟩
    simp only [Ok_gd, Ok_nam]
    obtain ⟨g1, g2⟩ := h.go (d := 1) (x := qI g 45 3 + 1) (by omega)
    have hs : v + 1 = vS f n v := by unfold vS; rw [pif_pos c]
    exact ⟨h.1.1.1, g1.1.1.1, w_val53 f n F kd v (v + 1) _ _ _ g h.1 hO hkd h1 h4 hs (by have := c.1; omega) ⟨fun q => absurd q (by decide), fun q => absurd c q⟩ g1.2.1 fuel 0 0 _ _ rfl (by omega) (by unfold fuel; omega) (by have := c.1; omega) g1 (g2.le (by omega) (by omega)) rfl (fun j hj => absurd hj (by omega))⟩
  · rw [Ok_pif]
    refine ⟨fun _ => ?_, fun q => absurd rfl q⟩
    simp only [Ok_gd, Ok_nam]
    have hs : v = vS f n v := by unfold vS; rw [pif_neg c]
    exact ⟨h.1.1.1, w_val53 f n F kd v v _ _ _ g h.1 hO hkd h1 h4 hs hv ⟨fun _ => c, fun _ => rfl⟩ hpos fuel 0 0 _ _ rfl (by omega) (by unfold fuel; omega) (by omega) h Tf.rf rfl (fun j hj => absurd hj (by omega))⟩
/-! class: perhaps a default, then the end -/
/-- the default without the end -/
noncomputable def dcF (f : Nat → Int32) (n kd p : Nat) : Option ((Int × Nat) × Nat) :=
  pif (rn blk f n p < n ∧ f (rn blk f n p) = 61 ∧ kd ≠ 6)
    (nam (rn blk f n (rn blk f n p + 1)) (fun v =>
      pif (kd = 5)
        (pif ((v < n ∧ f v = 34) ∧ TxtG f n (v + 1)) (some ((((rn qtb f n (v + 1) - (v + 1) : Nat) : Int), v + 1), rn qtb f n (v + 1) + 1)) none)
        (pif (VlG f n v (Int32.ofNat kd)) (some ((vV f n v, 0), rn dgt f n (vS f n v))) none)))
    (some ((0, 0), p))
theorem pif_bind {α β : Type} {c : Prop} {a b : Option α} {k : α → Option β} : (pif c a b).bind k = pif c (a.bind k) (b.bind k) := by
  by_cases h : c
  · rw [pif_pos h, pif_pos h]
  · rw [pif_neg h, pif_neg h]
theorem dfF_dc {f : Nat → Int32} {n kd p : Nat} : dfF f n kd p = (dcF f n kd p).bind (fun z => clF f n z.2 z.1) := by
  unfold dfF dcF
  simp only [nam_x, pif_bind]
  rfl
/-- the default -/
def DcP (f : Nat → Int32) (n F kd p : Nat) (g : CS) (q : Int32 × CS) : Prop := Rs (dcF f n kd p) (fun z => q.1 = 1 ∧ Tf F 2 4 g q.2 ∧ (∃ p', Tr f n p' q.2 ∧ p' ≤ n ∧ rn blk f n p' = rn blk f n z.2) ∧ qI q.2 F = qI g F ∧ (∀ j, j ≠ 5 → qP q.2 F j = qP g F j) ∧ (kd = 5 → ∃ s, qP q.2 F 5 = some s ∧ StC f z.1.2 z.1.1.toNat s q.2 ∧ 0 ≤ z.1.1 ∧ (qJ q.2 F 6).toInt = 0) ∧ (kd ≠ 5 → qP q.2 F 5 = qP g F 5 ∧ (qJ q.2 F 6).toInt = z.1.1)) (Bd f n F 2 4 g q)
theorem w_takeDefault {f : Nat → Int32} {n F kd p p' : Nat} {g : CS} (hp : p' ≤ n) (h : Tr f n p' g) (hpp : rn blk f n p' = rn blk f n p) (hO : FO g F) (hkd : (qI g F 1).toInt = kd) (h1 : 1 ≤ kd) (h6 : kd ≤ 6) (hj : (qJ g F 6).toInt = 0) (ht : qP g F 5 = some 0) : Ok (fX6_takeDefault 45 (some F) g) (DcP f n F kd p g) := by
  have hn4 := h.1.n400
  have hF106 := hO.2.1
  unfold fX6_takeDefault fX6_takeDefault_4
  rw [Ok_gd]
  refine ⟨h.1.1.1, Ok.callv (w_skip h hp) (fun u hu => ?_)⟩
  obtain ⟨u1, u2⟩ := hu
  have hw := rn_le blk f hp
  have hid := rn_idem blk f n p'
  have keep := hO.s h.1 u2
  have hOu := hO.fr u2
  have hdc : dcF f n kd p = pif (rn blk f n p' < n ∧ f (rn blk f n p') = 61 ∧ kd ≠ 6)
    (nam (rn blk f n (rn blk f n p' + 1)) (fun v =>
      pif (kd = 5)
        (pif ((v < n ∧ f v = 34) ∧ TxtG f n (v + 1)) (some ((((rn qtb f n (v + 1) - (v + 1) : Nat) : Int), v + 1), rn qtb f n (v + 1) + 1)) none)
        (pif (VlG f n v (Int32.ofNat kd)) (some ((vV f n v, 0), rn dgt f n (vS f n v))) none)))
    (some ((0, 0), p)) := by unfold dcF; rw [hpp]
  have hpb : rn blk f n (rn blk f n p') = rn blk f n p := by rw [hid, hpp]
  unfold DcP
  rw [hdc]
  clear hdc
  generalize rn blk f n p' = b at *
  have hpos := u1.2.1
  have e3 := inc (x := qI u 45 3) (by omega) (by omega)
  have h61 : pk1 f n b = 61 ↔ b < n ∧ f b = 61 := pk1_P (P := fun x => x = 61) (by decide)
  have hku : (qI u F 1).toInt = kd := by rw [keep.1]; exact hkd
  have none' : ¬ (b < n ∧ f b = 61 ∧ kd ≠ 6) → Rs (pif (b < n ∧ f b = 61 ∧ kd ≠ 6)
    (nam (rn blk f n (b + 1)) (fun v =>
      pif (kd = 5)
        (pif ((v < n ∧ f v = 34) ∧ TxtG f n (v + 1)) (some ((((rn qtb f n (v + 1) - (v + 1) : Nat) : Int), v + 1), rn qtb f n (v + 1) + 1)) none)
        (pif (VlG f n v (Int32.ofNat kd)) (some ((vV f n v, 0), rn dgt f n (vS f n v))) none)))
    (some (((0 : Int), (0 : Nat)), p))) (fun z => ((1 : Int32), u).1 = 1 ∧ Tf F 2 4 g u ∧ (∃ p', Tr f n p' u ∧ p' ≤ n ∧ rn blk f n p' = rn blk f n z.2) ∧ qI u F = qI g F ∧ (∀ j, j ≠ 5 → qP u F j = qP g F j) ∧ (kd = 5 → ∃ s, qP u F 5 = some s ∧ StC f z.1.2 z.1.1.toNat s u ∧ 0 ≤ z.1.1 ∧ (qJ u F 6).toInt = 0) ∧ (kd ≠ 5 → qP u F 5 = qP g F 5 ∧ (qJ u F 6).toInt = z.1.1)) (Bd f n F 2 4 g (1, u)) := fun hc => by
    refine Rs.s (x := ((0, 0), p)) (pif_neg hc) ⟨rfl, (u2.up (F := F)).le (by omega) (by omega), ⟨b, u1, hw, hpb⟩, keep.1, fun j _ => by rw [keep.2.2], fun _ => ⟨0, by rw [keep.2.2]; exact ht, (w_const (i := 0) u1.1.2.2.2.2.1 u1.1.2.2.2.2.2 (by decide)).of (fun j hj => absurd hj (by show ¬ j < 0; omega)), Int.le_refl _, by rw [keep.2.1]; exact hj⟩, fun _ => ⟨by rw [keep.2.2], by rw [keep.2.1]; exact hj⟩⟩
  simp only [Ok_gd, Ok_ono]
  refine ⟨u1.1.1.1, 33, u1.1.1.2.1, u1.1.2.1.1, Ok.call (w_at u1.1 u1.2.1) (fun r t ht => ?_)⟩
  cases ht
  unfold fX6_takeDefault_15
  rw [Ok_pif, h61]
  refine ⟨fun c => ?_, fun c => ?_⟩
  · simp only [Ok_gd, Ok_ono]
    refine ⟨F, rfl, hOu.1, ?_⟩
    rw [Ok_pif, t_eq, hku, show (6 : Int32).toInt = 6 from rfl]
    refine ⟨fun c6 => ?_, fun c6 => ?_⟩
    · rw [Ok_some]
      exact none' (fun q => q.2.2 (by omega))
    · rw [pif_pos (show b < n ∧ f b = 61 ∧ kd ≠ 6 from ⟨c.1, c.2, by omega⟩)]
      simp only [Ok_gd, Ok_nam, nam_x]
      obtain ⟨g1, g2⟩ := u1.go (d := 1) (x := qI u 45 3 + 1) (by omega)
      refine ⟨u1.1.1.1, Ok.callv (w_skip g1 (by have := c.1; omega)) (fun v hv => ?_)⟩
      obtain ⟨v1, v2⟩ := hv
      have hvn := rn_le blk f (show b + 1 ≤ n by have := c.1; omega)
      generalize rn blk f n (b + 1) = d at *
      have hTv : Tf 46 0 0 g v := ((u2.tr g2).tr v2).le (by omega) (by omega)
      have hOv := hO.fr hTv
      have keepv := hO.s h.1 hTv
      have hkv : (qI v F 1).toInt = kd := by rw [keepv.1]; exact hkd
      unfold fX6_takeDefault_45 fX6_takeDefault_58 fX6_takeDefault_66
      simp only [Ok_gd, Ok_ono]
      refine ⟨F, rfl, hOv.1, ?_⟩
      rw [Ok_pif, t_eq, hkv, show (5 : Int32).toInt = 5 from rfl]
      refine ⟨fun c5 => ?_, fun c5 => ?_⟩
      · have kd5 : kd = 5 := by omega
        simp only [pif_pos kd5]
        rw [Ok_gd]
        refine ⟨v1.1.1.1, Ok.call (w_takeText hvn v1 hOv) (fun r x hx => ?_)⟩
        rcases hx with ⟨x0, x1, x2, x3, ⟨s, x4, x5⟩, x6, x7, x8⟩ | ⟨x0, x1⟩
        · have x1 : r = 1 := x1
          rw [x1, Ok_gd, Ok_some]
          have hx1 : rn qtb f n (d + 1) + 1 ≤ n := x0.2.2.1
          exact ⟨by rfl, Rs.s (pif_pos x0) ⟨rfl, ((hTv.up (F := F)).tr x2).le (by omega) (by omega), ⟨_, x3, hx1, rfl⟩, x6.trans keepv.1, fun j hj => (x8 j hj).trans (by rw [keepv.2.2]), fun _ => ⟨s, x4, x5, Int.natCast_nonneg _, by show (qJ x F 6).toInt = 0; rw [x7, keepv.2.1]; exact hj⟩, fun q => absurd kd5 q⟩⟩
        · have hr : r = 0 := x1.1
          rw [hr, Ok_gd, Ok_some]
          exact ⟨by rfl, Rs.n (pif_neg x0) ⟨rfl, ((hTv.up (F := F)).tr x1.2.1).le (by omega) (by omega), x1.2.2⟩⟩
      · have kd5 : ¬ kd = 5 := by omega
        simp only [pif_neg kd5]
        rw [Ok_gd]
        refine ⟨v1.1.1.1, Ok.call (w_takeValue hvn v1 hOv hkv h1 (by omega)) (fun r x hx => ?_)⟩
        rcases hx with ⟨x0, x1, x2, x3, x4, x6, x7⟩ | ⟨x0, x1⟩
        · have x1 : r = 1 := x1
          rw [x1, Ok_gd, Ok_some]
          have hvs : vS f n d ≤ n := by
            unfold vS
            by_cases c45 : d < n ∧ f d = 45
            · rw [pif_pos c45]; have := c45.1; omega
            · rw [pif_neg c45]; exact hvn
          exact ⟨by rfl, Rs.s (pif_pos x0) ⟨rfl, ((hTv.up (F := F)).tr x2).le (by omega) (by omega), ⟨_, x3, rn_le dgt f hvs, rfl⟩, x6.trans keepv.1, fun j hj => by show qP x F j = _; rw [x7, keepv.2.2], fun q => absurd q kd5, fun _ => ⟨by show qP x F 5 = _; rw [x7, keepv.2.2], x4⟩⟩⟩
        · have hr : r = 0 := x1.1
          rw [hr, Ok_gd, Ok_some]
          exact ⟨by rfl, Rs.n (pif_neg x0) ⟨rfl, ((hTv.up (F := F)).tr x1.2.1).le (by omega) (by omega), x1.2.2⟩⟩
  · rw [Ok_some]
    exact none' (fun q => c ⟨q.1, q.2.1⟩)
/-- the end -/
def ClP (f : Nat → Int32) (n p : Nat) (g : CS) (q : Int32 × CS) : Prop := ((rn blk f n p < n ∧ f (rn blk f n p) = 59) ∧ q.1 = 1 ∧ Tf 46 0 0 g q.2 ∧ Tr f n (rn blk f n p + 1) q.2) ∨ (¬ (rn blk f n p < n ∧ f (rn blk f n p) = 59) ∧ Bd f n 46 0 0 g q)
theorem w_takeClose {f : Nat → Int32} {n p : Nat} {g : CS} (hp : p ≤ n) (h : Tr f n p g) : Ok (fX6_takeClose 45 g) (ClP f n p g) := by
  have hn4 := h.1.n400
  unfold fX6_takeClose
  rw [Ok_gd]
  refine ⟨h.1.1.1, Ok.callv (w_skip h hp) (fun u hu => ?_)⟩
  obtain ⟨u1, u2⟩ := hu
  have hw := rn_le blk f hp
  unfold ClP
  generalize rn blk f n p = b at *
  have h59 : pk1 f n b = 59 ↔ b < n ∧ f b = 59 := pk1_P (P := fun x => x = 59) (by decide)
  have e3 := inc (x := qI u 45 3) (by have := u1.2.1; omega) (by have := u1.2.1; omega)
  simp only [Ok_gd, Ok_ono]
  refine ⟨33, u1.1.1.2.1, u1.1.2.1.1, Ok.call (w_at u1.1 u1.2.1) (fun r t ht => ?_)⟩
  cases ht
  rw [Ok_pif, h59]
  refine ⟨fun c => ?_, fun c => (w_badN u1.1 u2 (by decide)).mono (fun q hq => Or.inr ⟨c, hq⟩)⟩
  obtain ⟨g1, g2⟩ := u1.go (d := 1) (x := qI u 45 3 + 1) (by have := u1.2.1; omega)
  simp only [Ok_nam, Ok_some]
  exact Or.inl ⟨c, by trivial, (u2.tr g2).le (by omega) (by omega), g1⟩

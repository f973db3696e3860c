/-! the reference's writes(), exactly -/
def LyL (st : RS) (L : Nat) (l : List Int32) : Prop := LyN st L l.length ∧ Hs (gF st 52) (160 * L) l
/-- x comes behind l at level L -/
def LlP (st : RS) (L : Nat) (l x : List Int32) (t : RS) : Prop := LaP st L l.length x.length t ∧ Hs (gF t 52) (160 * L + l.length) x
theorem LlP.ly {st t : RS} {L : Nat} {l x : List Int32} (h : LlP st L l x t) (hl : LyL st L l) : LyL t L (l ++ x) := by
  refine ⟨by rw [List.length_append]; exact h.1.2.1, Hs.app.mpr ⟨hl.2.same (fun i i1 i2 => h.1.2.2.2 i (Or.inl (by omega))), h.2⟩⟩
theorem LlP.oth {st t : RS} {L d : Nat} {l x k : List Int32} (h : LlP st L l x t) (hd : d ≠ L) (hk : LyL st d k) (hkl : k.length ≤ 160) (hx : l.length + x.length ≤ 160) : LyL t d k := by
  refine ⟨by unfold LyN; rw [h.1.2.2.1 d hd]; exact hk.1, hk.2.same (fun i i1 i2 => h.1.2.2.2 i ?_)⟩
  rcases Nat.lt_or_ge d L with q | q
  · exact Or.inl (by omega)
  · exact Or.inr (by omega)
theorem LlP.tr {st t u : RS} {L : Nat} {l x y : List Int32} (h1 : LlP st L l x t) (h2 : LlP t L (l ++ x) y u) : LlP st L l (x ++ y) u := by
  obtain ⟨a1, a2⟩ := h1
  obtain ⟨b1, b2⟩ := h2
  rw [List.length_append] at b1 b2
  refine ⟨by rw [List.length_append]; exact a1.tr b1, Hs.app.mpr ⟨a2.same (fun i i1 i2 => b1.2.2.2 i (Or.inl (by omega))), by rw [Nat.add_assoc]; exact b2⟩⟩
theorem LlP.rf {st : RS} {L : Nat} {l : List Int32} (h : LyL st L l) : LlP st L l [] st := ⟨LaP.rf h.1, Hs.nil⟩
theorem r_laysL {l b : Int32} {st : RS} {k : List Int32} (h1 : 0 ≤ l.toInt) (h2 : l.toInt < 9) (hn : LyL st l.toNatClampNeg k) (h3 : 160 * l.toNatClampNeg + k.length < 1440) : Ok (x9_lays l b st) (LlP st l.toNatClampNeg k [b]) := (r_lays h1 h2 hn.1 h3).mono (fun t ht => ⟨ht.1, fun i hi => by
  have hi : i < 1 := hi
  rw [show i = 0 by omega, Nat.add_zero, ht.2]
  rfl⟩)
theorem r_laysV (l : Int32) (st : RS) (k0 : List Int32) (h1 : 0 ≤ l.toInt) (h2 : l.toInt < 9) (hn : LyL st l.toNatClampNeg k0) (h3 : 160 * l.toNatClampNeg + k0.length + 10 ≤ 1440) : ∀ (z j : Nat) (v : Int64) (t : RS) (x : List Int32), x.length + j = 9 → j + 1 < z → uN v < 2 ^ (7 * j + 1) → LlP st l.toNatClampNeg k0 x t → Ok (x9_laysVarint_3 z l v t) (LlP st l.toNatClampNeg k0 (x ++ viX j v)) := by
  intro z
  induction z with
  | zero => intro j v t x q1 q2; omega
  | succ z ih =>
    intro j v t x hx hz hv hP
    have hly := hP.ly hn
    have hlen : (k0 ++ x).length = k0.length + x.length := List.length_append
    rw [x9_laysVarint_3_s]
    unfold x9_laysVarint_19
    have hxi := uN_toInt v
    have hlt := uN_lt v
    have go : 128 ≤ uN v → Ok (bnv (x9_lays l (((v &&& 127).toInt32) ||| 128) t) (fun st_1 => nam ((v.toUInt64 >>> ((7 : Int32).toInt64.toUInt64 &&& Int64.toUInt64 63)).toInt64) (fun v_4 => x9_laysVarint_3 z l v_4 st_1))) (LlP st l.toNatClampNeg k0 (x ++ viX j v)) := fun hge => by
      have j0 : j ≠ 0 := fun q => by
        rw [q] at hv
        have hv : uN v < 2 := hv
        omega
      obtain ⟨j, rfl⟩ : ∃ i, j = i + 1 := ⟨j - 1, by omega⟩
      refine Ok.callv (r_laysL h1 h2 hly (by omega)) (fun u hu => ?_)
      rw [Ok_nam, viX_s hge]
      have hsp : x ++ ((v &&& 127).toInt32 ||| 128) :: viX j (srl7 v) = (x ++ [((v &&& 127).toInt32 ||| 128)]) ++ viX j (srl7 v) := by rw [List.append_assoc]; rfl
      rw [hsp]
      refine ih j (srl7 v) u _ (by rw [List.length_append]; show x.length + 1 + j = 9; omega) (by omega) ?_ (hP.tr hu)
      rw [uN_srl7, Nat.div_lt_iff_lt_mul (by decide)]
      have : 2 ^ (7 * j + 1) * 128 = 2 ^ (7 * (j + 1) + 1) := by
        rw [show (128 : Nat) = 2 ^ 7 from rfl, ← Nat.pow_add]
        congr 1
      omega
    simp only [Ok_pif, lg_cmp_lt, lg_cmp_le, j_lt, j_le]
    rw [show (0 : Int64).toInt = 0 from rfl, show (127 : Int64).toInt = 127 from rfl]
    refine ⟨fun c => go (by by_cases q : uN v < 9223372036854775808; rw [if_pos q] at hxi; omega; omega), fun c => ⟨fun d => ?_, fun d => go (by by_cases q : uN v < 9223372036854775808; rw [if_pos q] at hxi; omega; omega)⟩⟩
    have hs : uN v < 128 := by
      by_cases q : uN v < 9223372036854775808
      · rw [if_pos q] at hxi; omega
      · rw [if_neg q] at hxi; omega
    refine Ok.callv (r_laysL h1 h2 hly (by omega)) (fun u hu => ?_)
    rw [Ok_some, viX_1 hs]
    exact hP.tr hu
theorem r_laysVL {l : Int32} {v : Int64} {st : RS} {k : List Int32} (h1 : 0 ≤ l.toInt) (h2 : l.toInt < 9) (hn : LyL st l.toNatClampNeg k) (h3 : 160 * l.toNatClampNeg + k.length + 10 ≤ 1440) : Ok (x9_laysVarint l v st) (LlP st l.toNatClampNeg k (viL v)) := r_laysV l st k h1 h2 hn h3 fuel 9 v st [] rfl (by unfold fuel; omega) (by have := uN_lt v; show uN v < 18446744073709551616; omega) (LlP.rf hn)
/-- all that is written, from level d on: k levels more are open -/
def totX (ℓ R : Nat → List Int32) (K : Nat → Int64) : Nat → Nat → List Int32
  | 0, d => ℓ d ++ R d
  | k + 1, d => ℓ d ++ (viL (K (d + 1)) ++ (viL (iV (totX ℓ R K k (d + 1)).length) ++ (totX ℓ R K k (d + 1) ++ R d)))
theorem totX_c {ℓ R ℓ' R' : Nat → List Int32} {K K' : Nat → Int64} : ∀ (k e : Nat), (∀ d, e ≤ d → d < e + k → ℓ d = ℓ' d ∧ R d = R' d ∧ K (d + 1) = K' (d + 1)) → ℓ (e + k) ++ R (e + k) = ℓ' (e + k) ++ R' (e + k) → totX ℓ R K k e = totX ℓ' R' K' k e := by
  intro k
  induction k with
  | zero => intro e _ h; exact h
  | succ k ih =>
    intro e h1 h2
    obtain ⟨a1, a2, a3⟩ := h1 e (Nat.le_refl _) (by omega)
    have h3 := ih (e + 1) (fun d d1 d2 => h1 d (by omega) (by omega)) (by rw [show e + 1 + k = e + (k + 1) by omega]; exact h2)
    show ℓ e ++ (viL (K (e + 1)) ++ (viL (iV (totX ℓ R K k (e + 1)).length) ++ (totX ℓ R K k (e + 1) ++ R e))) = _
    rw [h3, a1, a2, a3]
    rfl
theorem totX_x {ℓ R ℓ' R' : Nat → List Int32} {K K' : Nat → Int64} : ∀ (k e : Nat), (∀ d, e ≤ d → d < e + k → ℓ d = ℓ' d ∧ R d = R' d ∧ K (d + 1) = K' (d + 1)) → ℓ (e + k) ++ R (e + k) = ℓ' (e + k) ++ (viL (K' (e + k + 1)) ++ (viL (iV (ℓ' (e + k + 1) ++ R' (e + k + 1)).length) ++ ((ℓ' (e + k + 1) ++ R' (e + k + 1)) ++ R' (e + k)))) → totX ℓ R K k e = totX ℓ' R' K' (k + 1) e := by
  intro k
  induction k with
  | zero => intro e _ h; exact h
  | succ k ih =>
    intro e h1 h2
    obtain ⟨a1, a2, a3⟩ := h1 e (Nat.le_refl _) (by omega)
    have h3 := ih (e + 1) (fun d d1 d2 => h1 d (by omega) (by omega)) (by rw [show e + 1 + k = e + (k + 1) by omega]; exact h2)
    show ℓ e ++ (viL (K (e + 1)) ++ (viL (iV (totX ℓ R K k (e + 1)).length) ++ (totX ℓ R K k (e + 1) ++ R e))) = _
    rw [h3, a1, a2, a3]
    rfl
theorem totX_len {ℓ R : Nat → List Int32} {K : Nat → Int64} : ∀ (k e j : Nat), j ≤ k → (ℓ (e + j)).length ≤ (totX ℓ R K k e).length ∧ (j = k → (ℓ (e + j) ++ R (e + j)).length ≤ (totX ℓ R K k e).length) := by
  intro k
  induction k with
  | zero =>
    intro e j hj
    have : j = 0 := by omega
    subst this
    show (ℓ (e + 0)).length ≤ (ℓ e ++ R e).length ∧ (_ → (ℓ (e + 0) ++ R (e + 0)).length ≤ (ℓ e ++ R e).length)
    rw [Nat.add_zero, List.length_append]
    exact ⟨by omega, fun _ => Nat.le_refl _⟩
  | succ k ih =>
    intro e j hj
    have e1 : (totX ℓ R K (k + 1) e).length = (ℓ e).length + ((viL (K (e + 1))).length + ((viL (iV (totX ℓ R K k (e + 1)).length)).length + ((totX ℓ R K k (e + 1)).length + (R e).length))) := by
      show (ℓ e ++ (viL (K (e + 1)) ++ (viL (iV (totX ℓ R K k (e + 1)).length) ++ (totX ℓ R K k (e + 1) ++ R e)))).length = _
      rw [List.length_append, List.length_append, List.length_append, List.length_append]
    cases j with
    | zero => rw [Nat.add_zero]; exact ⟨by omega, fun q => absurd q (by omega)⟩
    | succ j =>
      have h := ih (e + 1) j (by omega)
      rw [show e + (j + 1) = e + 1 + j by omega]
      exact ⟨by omega, fun q => by have := h.2 (by omega); omega⟩
noncomputable def wrRt (st0 st : RS) (d : Nat) : List Int32 := wrR st0 (gF st0 30) (gF st 47 d).toNatClampNeg (gF st 48 d).toNatClampNeg (gF st 49 d).toNatClampNeg
def wrKt (st : RS) (d : Nat) : Int64 := iV (gF st 54 d).toNatClampNeg
/-- what stands while writes() goes down and up: D + 1 levels are open -/
def WrJ (st0 : RS) (n D : Nat) (ℓ : Nat → List Int32) (W : List Int32) (st : RS) : Prop :=
  Fr wrI wrF st0 st ∧
  (∀ d, d ≤ D → 0 ≤ (gF st 47 d).toInt ∧ (gF st 47 d).toInt + d ≤ 7 ∧ gF st0 0 (gF st 47 d).toNatClampNeg ≠ 0 ∧ 0 ≤ (gF st 48 d).toInt ∧ (gF st 48 d).toInt ≤ (gF st 49 d).toInt ∧ (gF st 49 d).toInt ≤ n ∧ ∃ last gs, Sd st0 (gF st0 30) (gF st 47 d).toNatClampNeg (gF st 48 d).toNatClampNeg (gF st 49 d).toNatClampNeg last gs) ∧
  (∀ d, d < D → (gF st 48 d).toInt = (gF st 49 (d + 1)).toInt) ∧
  (∀ d, d ≤ D → LyL st d (ℓ d)) ∧
  (∀ d, 0 < d → d ≤ D → 3 ≤ (gF st 54 d).toInt ∧ (gF st 54 d).toInt ≤ 61) ∧
  totX ℓ (wrRt st0 st) (wrKt st) D 0 = W
set_option maxHeartbeats 4000000 in
theorem r_wr20 (st0 : RS) (n : Nat) (hn : n ≤ 120) (hM : MkI st0) (W : List Int32) (hWl : W.length ≤ 120) : ∀ (z D : Nat) (ℓ : Nat → List Int32) (l : Int32) (st : RS), l.toInt = D → D ≤ 7 → WrJ st0 n D ℓ W st → n - (gF st 48 D).toNatClampNeg + D + 2 < z → Ok (x9_writes_20 z l 1 st) (fun t => Fr wrI wrF st0 t ∧ LyL t 0 W) := by
  intro z
  induction z with
  | zero => intro D ℓ l st h1 h2 h3 h4; omega
  | succ z ih =>
    intro D ℓ l st hl hD hI hz
    obtain ⟨hF, hL, hC, hG, hK, hT⟩ := id hI
    obtain ⟨a1, a2, a3, a4, a5, a6, ⟨last, gs, a7⟩⟩ := hL D (Nat.le_refl _)
    have g1 := hG D (Nat.le_refl _)
    have lD : l.toNatClampNeg = D := by rw [t_nat]; omega
    have e30 : gF st 30 = gF st0 30 := (hF.2 30 (by decide)).1
    have hlen : ∀ d, d ≤ D → (ℓ d).length ≤ 120 := fun d hd => by
      have := (totX_len (ℓ := ℓ) (R := wrRt st0 st) (K := wrKt st) D 0 d hd).1
      rw [Nat.zero_add, hT] at this
      omega
    have htop : (ℓ D).length + (wrRt st0 st D).length ≤ 120 := by
      have := (totX_len (ℓ := ℓ) (R := wrRt st0 st) (K := wrKt st) D 0 D (Nat.le_refl _)).2 rfl
      rw [Nat.zero_add, hT, List.length_append] at this
      omega
    have lenD := hlen D (Nat.le_refl _)
    rw [x9_writes_20_s]
    simp only [Ok_pif, Ok_gd, Ok_nam, t_in, lD]
    refine ⟨fun h => absurd h (by decide), fun _ => ⟨by omega, by omega, fun ce => ?_, fun ce => ?_⟩⟩
    · -- a level is through
      have ce : gF st 48 D = gF st 49 D := ce
      have r0 : wrRt st0 st D = [] := by unfold wrRt; rw [ce]; exact wrR_n (Nat.le_refl _)
      rw [t_le, show (0 : Int32).toInt = 0 from rfl]
      refine ⟨fun c => ?_, fun c => ?_⟩
      · have : D = 0 := by omega
        subst this
        unfold x9_writes_53
        rw [pif_pos rfl]
        obtain ⟨z', rfl⟩ : ∃ z', z = z' + 1 := ⟨z - 1, by omega⟩
        rw [x9_writes_20_s, pif_pos rfl, Ok_some]
        have hT : ℓ 0 ++ wrRt st0 st 0 = W := hT
        rw [r0, List.append_nil] at hT
        rw [← hT]
        exact ⟨hF, g1⟩
      · unfold x9_writes_53
        rw [pif_neg (by decide), Ok_nam]
        obtain ⟨E, rfl⟩ : ∃ E, D = E + 1 := ⟨D - 1, by omega⟩
        have e1 : (l + (-1)).toInt = E := by rw [t_add (by show -2147483648 ≤ l.toInt + (-1); omega) (by show l.toInt + (-1) < 2147483648; omega)]; show l.toInt + (-1) = _; omega
        generalize l + (-1) = k at e1 ⊢
        have kE : k.toNatClampNeg = E := by rw [t_nat]; omega
        have e2 : (k + 1).toInt = E + 1 := by rw [t_add (by show -2147483648 ≤ k.toInt + 1; omega) (by show k.toInt + 1 < 2147483648; omega)]; show k.toInt + 1 = _; omega
        have e2n : (k + 1).toNatClampNeg = E + 1 := by rw [t_nat, e2]; omega
        have f1 := hG E (by omega)
        have lenE := hlen E (by omega)
        obtain ⟨c1, c2⟩ := hK (E + 1) (by omega) (Nat.le_refl _)
        have hCE := hC E (by omega)
        have ceI : (gF st 48 (E + 1)).toInt = (gF st 49 (E + 1)).toInt := by rw [ce]
        -- what the level above has, and takes
        have hEt : (ℓ E).length + (1 + (1 + (ℓ (E + 1)).length)) ≤ 120 := by
          have h2 := totX_x (ℓ := fun d => if d = E then ℓ E ++ (viL (wrKt st (E + 1)) ++ (viL (iV (ℓ (E + 1)).length) ++ ℓ (E + 1))) else ℓ d) (R := wrRt st0 st) (K := wrKt st) (ℓ' := ℓ) (R' := wrRt st0 st) (K' := wrKt st) E 0 (fun d d1 d2 => ⟨by show (if d = E then _ else ℓ d) = _; rw [if_neg (by omega)], rfl, rfl⟩) (by
            rw [Nat.zero_add]
            show (if E = E then _ else ℓ E) ++ _ = _
            rw [if_pos rfl, r0, List.append_nil, List.append_assoc, List.append_assoc, List.append_assoc])
          rw [hT] at h2
          have h3 := (totX_len (ℓ := fun d => if d = E then ℓ E ++ (viL (wrKt st (E + 1)) ++ (viL (iV (ℓ (E + 1)).length) ++ ℓ (E + 1))) else ℓ d) (R := wrRt st0 st) (K := wrKt st) E 0 E (Nat.le_refl _)).1
          rw [h2, Nat.zero_add] at h3
          have h3 : (if E = E then ℓ E ++ (viL (wrKt st (E + 1)) ++ (viL (iV (ℓ (E + 1)).length) ++ ℓ (E + 1))) else ℓ E).length ≤ W.length := h3
          rw [if_pos rfl, List.length_append, List.length_append, List.length_append, viL_k (k := (ℓ (E + 1)).length) (by omega)] at h3
          have h4 := (viL_pos (v := wrKt st (E + 1))).1
          have h3 : (ℓ E).length + ((viL (wrKt st (E + 1))).length + (1 + (ℓ (E + 1)).length)) ≤ W.length := h3
          omega
        have kv : ((gF st 54 (E + 1)).toInt64) = wrKt st (E + 1) := by
          unfold wrKt
          refine iV_of (by rw [t_nat]; omega) ?_
          rw [j_of, t_nat]
          omega
        simp only [t_in, e2, e2n, Ok_gd]
        rw [kv]
        refine ⟨by omega, Ok.callv (r_laysVL (by omega) (by omega) (by rw [kE]; exact f1) (by rw [kE]; omega)) (fun u hu => ?_)⟩
        rw [kE] at hu
        have lk : (viL (wrKt st (E + 1))).length = 1 := by
          unfold wrKt
          rw [viL_k (by rw [t_nat]; omega)]
          rfl
        have u1 := hu.ly f1
        have u2 : LyL u (E + 1) (ℓ (E + 1)) := hu.oth (by omega) g1 (by omega) (by omega)
        have u53i : (gF u 53 (E + 1)).toInt = (ℓ (E + 1)).length := u2.1.i (by omega)
        have uv : (gF u 53 (E + 1)).toInt64 = iV (ℓ (E + 1)).length := iV_of (by omega) (by rw [j_of, u53i])
        rw [Ok_gd, uv]
        refine ⟨by omega, Ok.callv (r_laysVL (by omega) (by omega) (by rw [kE]; exact u1) (by rw [kE, List.length_append, lk]; omega)) (fun w hw => ?_)⟩
        rw [kE] at hw
        have lk2 : (viL (iV (ℓ (E + 1)).length)).length = 1 := by rw [viL_k (by omega)]; rfl
        have w1 := hw.ly u1
        have w2 : LyL w (E + 1) (ℓ (E + 1)) := hw.oth (by omega) u2 (by omega) (by rw [List.length_append, lk, lk2]; omega)
        have lw : ((ℓ E ++ viL (wrKt st (E + 1))) ++ viL (iV (ℓ (E + 1)).length)).length = (ℓ E).length + 2 := by rw [List.length_append, List.length_append, lk, lk2]
        refine r_w97 (fun t => Fr wrI wrF st0 t ∧ LyL t 0 W) (x9_writes_20 z) k 1 w ((ℓ E).length + 2) (ℓ (E + 1)).length (by omega) (by omega) (by rw [kE]; exact w2.1) (by omega) (by omega) (fun t ht hcp => ?_) fuel 0 0 w rfl (by omega) (by unfold fuel; omega) (LaP.rf (by rw [kE, ← lw]; exact w1.1)) (fun j hj => absurd hj (by omega))
        rw [kE] at ht hcp
        have h3 : LlP w E ((ℓ E ++ viL (wrKt st (E + 1))) ++ viL (iV (ℓ (E + 1)).length)) (ℓ (E + 1)) t := by
          refine ⟨by rw [lw]; exact ht, fun i hi => ?_⟩
          rw [lw, hcp i hi]
          have := w2.2 i hi
          exact this
        have hTT := (hu.tr hw).tr (by rw [← List.append_assoc]; exact h3)
        have t1 := hTT.ly f1
        have k48 : gF t 48 = gF st 48 := (hTT.1.1.2 48 (by decide)).1
        have k47 : gF t 47 = gF st 47 := (hTT.1.1.2 47 (by decide)).1
        have k49 : gF t 49 = gF st 49 := (hTT.1.1.2 49 (by decide)).1
        have k54 : gF t 54 = gF st 54 := (hTT.1.1.2 54 (by decide)).1
        have hFt : Fr wrI wrF st0 t := hF.tr (hTT.1.1.d (by decide) (by decide))
        have eR : wrRt st0 t = wrRt st0 st := by funext d; unfold wrRt; rw [k47, k48, k49]
        have eK : wrKt t = wrKt st := by funext d; unfold wrKt; rw [k54]
        refine ih E (fun d => if d = E then ℓ E ++ ((viL (wrKt st (E + 1)) ++ viL (iV (ℓ (E + 1)).length)) ++ ℓ (E + 1)) else ℓ d) k t e1 (by omega) ⟨hFt, fun d hd => ?_, fun d hd => ?_, fun d hd => ?_, fun d hd1 hd2 => ?_, ?_⟩ ?_
        · rw [k47, k48, k49]; exact hL d (by omega)
        · rw [k48, k49]; exact hC d (by omega)
        · show LyL t d (if d = E then _ else ℓ d)
          by_cases q : d = E
          · rw [if_pos q, q]; exact t1
          · rw [if_neg q]
            refine hTT.oth q (hG d (by omega)) (by have := hlen d (by omega); omega) ?_
            rw [List.length_append, List.length_append, lk, lk2]
            omega
        · rw [k54]; exact hK d hd1 (by omega)
        · rw [eR, eK, ← hT]
          refine totX_x (ℓ := fun d => if d = E then ℓ E ++ ((viL (wrKt st (E + 1)) ++ viL (iV (ℓ (E + 1)).length)) ++ ℓ (E + 1)) else ℓ d) (ℓ' := ℓ) E 0 (fun d d1 d2 => ⟨by show (if d = E then _ else ℓ d) = _; rw [if_neg (by omega)], rfl, rfl⟩) ?_
          rw [Nat.zero_add]
          show (if E = E then _ else ℓ E) ++ _ = _
          rw [if_pos rfl, r0, List.append_nil, List.append_assoc, List.append_assoc, List.append_assoc]
        · rw [k48, t_nat]
          rw [t_nat] at hz
          omega
    · -- a piece
      have ce : ¬ gF st 48 D = gF st 49 D := ce
      have hlt : (gF st 48 D).toInt < (gF st 49 D).toInt := by rw [t_eq] at ce; omega
      have n48 : ((gF st 48 D).toNatClampNeg : Int) = (gF st 48 D).toInt := by rw [t_nat]; omega
      have n49 : ((gF st 49 D).toNatClampNeg : Int) = (gF st 49 D).toInt := by rw [t_nat]; omega
      have n47 : ((gF st 47 D).toNatClampNeg : Int) = (gF st 47 D).toInt := by rw [t_nat]; omega
      refine ⟨by omega, by omega, Ok.callv (r_piece a4 a5 (by omega) a1 (by omega)) (fun u hu => ?_)⟩
      obtain ⟨hP, hok, hrest, hin⟩ := (Sd.iff (by omega)).mp a7
      have hplt := hP.lt
      obtain ⟨hFu, hu⟩ := hu
      rw [e30] at hu
      rcases hu with ⟨j1, j2, hP', hV, -⟩ | ⟨-, hu⟩
      case inr => exact absurd hP (hu _ _)
      obtain ⟨w1, w2, -⟩ := hP'.a
      obtain ⟨v33, v34, v35, v37, v36⟩ := hV
      obtain ⟨m, em⟩ : ∃ m, m = (gF st 47 D).toNatClampNeg := ⟨_, rfl⟩
      obtain ⟨a, ea⟩ : ∃ a, a = (gF st 48 D).toNatClampNeg := ⟨_, rfl⟩
      obtain ⟨b, eb⟩ : ∃ b, b = (gF st 49 D).toNatClampNeg := ⟨_, rfl⟩
      obtain ⟨f, ef⟩ : ∃ f, f = gF st0 30 := ⟨_, rfl⟩
      rw [← ef, ← ea] at w1
      rw [← ef, ← ea] at w2
      rw [← ef, ← ea] at v33 v37
      rw [← ea] at v35
      rw [← ef, ← ea, ← eb] at v36
      rw [← ef, ← ea, ← eb] at hP hplt
      rw [← ef, ← ea, ← eb, ← em] at hok hrest hin
      rw [← em] at a3 n47
      rw [← ea] at n48
      rw [← eb] at n49
      have eV1 : vacc f a j1 = pV1 f a := by unfold pV1; rw [w1]
      have eV2 : vacc f (a + j1) j2 = pV2 f a := by unfold pV2; rw [w1, w2]
      have eFr : a + j1 + j2 = pFr f a := by unfold pFr; rw [w1, w2]
      rw [eV1] at v33
      rw [eFr] at v35
      rw [eV2] at v37
      rw [eV1, eV2, eFr] at v36
      have pr := pnum_r (pV1 f a)
      have ei := pNu_i (f := f) (a := a)
      have hnr := pNu_r (f := f) (a := a)
      have to36 : (gI u 36).toInt = pTo f a b := by
        have h2 := pto_r (pV1 f a) (pV2 f a) (pFr f a) b (by omega)
        rw [v36]
        unfold pTo
        omega
      have htm : tld st0 m := ⟨by omega, a3⟩
      have hpl := pcB_len2 hM htm hP hok hin (by omega)
      have eR0 : wrRt st0 st D = pcB st0 f m a b (wrR st0 f (inM st0 m (pNu f a)) (pFr f a) (pTo f a b)) ++ wrR st0 f m (pTo f a b) b := by
        unfold wrRt
        rw [← ef, ← ea, ← eb, ← em]
        refine wrR_s (last := last) (gs := gs) ?_ (by omega)
        rw [ef, ea, eb, em]
        exact a7
      have htop2 := htop
      rw [eR0, List.length_append] at htop2
      have hFu2 : Fr wrI wrF st0 u := hF.tr (hFu.d (by decide) (by decide))
      rw [Ok_gd, Ok_nam]
      refine ⟨by omega, ?_⟩
      obtain ⟨w, ew⟩ : ∃ w, w = sF u 48 (upd (gF u 48) D (gI u 36)) := ⟨_, rfl⟩
      rw [← ew]
      have hFw : Fr wrI wrF st0 w := by rw [ew]; exact hFu2.sF (by decide)
      have u48 : gF u 48 = gF st 48 := (hFu.2 48 (by decide)).1
      have w47 : gF w 47 = gF st 47 := by rw [ew]; exact (hFu.2 47 (by decide)).1
      have w48 : gF w 48 = upd (gF st 48) D (gI u 36) := by rw [ew, ← u48]; rfl
      have w49 : gF w 49 = gF st 49 := by rw [ew]; exact (hFu.2 49 (by decide)).1
      have w52 : gF w 52 = gF st 52 := by rw [ew]; exact (hFu.2 52 (by decide)).1
      have w53 : gF w 53 = gF st 53 := by rw [ew]; exact (hFu.2 53 (by decide)).1
      have w54 : gF w 54 = gF st 54 := by rw [ew]; exact (hFu.2 54 (by decide)).1
      have w30 : gF w 30 = f := by rw [ef]; exact (hFw.2 30 (by decide)).1
      have w1 : gF w 1 = gF st0 1 := (hFw.2 1 (by decide)).1
      have w3 : gF w 3 = gF st0 3 := (hFw.2 3 (by decide)).1
      have w8 : gF w 8 = gF st0 8 := (hFw.2 8 (by decide)).1
      have w33 : gI w 33 = pnum (pV1 f a) := by rw [ew]; exact v33
      have w35 : (gI w 35).toInt = pFr f a := by rw [ew]; exact v35
      have w36 : (gI w 36).toInt = pTo f a b := by rw [ew]; exact to36
      have w37 : gJ w 37 = punf (pV2 f a) := by rw [ew]; exact v37
      have x48 : gF w 48 D = gI u 36 := by rw [w48, upd_eq rfl]
      have y48 : ∀ d, d ≠ D → gF w 48 d = gF st 48 d := fun d hd => by rw [w48, upd_ne hd]
      have lyw : ∀ d k, LyL st d k → LyL w d k := fun d k hk => ⟨by unfold LyN; rw [w53]; exact hk.1, by rw [w52]; exact hk.2⟩
      have hLw : LyL w D (ℓ D) := lyw D _ g1
      have n36 : (gI u 36).toNatClampNeg = pTo f a b := by rw [t_nat, to36]; omega
      clear ew
      -- bytes were laid: the same level goes on
      have cont : ∀ t : RS, LlP w D (ℓ D) (pcB st0 f m a b (wrR st0 f (inM st0 m (pNu f a)) (pFr f a) (pTo f a b))) t → Ok (x9_writes_20 z l 1 t) (fun t => Fr wrI wrF st0 t ∧ LyL t 0 W) := by
        intro t ht
        have k48 : gF t 48 = gF w 48 := (ht.1.1.2 48 (by decide)).1
        have k47 : gF t 47 = gF st 47 := ((ht.1.1.2 47 (by decide)).1).trans w47
        have k49 : gF t 49 = gF st 49 := ((ht.1.1.2 49 (by decide)).1).trans w49
        have k54 : gF t 54 = gF st 54 := ((ht.1.1.2 54 (by decide)).1).trans w54
        have eK : wrKt t = wrKt st := by funext d; unfold wrKt; rw [k54]
        have eRo : ∀ d, d ≠ D → wrRt st0 t d = wrRt st0 st d := fun d hd => by unfold wrRt; rw [k47, k48, k49, y48 d hd]
        have eRD : wrRt st0 t D = wrR st0 f m (pTo f a b) b := by unfold wrRt; rw [k47, k48, k49, x48, n36, ← ef, ← em, ← eb]
        refine ih D (fun d => if d = D then ℓ D ++ pcB st0 f m a b (wrR st0 f (inM st0 m (pNu f a)) (pFr f a) (pTo f a b)) else ℓ d) l t hl hD ⟨hFw.tr (ht.1.1.d (by decide) (by decide)), fun d hd => ?_, fun d hd => ?_, fun d hd => ?_, fun d hd1 hd2 => ?_, ?_⟩ ?_
        · rw [k47, k48, k49]
          by_cases q : d = D
          · subst q
            rw [x48, n36]
            refine ⟨a1, a2, by rw [← em]; exact a3, by omega, by omega, a6, pNu f a, gsN st0 m (pNu f a) gs, ?_⟩
            rw [← ef, ← em, ← eb]
            exact hrest
          · rw [y48 d q]
            exact hL d hd
        · rw [k48, k49, y48 d (by omega)]
          exact hC d hd
        · show LyL t d (if d = D then _ else ℓ d)
          by_cases q : d = D
          · rw [if_pos q, q]
            exact ht.ly hLw
          · rw [if_neg q]
            exact ht.oth q (lyw d _ (hG d hd)) (by have := hlen d hd; omega) (by omega)
        · rw [k54]; exact hK d hd1 hd2
        · rw [eK, ← hT]
          refine totX_c D 0 (fun d d1 d2 => ⟨by show (if d = D then _ else ℓ d) = _; rw [if_neg (by omega)], eRo d (by omega), rfl⟩) ?_
          rw [Nat.zero_add]
          show (if D = D then _ else ℓ D) ++ _ = _
          rw [if_pos rfl, eRD, eR0, List.append_assoc]
        · rw [k48, x48, n36]
          rw [← ea] at hz
          omega
      have e31 := i31 (n := gI w 33) a1 (by omega : (gF st 47 D).toInt < 8) (by rw [w33]; exact pr.1) (by rw [w33]; exact pr.2)
      have e31n := i31n (n := gI w 33) a1 (by omega : (gF st 47 D).toInt < 8) (by rw [w33]; exact pr.1) (by rw [w33]; exact pr.2)
      have enu : (pnum (pV1 f a)).toNatClampNeg = pNu f a := rfl
      rw [Ok_nam]
      refine Ok.bp (c := hasN st0 m (pNu f a)) (st := w) (by
        have h := r_has (m := gF st 47 D) (n := gI w 33) (st := w) a1 (by omega)
        rw [w33] at h ⊢
        have eH : hasN w (gF st 47 D).toNatClampNeg (pnum (pV1 f a)).toNatClampNeg = hasN st0 m (pNu f a) := by unfold hasN; rw [w1, w8, em]; rfl
        rw [eH] at h
        exact h) (fun hy => ?_) (fun hno => ?_)
      · rw [w33, enu, ← em] at e31n
        rw [w33] at e31
        have ek : gF st0 1 (31 * m + pNu f a) = kdN st0 m (pNu f a) := rfl
        simp only [Ok_pif, Ok_gd, Ok_nam, w33, t_in, e31, e31n, w1, w3, ek]
        have em2 : (2 * pnum (pV1 f a)).toInt = 2 * (pNu f a : Int) := by
          rw [t_mul (by show -2147483648 ≤ 2 * (pnum (pV1 f a)).toInt; omega) (by show 2 * (pnum (pV1 f a)).toInt < 2147483648; omega), ei]
          rfl
        have ek2 : (2 * pnum (pV1 f a) + 1).toInt = 2 * (pNu f a : Int) + 1 := by
          rw [t_add (by rw [em2]; show -2147483648 ≤ 2 * (pNu f a : Int) + 1; omega) (by rw [em2]; show 2 * (pNu f a : Int) + 1 < 2147483648; omega), em2]
          rfl
        have hkind := (hM.hk m _ htm hy).1
        refine ⟨fun h => absurd h (by decide), fun _ => ⟨by omega, fun k6 => ?_, fun k6 => ⟨by omega, fun k5 => ?_, fun k5 => ?_⟩⟩⟩
        · -- a rec: one level down
          obtain ⟨i1, i2, i3⟩ := (hM m (pNu f a) htm.1 a3 hy).2.1 k6
          have eb6 : pcB st0 f m a b (wrR st0 f (inM st0 m (pNu f a)) (pFr f a) (pTo f a b)) = viL (iV (2 * pNu f a + 1)) ++ (viL (iV (wrR st0 f (inM st0 m (pNu f a)) (pFr f a) (pTo f a b)).length) ++ wrR st0 f (inM st0 m (pNu f a)) (pFr f a) (pTo f a b)) := by unfold pcB; rw [pif_pos hy, pif_pos k6]
          have el : (l + 1).toInt = D + 1 := by rw [t_add (by show -2147483648 ≤ l.toInt + 1; omega) (by show l.toInt + 1 < 2147483648; omega)]; show l.toInt + 1 = _; omega
          generalize l + 1 = l' at el ⊢
          have lD1 : l'.toNatClampNeg = D + 1 := by rw [t_nat]; omega
          refine ⟨by omega, Ok.callv (r_opens (by omega) (by omega)) (fun y hy2 => ?_)⟩
          rw [lD1] at hy2
          simp only [Ok_gd, Ok_nam, t_in, lD1]
          refine ⟨by omega, by omega, ?_⟩
          obtain ⟨x, ex⟩ : ∃ x, x = sF (sF y 53 (upd (gF y 53) (D + 1) 0)) 54 (upd (gF (sF y 53 (upd (gF y 53) (D + 1) 0)) 54) (D + 1) (2 * gI (sF y 53 (upd (gF y 53) (D + 1) 0)) 33 + 1)) := ⟨_, rfl⟩
          rw [← ex]
          have x47 : gF x 47 = upd (gF st 47) (D + 1) (gF st0 3 (31 * m + pNu f a)) := by rw [ex, hy2]; show upd (gF w 47) (D + 1) _ = _; rw [w47]
          have x48' : gF x 48 = upd (gF w 48) (D + 1) (gI w 35) := by rw [ex, hy2]; rfl
          have x49 : gF x 49 = upd (gF st 49) (D + 1) (gI w 36) := by rw [ex, hy2]; show upd (gF w 49) (D + 1) _ = _; rw [w49]
          have x52 : gF x 52 = gF st 52 := by rw [ex, hy2]; exact w52
          have x53 : gF x 53 = upd (gF st 53) (D + 1) 0 := by rw [ex, hy2]; show upd (gF w 53) (D + 1) 0 = _; rw [w53]
          have x54 : gF x 54 = upd (gF st 54) (D + 1) (2 * pnum (pV1 f a) + 1) := by rw [ex, hy2]; show upd (gF w 54) (D + 1) (2 * gI w 33 + 1) = _; rw [w54, w33]
          have hFx : Fr wrI wrF st0 x := by rw [ex, hy2]; exact ((((((hFw.sF (by decide)).sF (by decide)).sF (by decide)).sF (by decide)).sF (by decide)).sF (by decide)).sF (by decide)
          have z47 : gF x 47 (D + 1) = gF st0 3 (31 * m + pNu f a) := by rw [x47, upd_eq rfl]
          have z48 : gF x 48 (D + 1) = gI w 35 := by rw [x48', upd_eq rfl]
          have z49 : gF x 49 (D + 1) = gI w 36 := by rw [x49, upd_eq rfl]
          have k47 : ∀ d, d ≠ D + 1 → gF x 47 d = gF st 47 d := fun d hd => by rw [x47, upd_ne hd]
          have k48 : ∀ d, d ≠ D + 1 → gF x 48 d = gF w 48 d := fun d hd => by rw [x48', upd_ne hd]
          have k49 : ∀ d, d ≠ D + 1 → gF x 49 d = gF st 49 d := fun d hd => by rw [x49, upd_ne hd]
          have k53 : ∀ d, d ≠ D + 1 → gF x 53 d = gF st 53 d := fun d hd => by rw [x53, upd_ne hd]
          have k54 : ∀ d, d ≠ D + 1 → gF x 54 d = gF st 54 d := fun d hd => by rw [x54, upd_ne hd]
          have z54 : gF x 54 (D + 1) = 2 * pnum (pV1 f a) + 1 := by rw [x54, upd_eq rfl]
          have m35 : (gI w 35).toNatClampNeg = pFr f a := by rw [t_nat, w35]; omega
          have m36 : (gI w 36).toNatClampNeg = pTo f a b := by rw [t_nat, w36]; omega
          have einm : (gF st0 3 (31 * m + pNu f a)).toNatClampNeg = inM st0 m (pNu f a) := rfl
          have zK : wrKt x (D + 1) = iV (2 * pNu f a + 1) := by
            unfold wrKt
            rw [z54]
            congr 1
            rw [t_nat, ek2]
            omega
          have zR : wrRt st0 x (D + 1) = wrR st0 f (inM st0 m (pNu f a)) (pFr f a) (pTo f a b) := by unfold wrRt; rw [z47, z48, z49, m35, m36, einm, ← ef]
          have zRD : wrRt st0 x D = wrR st0 f m (pTo f a b) b := by unfold wrRt; rw [k47 D (by omega), k48 D (by omega), k49 D (by omega), x48, n36, ← ef, ← em, ← eb]
          have zRo : ∀ d, d < D → wrRt st0 x d = wrRt st0 st d := fun d hd => by unfold wrRt; rw [k47 d (by omega), k48 d (by omega), k49 d (by omega), y48 d (by omega)]
          have zKo : ∀ d, d ≤ D → wrKt x d = wrKt st d := fun d hd => by unfold wrKt; rw [k54 d (by omega)]
          refine ih (D + 1) (fun d => if d = D + 1 then [] else ℓ d) l' x (by omega) (by omega) ⟨hFx, fun d hd => ?_, fun d hd => ?_, fun d hd => ?_, fun d hd1 hd2 => ?_, ?_⟩ ?_
          · by_cases q : d = D + 1
            · subst q
              rw [z47, z48, z49, m35, m36, einm, ← ef]
              exact ⟨i1, by omega, i3, by omega, by omega, by omega, 0, 0, hin hy k6⟩
            · rw [k47 d q, k48 d q, k49 d q]
              by_cases q2 : d = D
              · subst q2
                rw [x48, n36]
                refine ⟨a1, a2, by rw [← em]; exact a3, by omega, by omega, a6, pNu f a, gsN st0 m (pNu f a) gs, ?_⟩
                rw [← ef, ← em, ← eb]
                exact hrest
              · rw [y48 d q2]
                exact hL d (by omega)
          · by_cases q2 : d = D
            · subst q2
              rw [k48 d (by omega), x48, z49, w36, to36]
            · rw [k48 d (by omega), y48 d q2, k49 (d + 1) (by omega)]
              exact hC d (by omega)
          · show LyL x d (if d = D + 1 then [] else ℓ d)
            by_cases q : d = D + 1
            · rw [if_pos q, q]
              exact ⟨by unfold LyN; rw [x53, upd_eq rfl]; rfl, Hs.nil⟩
            · rw [if_neg q]
              have hd2 := hG d (by omega)
              exact ⟨by unfold LyN; rw [k53 d q]; exact hd2.1, by rw [x52]; exact hd2.2⟩
          · by_cases q : d = D + 1
            · subst q
              rw [z54, ek2]
              have h1 := hy.1
              omega
            · rw [k54 d q]
              exact hK d hd1 (by omega)
          · rw [← hT]
            refine (totX_x (ℓ := ℓ) (R := wrRt st0 st) (K := wrKt st) D 0 (fun d d1 d2 => ⟨by show ℓ d = (if d = D + 1 then [] else ℓ d); rw [if_neg (by omega)], (zRo d (by omega)).symm, (zKo (d + 1) (by omega)).symm⟩) ?_).symm
            rw [Nat.zero_add]
            show ℓ D ++ wrRt st0 st D = (if D = D + 1 then [] else ℓ D) ++ (viL (wrKt x (D + 1)) ++ (viL (iV ((if D + 1 = D + 1 then [] else ℓ (D + 1)) ++ wrRt st0 x (D + 1)).length) ++ (((if D + 1 = D + 1 then [] else ℓ (D + 1)) ++ wrRt st0 x (D + 1)) ++ wrRt st0 x D)))
            rw [if_neg (by omega), if_pos rfl, List.nil_append, zK, zR, zRD, eR0, eb6, List.append_assoc, List.append_assoc]
          · rw [z48, m35]
            rw [← ea] at hz
            omega
        · -- a text
          have hlong : plg (pV1 f a) := (hok.2.2.1 hy).mpr (by rw [k5]; decide)
          have eb5 : pcB st0 f m a b (wrR st0 f (inM st0 m (pNu f a)) (pFr f a) (pTo f a b)) = viL (iV (2 * pNu f a + 1)) ++ (viL (iV (pTo f a b - pFr f a)) ++ seg f (pFr f a) (pTo f a b)) := by unfold pcB; rw [pif_pos hy, pif_neg k6, pif_pos k5]
          have hs12 := ((hok.2.2.2.1 hy).2 k5).1
          have kv : (2 * pnum (pV1 f a) + 1).toInt64 = iV (2 * pNu f a + 1) := iV_of (by omega) (by rw [j_of, ek2]; omega)
          rw [kv]
          refine Ok.callv (r_laysVL (k := ℓ D) (by omega) (by omega) (by rw [lD]; exact hLw) (by rw [lD]; omega)) (fun y hy2 => ?_)
          rw [lD] at hy2
          have lk : (viL (iV (2 * pNu f a + 1))).length = 1 := by rw [viL_k (by omega)]; rfl
          have y36 : gI y 36 = gI w 36 := (hy2.1.1.1 36 (by decide)).1
          have y35 : gI y 35 = gI w 35 := (hy2.1.1.1 35 (by decide)).1
          have y30 : gF y 30 = f := ((hy2.1.1.2 30 (by decide)).1).trans w30
          have es : (gI y 36 - gI y 35).toInt64 = iV (pTo f a b - pFr f a) := iV_of (by omega) (by rw [j_of, y36, y35, t_sub (by omega) (by omega), w36, w35]; omega)
          rw [es]
          have y1 := hy2.ly hLw
          refine Ok.callv (r_laysVL (by omega) (by omega) (by rw [lD]; exact y1) (by rw [lD, List.length_append, lk]; omega)) (fun x hx => ?_)
          rw [lD] at hx
          have lk2 : (viL (iV (pTo f a b - pFr f a))).length = 1 := by rw [viL_k (by omega)]; rfl
          have x1 := hx.ly y1
          have x36 : (gI x 36).toInt = pTo f a b := by rw [(hx.1.1.1 36 (by decide)).1, y36]; exact w36
          have x35 : (gI x 35).toInt = pFr f a := by rw [(hx.1.1.1 35 (by decide)).1, y35]; exact w35
          have x30 : gF x 30 = f := ((hx.1.1.2 30 (by decide)).1).trans y30
          have lx : ((ℓ D ++ viL (iV (2 * pNu f a + 1))) ++ viL (iV (pTo f a b - pFr f a))).length = (ℓ D).length + 2 := by rw [List.length_append, List.length_append, lk, lk2]
          rw [Ok_nam, w337_202]
          refine r_w202 (fun t => Fr wrI wrF st0 t ∧ LyL t 0 W) (x9_writes_20 z) l 1 x ((ℓ D).length + 2) (pFr f a) (pTo f a b) (by omega) (by omega) x36 (by omega) (by omega) (by rw [lD]; omega) (fun t ht hcp => ?_) fuel 0 (gI x 35) x (by rw [x35]; rfl) (by omega) (by unfold fuel; omega) (LaP.rf (by rw [lD, ← lx]; exact x1.1)) (fun j hj => absurd hj (by omega))
          rw [lD] at ht hcp
          rw [x30] at hcp
          have h3 : LlP x D ((ℓ D ++ viL (iV (2 * pNu f a + 1))) ++ viL (iV (pTo f a b - pFr f a))) (seg f (pFr f a) (pTo f a b)) t := by
            refine ⟨by rw [lx, seg_len]; exact ht, fun i hi => ?_⟩
            rw [seg_len] at hi
            rw [lx, hcp i hi, ix_seg hi]
          refine cont t ?_
          rw [eb5, ← List.append_assoc]
          exact (hy2.tr hx).tr (by rw [← List.append_assoc]; exact h3)
        · -- a number
          have q5 : (kdN st0 m (pNu f a)).toInt ≠ 5 := fun q => k5 (by rw [t_eq, q]; rfl)
          have q6 : (kdN st0 m (pNu f a)).toInt ≠ 6 := fun q => k6 (by rw [t_eq, q]; rfl)
          have ebn : pcB st0 f m a b (wrR st0 f (inM st0 m (pNu f a)) (pFr f a) (pTo f a b)) = viL (iV (2 * pNu f a)) ++ viL (pV2 f a) := by unfold pcB; rw [pif_pos hy, pif_neg k6, pif_neg k5]
          have kv : (2 * pnum (pV1 f a)).toInt64 = iV (2 * pNu f a) := iV_of (by omega) (by rw [j_of, em2]; omega)
          rw [kv]
          refine Ok.callv (r_laysVL (k := ℓ D) (by omega) (by omega) (by rw [lD]; exact hLw) (by rw [lD]; omega)) (fun y hy2 => ?_)
          rw [lD] at hy2
          have lk : (viL (iV (2 * pNu f a))).length = 1 := by rw [viL_k (by omega)]; rfl
          have y1 := hy2.ly hLw
          have y37 : gJ y 37 = punf (pV2 f a) := ((hy2.1.1.1 37 (by decide)).2).trans w37
          unfold x9_folded
          simp only [Ok_bnd, Ok_some]
          have eff : (gJ y 37 <<< ((1 : Int32).toInt64 &&& 63)) ^^^ (gJ y 37 >>> ((63 : Int32).toInt64 &&& 63)) = pV2 f a := by
            rw [y37]
            exact fold_punf (pV2 f a)
          rw [eff]
          refine Ok.callv (r_laysVL (by omega) (by omega) (by rw [lD]; exact y1) (by rw [lD, List.length_append, lk]; omega)) (fun x hx => ?_)
          rw [lD] at hx
          refine cont x ?_
          rw [ebn]
          exact hy2.tr hx
      · rw [pif_pos rfl]
        have ebu : pcB st0 f m a b (wrR st0 f (inM st0 m (pNu f a)) (pFr f a) (pTo f a b)) = seg f a (pTo f a b) := by unfold pcB; rw [pif_neg hno]
        refine r_w202 (fun t => Fr wrI wrF st0 t ∧ LyL t 0 W) (x9_writes_20 z) l 1 w (ℓ D).length a (pTo f a b) (by omega) (by omega) w36 (by omega) (by omega) (by rw [lD]; omega) (fun t ht hcp => ?_) fuel 0 (gF st 48 D) w (by omega) (by omega) (by unfold fuel; omega) (LaP.rf (by rw [lD]; exact hLw.1)) (fun j hj => absurd hj (by omega))
        rw [lD] at ht hcp
        rw [w30] at hcp
        refine cont t ?_
        rw [ebu]
        refine ⟨by rw [seg_len]; exact ht, fun i hi => ?_⟩
        rw [seg_len] at hi
        rw [hcp i hi, ix_seg hi]
/-- writes(): the row, written anew, comes to level 0 -/
theorem r_wr {n0 m0 : Int32} {st : RS} (h1 : 0 ≤ n0.toInt) (h2 : n0.toInt ≤ 120) (hm : mkN st m0) (hM : MkI st) (hS : Sd st (gF st 30) m0.toNatClampNeg 0 n0.toNatClampNeg 0 0) : Ok (x9_writes n0 m0 st) (fun t => Fr wrI wrF st t ∧ LyL t 0 (wrR st (gF st 30) m0.toNatClampNeg 0 n0.toNatClampNeg)) := by
  unfold x9_writes
  obtain ⟨hm1, hm2, hm3⟩ := hm
  refine Ok.callv (r_opens (by decide) (by decide)) (fun t ht => ?_)
  simp only [Ok_gd, Ok_nam, t_in]
  have n0n : (n0.toNatClampNeg : Int) = n0.toInt := by rw [t_nat]; omega
  have z0 : (0 : Int32).toInt = 0 := rfl
  refine ⟨by rw [z0]; omega, ?_⟩
  obtain ⟨x, ex⟩ : ∃ x, x = sF t 53 (upd (gF t 53) (0 : Int32).toNatClampNeg 0) := ⟨_, rfl⟩
  rw [← ex]
  have a47 : gF x 47 0 = m0 := by rw [ex, ht]; rfl
  have a48 : gF x 48 0 = 0 := by rw [ex, ht]; rfl
  have a49 : gF x 49 0 = n0 := by rw [ex, ht]; rfl
  have a53 : gF x 53 0 = 0 := by rw [ex]; rfl
  have htm : tld st m0.toNatClampNeg := ⟨by rw [t_nat]; omega, hm3⟩
  have hlen := wrR_len hM hS htm (Nat.zero_le _) (by omega)
  refine r_wr20 st n0.toNatClampNeg (by omega) hM _ (by omega) fuel 0 (fun _ => []) 0 x rfl (by omega) ⟨?_, fun d hd => ?_, fun d hd => absurd hd (by omega), fun d hd => ?_, fun d h1 h2 => absurd h2 (by omega), ?_⟩ ?_
  · rw [ex, ht]
    exact (((((Fr.rf.sF (by decide)).sF (by decide)).sF (by decide)).sF (by decide)).sF (by decide)).sF (by decide)
  · obtain rfl : d = 0 := by omega
    rw [a47, a48, a49]
    exact ⟨hm1, by omega, hm3, by omega, by omega, by omega, 0, 0, hS⟩
  · obtain rfl : d = 0 := by omega
    exact ⟨by unfold LyN; rw [a53]; rfl, Hs.nil⟩
  · show [] ++ wrRt st x 0 = _
    unfold wrRt
    rw [a47, a48, a49]
    rfl
  · rw [a48]
    unfold fuel
    omega

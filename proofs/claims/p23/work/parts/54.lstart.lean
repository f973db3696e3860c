theorem dL_law_0 : decode cL_law 0 = .ok (.new 7, 3) := by decide +kernel
theorem dL_law_3 : decode cL_law 3 = .ok (.dup, 1) := by decide +kernel
theorem dL_law_4 : decode cL_law 4 = .ok (.invokespecial 9, 3) := by decide +kernel
theorem dL_law_7 : decode cL_law 7 = .ok (.astore_n 1, 1) := by decide +kernel
theorem dL_law_8 : decode cL_law 8 = .ok (.new 10, 3) := by decide +kernel
theorem dL_law_11 : decode cL_law 11 = .ok (.dup, 1) := by decide +kernel
theorem dL_law_12 : decode cL_law 12 = .ok (.invokespecial 12, 3) := by decide +kernel
theorem dL_law_15 : decode cL_law 15 = .ok (.astore_n 2, 1) := by decide +kernel
theorem dL_law_16 : decode cL_law 16 = .ok (.iconst 0, 1) := by decide +kernel
theorem dL_law_17 : decode cL_law 17 = .ok (.istore_n 3, 1) := by decide +kernel
/-- the class's world ahead of all: the constants -/
def c00 : CS := ((32, 0), fun i => if i < 9 then 1 else if i < 18 then 22 else 0, fun i => if i < 9 then 0 else if i < 18 then kLen.getD (i - 9) 0 else 0, fun i k => if i < 9 then 0 else if i < 18 then (kByt.getD (i - 9) []).getD k 0 else 0, fun _ _ => 0, fun i k => if i < 9 then (if k = 0 then some (9 + i) else none) else none)
theorem c00_k {i : Nat} (h : 18 ≤ i) : qk c00 i = 0 := by
  show (if i < 9 then 1 else if i < 18 then 22 else 0) = 0
  rw [if_neg (by omega), if_neg (by omega)]
theorem c00_W {ka ad : Nat → Nat} (h1 : ∀ i, i < 18 → ad i = ka i) (h2 : ∀ i j, 32 ≤ i → 32 ≤ j → ad i = ad j → i = j) : cW ka ad c00 := by
  refine ⟨Nat.le_refl _, fun i hi => c00_k (Nat.le_trans (by decide) hi), fun i hi => ⟨if_pos hi, ?_, if_pos hi, ?_, ?_, fun j => ?_⟩, fun i hi _ => c00_k hi, h1, h2⟩
  · show (if i < 9 then (if 0 = 0 then some (9 + i) else none) else none) = some (9 + i)
    rw [if_pos hi, if_pos rfl]
  · show (if 9 + i < 9 then 1 else if 9 + i < 18 then 22 else 0) = 22
    rw [if_neg (by omega), if_pos (by omega)]
  · show (if 9 + i < 9 then 0 else if 9 + i < 18 then kLen.getD (9 + i - 9) 0 else 0) = kLen.getD i 0
    rw [if_neg (by omega), if_pos (by omega), show 9 + i - 9 = i by omega]
  · show (if 9 + i < 9 then 0 else if 9 + i < 18 then (kByt.getD (9 + i - 9) []).getD j 0 else 0) = (kByt.getD i []).getD j 0
    rw [if_neg (by omega), if_pos (by omega), show 9 + i - 9 = i by omega]
/-- the whole law as a function -/
noncomputable def lawAll (L : Nat) (xs : Nat → Int32) : Option Int32 := nam (wN c00 11 0 12) (fun c0 => bnv (fX8_init 32 c0) (fun c1 => gd (qn c1 ≤ 1000 ∧ qs c1 ≤ 100000) (nam (skip c1 30) (fun c2 => lawF L xs 600 0 c2 rst0))))
/-- as many places as names -/
theorem pig (n : Nat) : ∀ (f : Nat → Nat) (b : Nat), (∀ i, i < n → f i < b) → (∀ i j, i < n → j < n → f i = f j → i = j) → n ≤ b := by
  induction n with
  | zero => exact fun _ _ _ _ => Nat.zero_le _
  | succ n ih =>
    intro f b h1 h2
    have hb := h1 n (Nat.lt_succ_self n)
    have h := ih (fun i => if f i < f n then f i else f i - 1) (b - 1) (fun i hi => ?_) (fun i j hi hj e => ?_)
    · omega
    · have hne : f i ≠ f n := fun e => absurd (h2 i n (by omega) (by omega) e) (by omega)
      have hi1 := h1 i (by omega)
      show (if f i < f n then f i else f i - 1) < b - 1
      by_cases hc : f i < f n
      · rw [if_pos hc]
        omega
      · rw [if_neg hc]
        omega
    · have hni : f i ≠ f n := fun e => absurd (h2 i n (by omega) (by omega) e) (by omega)
      have hnj : f j ≠ f n := fun e => absurd (h2 j n (by omega) (by omega) e) (by omega)
      refine h2 i j (by omega) (by omega) ?_
      have e : (if f i < f n then f i else f i - 1) = (if f j < f n then f j else f j - 1) := e
      by_cases hc : f i < f n
      · by_cases hd : f j < f n
        · rw [if_pos hc, if_pos hd] at e
          exact e
        · rw [if_pos hc, if_neg hd] at e
          omega
      · by_cases hd : f j < f n
        · rw [if_neg hc, if_pos hd] at e
          omega
        · rw [if_neg hc, if_neg hd] at e
          omega
theorem cp_skip {D : va_G} {ka ad : Nat → Nat} {ct : Nat → ClassId} {A : Nat → Prop} {H0 H H1 : Heap} {g : CS} {locs locs1 : List Loc} (n : Nat) (hp : Cp D ka ad ct A H0 g H locs) (hz : H1.size = H.size + n) (ho : ∀ i, 32 ≤ i → qk g i ≠ 0 → H1[ad i]? = H[ad i]?) (hS : va_S A H0 H1 locs1) : Cp D ka ad ct A H0 (skip g n) H1 locs1 := by
  refine ⟨fun i hi hl => ⟨(hp.1 i hi hl).1.kept (ho i hi hl), (hp.1 i hi hl).2⟩, hS, skip_cW hp.2.2.1, fun j => ?_⟩
  have e := hp.2.2.2 (n + j)
  have e1 : qn (skip g n) + j = qn g + (n + j) := by
    show g.1.1 + n + j = g.1.1 + (n + j)
    omega
  rw [e1, e, hz]
  omega
theorem ct_arr {ty : FieldType} {args : Array Value} {s : State} (h : (Cond.arrayClass ty).before args s = true) : ∃ cA : ClassId, ArrOfT s cA ty ∧ s.vm.findClass ("[" ++ ty.toString) = some cA := by
  obtain ⟨c, k, comp, h1, h2, h3⟩ := Cond.arrayClass_spec h
  exact ⟨c, fun n z => ⟨(fun k h => by cases h), k, h2, comp, h3⟩, h1⟩
theorem ct_obj {C : String} {s : State} (h : va_AO C s) : ∃ cA : ClassId, ArrOfT s cA (.object C) ∧ va_RA s cA (.object C) := by
  obtain ⟨comp, c, k, h1, h2, h3, h4, h5⟩ := Cond.arrayOver_spec h
  exact ⟨c, fun n z => ⟨(fun k h => by cases h), k, h3, comp, h4⟩, k, comp, h3, h4, h1, h5⟩
theorem NWL_tab : ∀ w ∈ NWL, w.onTables = true := by decide +kernel
set_option maxRecDepth 20000 in
theorem NWL_in : ∀ w ∈ NWL, w ∈ lwT := by decide +kernel
set_option maxRecDepth 20000 in
theorem AOL_in : ∀ C ∈ AOL, Cond.arrayOver (.object C) ∈ lwT := by decide +kernel
def kTmL : List Term := [.string RX0 24, .string RX6 118, .string RX6 195, .string RX6 197, .string RX6 199, .string RX6 201, .string RX6 203, .string RX6 204, .string RX6 145]
def kTm (i : Nat) : Term := kTmL.getD i (.string RX0 24)
theorem kx_len : ∀ i : Nat, i < 9 → kLen.getD i 0 < 2 ^ 31 := by decide +kernel
set_option maxRecDepth 20000 in
theorem kx_ex : ∀ i : Nat, i < 9 → Cond.exactly (kTm i) "java/lang/String" ∈ flatC (Jvm.Cond.and given_1 narrow_1) := by decide +kernel
set_option maxRecDepth 20000 in
theorem kx_co : ∀ i : Nat, i < 9 → Cond.eq (.field (kTm i) "java/lang/String" "coder" "B") (.int 0) ∈ flatC (Jvm.Cond.and given_1 narrow_1) := by decide +kernel
set_option maxRecDepth 20000 in
theorem kx_ar : ∀ i : Nat, i < 9 → Cond.arrayOf (.field (kTm i) "java/lang/String" "value" "[B") .byte ∈ flatC (Jvm.Cond.and given_1 narrow_1) := by decide +kernel
set_option maxRecDepth 20000 in
theorem kx_le : ∀ i : Nat, i < 9 → Cond.eq (.length (.field (kTm i) "java/lang/String" "value" "[B")) (.int (Int32.ofNat (kLen.getD i 0))) ∈ flatC (Jvm.Cond.and given_1 narrow_1) := by decide +kernel
set_option maxRecDepth 20000 in
theorem kx_el : ∀ i : Nat, i < 9 → ∀ j : Nat, j < kLen.getD i 0 → Cond.eq (.elem (.field (kTm i) "java/lang/String" "value" "[B") (.int (Int32.ofNat j))) (.int ((kByt.getD i []).getD j 0)) ∈ flatC (Jvm.Cond.and given_1 narrow_1) := by decide +kernel
set_option maxRecDepth 20000 in
theorem kx_ne : ∀ i : Nat, i < 9 → ∀ j : Nat, j < 9 → i ≠ j → Cond.not (Cond.eq (kTm i) (kTm j)) ∈ flatC (Jvm.Cond.and given_1 narrow_1) ∨ Cond.not (Cond.eq (kTm j) (kTm i)) ∈ flatC (Jvm.Cond.and given_1 narrow_1) := by decide +kernel
set_option maxHeartbeats 4000000 in
set_option maxRecDepth 100000 in
theorem whole_of {p : Program} {e : Env} {s : State} {m : MethodId} {below : List Frame} {meth : Method} {c : Code} (l : Launch) {b L : Nat} {xs : Nat → Int32} (hlaw : lawAll L xs = some 1) (C0 : lw_At p s m meth c b L xs) : W p l e room_1 s m #[Value.ref b] below meth c s.heap [] 0 0 (lw_Z below #[Value.ref b] s) (entryFrame m ([Value.ref b] : List Value).toArray 4) := by
  obtain ⟨hx, hb, hr, hml, hown, hts0, hX, hbl, hlocks, hgv⟩ := id C0
  have hts : ∀ w ∈ lwT, w.before #[Value.ref b] s = true := lwT_ok hts0
  obtain ⟨A, eA⟩ : ∃ A : Nat → Prop, A = (fun q : Nat => s.heap.size ≤ q) := ⟨_, rfl⟩
  have hA : ∀ q : Nat, s.heap.size ≤ q → A q := fun q h => by rw [eA]; exact h
  have hA2 : ∀ q : Nat, A q → s.heap.size ≤ q := fun q h => by rw [eA] at h; exact h
  have hbA : ¬ A b := fun h => absurd (hA2 b h) (Nat.not_le.mpr hbl)
  have hFr : ∀ a : Nat, a < s.heap.size → ¬ A a := fun a ha h => absurd (hA2 a h) (Nat.not_le.mpr ha)
  obtain ⟨c0, iS0, hKn0⟩ := u_known (C := RJ0) (T := TJ0) (N := 4) (n := 4) hts iL_J0 (hts (.instantiable RJ0 4) (by decide +kernel))
  obtain ⟨c1, iS1, hKn1⟩ := u_known (C := RJ4) (T := TJ4) (N := 4) (n := 4) hts iL_J4 (hts (.instantiable RJ4 4) (by decide +kernel))
  obtain ⟨c2, iS2, hKn2⟩ := u_known (C := RX0) (T := TX0) (N := 7) (n := 7) hts iL_X0 (hts (.instantiable RX0 7) (by decide +kernel))
  obtain ⟨c3, iS3, hKn3⟩ := u_known (C := RX1) (T := TX1) (N := 2) (n := 2) hts iL_X1 (hts (.instantiable RX1 2) (by decide +kernel))
  obtain ⟨c4, iS4, hKn4⟩ := u_known (C := RX2) (T := TX2) (N := 8) (n := 8) hts iL_X2 (hts (.instantiable RX2 8) (by decide +kernel))
  obtain ⟨c5, iS5, hKn5⟩ := u_known (C := RX3) (T := TX3) (N := 4) (n := 4) hts iL_X3 (hts (.instantiable RX3 4) (by decide +kernel))
  obtain ⟨c6, iS6, hKn6⟩ := u_known (C := RX4) (T := TX4) (N := 3) (n := 3) hts iL_X4 (hts (.instantiable RX4 3) (by decide +kernel))
  obtain ⟨c7, iS7, hKn7⟩ := u_known (C := RX5) (T := TX5) (N := 2) (n := 2) hts iL_X5 (hts (.instantiable RX5 2) (by decide +kernel))
  obtain ⟨c8, iS8, hKn8⟩ := u_known (C := RX6) (T := TX6) (N := 6) (n := 6) hts iL_X6 (hts (.instantiable RX6 6) (by decide +kernel))
  obtain ⟨c9, iS9, hKn9⟩ := u_known (C := RX7) (T := TX7) (N := 2) (n := 2) hts iL_X7 (hts (.instantiable RX7 2) (by decide +kernel))
  obtain ⟨c10, iS10, hKn10⟩ := u_known (C := RX8) (T := TX8) (N := 12) (n := 12) hts iL_X8 (hts (.instantiable RX8 12) (by decide +kernel))
  obtain ⟨c11, iS11, hKn11⟩ := u_known (C := RX9) (T := TX9) (N := 60) (n := 60) hts iL_X9 (hts (.instantiable RX9 60) (by decide +kernel))
  obtain ⟨dC, dI, hKc⟩ : ∃ (dC : Nat → ClassId) (dI : Nat → Nat → Nat), ∀ (k : Nat) (q : vw_C), vwCl[k]? = some q → u_Kn s q.1 q.2.1 q.2.2 (dC k) (dI k) := by
    refine ⟨fun k => [c0, c1, c2, c3, c4, c5, c6, c7, c8, c9, c10, c11].getD k c0, fun k => [iS0, iS1, iS2, iS3, iS4, iS5, iS6, iS7, iS8, iS9, iS10, iS11].getD k iS0, ?_⟩
    intro k q hq
    match k, hq with
    | 0, hq => cases hq; exact hKn0
    | 1, hq => cases hq; exact hKn1
    | 2, hq => cases hq; exact hKn2
    | 3, hq => cases hq; exact hKn3
    | 4, hq => cases hq; exact hKn4
    | 5, hq => cases hq; exact hKn5
    | 6, hq => cases hq; exact hKn6
    | 7, hq => cases hq; exact hKn7
    | 8, hq => cases hq; exact hKn8
    | 9, hq => cases hq; exact hKn9
    | 10, hq => cases hq; exact hKn10
    | 11, hq => cases hq; exact hKn11
    | k + 12, hq => simp [vwCl] at hq
  have hN : NX s := ⟨fun w hw => va_Nw.of (NWL_tab w hw) (hts w (NWL_in w hw)), fun C hC => va_AO.of (hts (.arrayOver (.object C)) (AOL_in C hC))⟩
  obtain ⟨t21, a21, r21⟩ := ct_arr (ty := .int) (hts (.arrayClass .int) (by decide +kernel))
  obtain ⟨t22, a22, r22⟩ := ct_arr (ty := .byte) (hts (.arrayClass .byte) (by decide +kernel))
  obtain ⟨t23, a23, r23⟩ := ct_obj (hN.2 RX5 (by decide))
  obtain ⟨t24, a24, r24⟩ := ct_obj (hN.2 RX1 (by decide))
  obtain ⟨t25, a25, r25⟩ := ct_obj (hN.2 RX2 (by decide))
  obtain ⟨t26, a26, r26⟩ := ct_obj (hN.2 RX0 (by decide))
  obtain ⟨ct, hct, hK1⟩ : ∃ ct : Nat → ClassId, (cT ct = [(t21, .int), (t22, .byte), (t23, .object RX5), (t24, .object RX1), (t25, .object RX2), (t26, .object RX0)]) ∧ va_K (dC, dI) vwCl (cT ct) s := by
    have e0 : cT (fun k => [t21, t22, t23, t24, t25, t26].getD (k - 21) t21) = [(t21, .int), (t22, .byte), (t23, .object RX5), (t24, .object RX1), (t25, .object RX2), (t26, .object RX0)] := rfl
    refine ⟨fun k => [t21, t22, t23, t24, t25, t26].getD (k - 21) t21, e0, hKc, ?_⟩
    rw [e0]
    intro k q hq
    match k, hq with
    | 0, hq => cases hq; exact ⟨a21, r21⟩
    | 1, hq => cases hq; exact ⟨a22, r22⟩
    | 2, hq => cases hq; exact ⟨a23, r23⟩
    | 3, hq => cases hq; exact ⟨a24, r24⟩
    | 4, hq => cases hq; exact ⟨a25, r25⟩
    | 5, hq => cases hq; exact ⟨a26, r26⟩
    | k + 6, hq => simp at hq
  have hZ : cz A s s.heap := va_Zof (hts (.laysStatic "java/lang/String" "COMPACT_STRINGS" "Z") (by decide +kernel)) (hts (.initialized "java/lang/String") (by decide +kernel)) (va_eqi (flat_of_before _ hgv (.eq (.static "java/lang/String" "COMPACT_STRINGS" "Z") (.int 1)) (by decide +kernel))) hFr
  obtain ⟨adK, adV, hvS, hev⟩ := vk_Sof (args := #[Value.ref b]) (s := s) (N := 9) (tm := kTm) (len := kLen) (byt := kByt) (A := A) kx_len (fun i hi => flat_of_before _ hgv _ (kx_ex i hi)) (fun i hi => flat_of_before _ hgv _ (kx_co i hi)) (fun i hi => flat_of_before _ hgv _ (kx_ar i hi)) (fun i hi => flat_of_before _ hgv _ (kx_le i hi)) (fun i hi j hj => flat_of_before _ hgv _ (kx_el i hi j hj)) (fun i j hi hj hij => (kx_ne i hi j hj hij).imp (fun h => flat_of_before _ hgv _ h) (fun h => flat_of_before _ hgv _ h)) hFr
  obtain ⟨ka, hka1, hka2⟩ : ∃ ka : Nat → Nat, (∀ i, i < 9 → ka i = adK i) ∧ ∀ i, i < 9 → ka (9 + i) = adV i := by
    refine ⟨fun i => if i < 9 then adK i else adV (i - 9), fun i hi => if_pos hi, fun i hi => ?_⟩
    show (if 9 + i < 9 then adK (9 + i) else adV (9 + i - 9)) = adV i
    rw [if_neg (by omega), show 9 + i - 9 = i by omega]
  have hC : kS ka A s s.heap := by
    refine ⟨fun i hi => ?_, fun i j hi hj e => hvS.2 i j hi hj ?_⟩
    · have e1 := hka1 i hi
      have e2 := hka2 i hi
      show va_O "java/lang/String" (ka i) A s s.heap ∧ va_OF "java/lang/String" "coder" "B" (.int 0) (ka i) A s s.heap ∧ va_OF "java/lang/String" "value" "[B" (.ref (ka (9 + i))) (ka i) A s s.heap ∧ va_T .byte (ka (9 + i)) (kLen.getD i 0) (fun j => .int ((kByt.getD i []).getD j 0)) A s s.heap
      rw [e1, e2]
      exact hvS.1 i hi
    · rw [← hka1 i hi, ← hka1 j hj]
      exact e
  have hR : kR ka s := by
    intro q hq
    rcases (show q = (RX0, 24, "", 0) ∨ q = (RX6, 118, "gone", 1) ∨ q = (RX6, 195, "flag", 2) ∨ q = (RX6, 197, "small", 3) ∨ q = (RX6, 199, "int", 4) ∨ q = (RX6, 201, "long", 5) ∨ q = (RX6, 203, "text", 6) ∨ q = (RX6, 204, "rec", 7) ∨ q = (RX6, 145, "in", 8) by simpa [KRL] using hq) with rfl | rfl | rfl | rfl | rfl | rfl | rfl | rfl | rfl
    · exact vk_R.of (A := #[Value.ref b]) (hts (.stringRef RX0 24 "") (by decide +kernel)) (by show (Term.string RX0 24).eval #[Value.ref b] s none [] s = some (.ref (ka 0)); rw [hka1 0 (by decide)]; exact hev 0 (by decide))
    · exact vk_R.of (A := #[Value.ref b]) (hts (.stringRef RX6 118 "gone") (by decide +kernel)) (by show (Term.string RX6 118).eval #[Value.ref b] s none [] s = some (.ref (ka 1)); rw [hka1 1 (by decide)]; exact hev 1 (by decide))
    · exact vk_R.of (A := #[Value.ref b]) (hts (.stringRef RX6 195 "flag") (by decide +kernel)) (by show (Term.string RX6 195).eval #[Value.ref b] s none [] s = some (.ref (ka 2)); rw [hka1 2 (by decide)]; exact hev 2 (by decide))
    · exact vk_R.of (A := #[Value.ref b]) (hts (.stringRef RX6 197 "small") (by decide +kernel)) (by show (Term.string RX6 197).eval #[Value.ref b] s none [] s = some (.ref (ka 3)); rw [hka1 3 (by decide)]; exact hev 3 (by decide))
    · exact vk_R.of (A := #[Value.ref b]) (hts (.stringRef RX6 199 "int") (by decide +kernel)) (by show (Term.string RX6 199).eval #[Value.ref b] s none [] s = some (.ref (ka 4)); rw [hka1 4 (by decide)]; exact hev 4 (by decide))
    · exact vk_R.of (A := #[Value.ref b]) (hts (.stringRef RX6 201 "long") (by decide +kernel)) (by show (Term.string RX6 201).eval #[Value.ref b] s none [] s = some (.ref (ka 5)); rw [hka1 5 (by decide)]; exact hev 5 (by decide))
    · exact vk_R.of (A := #[Value.ref b]) (hts (.stringRef RX6 203 "text") (by decide +kernel)) (by show (Term.string RX6 203).eval #[Value.ref b] s none [] s = some (.ref (ka 6)); rw [hka1 6 (by decide)]; exact hev 6 (by decide))
    · exact vk_R.of (A := #[Value.ref b]) (hts (.stringRef RX6 204 "rec") (by decide +kernel)) (by show (Term.string RX6 204).eval #[Value.ref b] s none [] s = some (.ref (ka 7)); rw [hka1 7 (by decide)]; exact hev 7 (by decide))
    · exact vk_R.of (A := #[Value.ref b]) (hts (.stringRef RX6 145 "in") (by decide +kernel)) (by show (Term.string RX6 145).eval #[Value.ref b] s none [] s = some (.ref (ka 8)); rw [hka1 8 (by decide)]; exact hev 8 (by decide))
  have hL : kL s := va_Nw.of rfl (hts (.castable "[B" "java/lang/Cloneable") (by decide +kernel))
  obtain ⟨ad, had0, had⟩ : ∃ ad : Nat → Nat, (∀ i, i < 32 → ad i = ka i) ∧ ∀ i, 32 ≤ i → ad i = s.heap.size + (i - 32) := ⟨fun i => if i < 32 then ka i else s.heap.size + (i - 32), fun i hi => if_pos hi, fun i hi => if_neg (by omega)⟩
  have hp : Cp (dC, dI) ka ad ct A s.heap c00 s.heap [] := ⟨fun i hi hl => absurd (c00_k (by omega)) hl, va_S.rf, c00_W (fun i hi => had0 i (by omega)) (fun i j hi hj e => by rw [had i hi, had j hj] at e; omega), fun j => by show ad (32 + j) = s.heap.size + j; rw [had _ (by omega)]; omega⟩
  unfold lawAll at hlaw
  obtain ⟨y0, ey0, hlaw⟩ := nam_some hlaw
  subst ey0
  obtain ⟨c1', hc1, hlaw⟩ := bnv_some hlaw
  obtain ⟨hbd, hlaw⟩ := gd_some hlaw
  obtain ⟨y2, ey2, hlaw⟩ := nam_some hlaw
  subst ey2
  have hmo := mo_X8_init 32 _ _ hc1
  have hl := lv_entry ([.ref b]) (n := 4) (Nat.le_of_ble_eq_true rfl)
  rw [lg_entry_eq]
  generalize (lg_sl ([.ref b]) ++ List.replicate (4 - (lg_sl ([.ref b])).length) Slot.unset).toArray = ls at hl ⊢
  have hl : lv_has ls 4 [(0, .ref b)] := hl
  have q33 : qn (wN c00 11 0 12) = 33 := rfl
  have s12 : qs (wN c00 11 0 12) = 12 := rfl
  have hq1 := hmo.1
  have hs1 := hmo.2.1
  rw [q33] at hq1
  rw [s12] at hs1
  refine q_new (ci := 10) (N := 12) (C := RX8) (T := TX8) hx hb hts iL_X8 tyX8 tyX8_ok hown (hts (.classLink RL 7 RX8) (by decide +kernel)) (hts (.instantiable RX8 12) (by decide +kernel)) (hts (.initialized RX8) (by decide +kernel)) hK1 hp hA (by decide) rfl rfl dvX8 (Nat.le_of_ble_eq_true rfl) (Nat.le_of_ble_eq_true rfl) dL_law_0 (fun H hp => ?_)
  have hp : Cp (dC, dI) ka ad ct A s.heap (wN c00 11 0 12) H [] := hp
  refine W.widen (k := 1) (n := 12) (by omega) (by omega) ?_
  refine lv_dup hx hb dL_law_3 rfl ?_
  show W p l e room_1 s m #[Value.ref b] below meth c H [] 1 12 (lw_Z below #[Value.ref b] s) (F0 m 4 ls [.ref (ad 32), .ref (ad 32)])
  refine q_cv hp hA (va_runI (As := []) (rest := [.ref (ad 32)]) ⟨hx, hb, hml, hown, hts⟩ (c_X8_init l dC dI ka ad ct 32 _ _ hc1 _) (cwI 0 hts gw_wq_X8_init rfl rfl rfl (hts (.initialized RX8) (by decide +kernel)) (hts (.methodLink RL 9 yX8_init) (by decide +kernel)) (hts (.instanceMethod yX8_init) (by decide +kernel)) rfl (by decide +kernel) ⟨Nat.le_of_ble_eq_true rfl, Nat.le_of_ble_eq_true rfl⟩) ⟨PrC.blind _, q_pre hp hK1 hN hZ hC hR hL hA⟩ rfl rfl hl.1 rfl (lv_room (Nat.le_of_ble_eq_true rfl)) dL_law_4 ⟨by show 1 + (qn c1' - 33) ≤ 600000; omega, by show 12 + (qs c1' - 12) ≤ 7302250; omega⟩) (fun H locs hp => ?_)
  refine W.widen (k := qn c1' - 32) (n := qs c1') (by show 1 + (qn c1' - 33) ≤ _; omega) (by show 12 + (qs c1' - 12) ≤ _; omega) ?_
  refine lv_astore_n (lv' := [(1, .ref (ad 32)), (0, .ref b)]) hx hb dL_law_7 rfl hl (by decide) rfl (fun ls hl => ?_)
  have hS0 : H.size = s.heap.size + (qn c1' - 32) := by
    have e := hp.2.2.2 0
    rw [Nat.add_zero, Nat.add_zero, had _ hp.2.2.1.1] at e
    exact e.symm
  have hKn := hKc 11 _ rfl
  refine W.newcK hx hb hown (hts (.classLink RL 10 RX9) (by decide +kernel)) (hts (.instantiable RX9 60) (by decide +kernel)) (hts (.initialized RX9) (by decide +kernel)) rfl dL_law_8 (by show qn c1' - 32 + 1 ≤ 600000; omega) (by show qs c1' + 60 ≤ 7302250; omega) hKn.2.1 rfl fun H1 kC hkC e1 z1 o1 => ?_
  have hat : va_at (dC, dI) vwCl (H.size, .inr (11, [.null, .null, .null, .null, .null, .null, .null, .null, .null, .null, .int 0, .int 0, .int 0, .int 0, .int 0, .int 0, .int 0, .int 0, .int 0, .long 0, .long 0, .long 0, .long 0, .long 0, .long 0, .long 0, .long 0, .int 0, .null, .null, .null, .long 0, .int 0, .int 0, .int 0, .int 0, .int 0, .long 0, .int 0, .int 0, .int 0, .int 0, .null, .null, .null, .null, .null, .null, .null, .null, .null, .null, .null, .null, .null, .null, .int 0, .null, .null, .int 0])) H1 := ⟨_, rfl, (u_born tyX9 hts iL_X9 hKn hkC e1 tyX9_ok).to (fun j hj => fsX9_ok j hj)⟩
  have hS1 : va_S A s.heap H1 locs := ⟨Nat.le_trans hp.2.1.1 (by omega), fun q h1 h2 => (o1 q (Nat.lt_of_lt_of_le h1 hp.2.1.1)).trans (hp.2.1.2.1 q h1 h2), hp.2.1.2.2⟩
  have hp1 : Cp (dC, dI) ka ad ct A s.heap (skip c1' 1) H1 locs := cp_skip 1 hp z1 (fun i hi hl => o1 _ (hp.1 i hi hl).1.lt) hS1
  have hP : va_P (dC, dI) vwCl [(H.size, .inr (11, [.null, .null, .null, .null, .null, .null, .null, .null, .null, .null, .int 0, .int 0, .int 0, .int 0, .int 0, .int 0, .int 0, .int 0, .int 0, .long 0, .long 0, .long 0, .long 0, .long 0, .long 0, .long 0, .long 0, .int 0, .null, .null, .null, .long 0, .int 0, .int 0, .int 0, .int 0, .int 0, .long 0, .int 0, .int 0, .int 0, .int 0, .null, .null, .null, .null, .null, .null, .null, .null, .null, .null, .null, .null, .null, .null, .int 0, .null, .null, .int 0]))] H1 := fun k q h => by
    match k, h with
    | 0, h => cases h; exact hat
    | k + 1, h => simp at h
  have hD : va_D A [(H.size, .inr (11, [.null, .null, .null, .null, .null, .null, .null, .null, .null, .null, .int 0, .int 0, .int 0, .int 0, .int 0, .int 0, .int 0, .int 0, .int 0, .long 0, .long 0, .long 0, .long 0, .long 0, .long 0, .long 0, .long 0, .int 0, .null, .null, .null, .long 0, .int 0, .int 0, .int 0, .int 0, .int 0, .long 0, .int 0, .int 0, .int 0, .int 0, .null, .null, .null, .null, .null, .null, .null, .null, .null, .null, .null, .null, .null, .null, .int 0, .null, .null, .int 0]))] := ⟨fun i j p q h1 h2 _ => by
    match i, j, h1, h2 with
    | 0, 0, _, _ => rfl
    | 0, j + 1, _, h2 => simp at h2
    | i + 1, _, h1, _ => simp at h1, fun k q h => by
    match k, h with
    | 0, h => cases h; exact hA _ (by show s.heap.size ≤ H.size; omega)
    | k + 1, h => simp at h⟩
  show W p l e room_1 s m #[Value.ref b] below meth c H1 locs (qn c1' - 32 + 1) (qs c1' + 60) (lw_Z below #[Value.ref b] s) (F0 m 11 ls [.ref H.size])
  refine lv_dup hx hb dL_law_11 rfl ?_
  have hFc := va_free (wc := [(H.size, .inr (11, [.null, .null, .null, .null, .null, .null, .null, .null, .null, .null, .int 0, .int 0, .int 0, .int 0, .int 0, .int 0, .int 0, .int 0, .int 0, .long 0, .long 0, .long 0, .long 0, .long 0, .long 0, .long 0, .long 0, .int 0, .null, .null, .null, .long 0, .int 0, .int 0, .int 0, .int 0, .int 0, .long 0, .int 0, .int 0, .int 0, .int 0, .null, .null, .null, .null, .null, .null, .null, .null, .null, .null, .null, .null, .null, .null, .int 0, .null, .null, .int 0]))]) hD hS1 hA [0] rfl
  have hKe : va_K (dC, dI) vwCl [] s := ⟨hKc, fun k q h => by simp at h⟩
  refine va_callv (va_runI (As := []) (rest := [.ref H.size]) ⟨hx, hb, hml, hown, hts⟩ (c_X9_init l dC dI H.size H1.size) (cwI 0 hts gw_wp_X9_init rfl rfl rfl (hts (.initialized RX9) (by decide +kernel)) (hts (.methodLink RL 12 yX9_init) (by decide +kernel)) (hts (.instanceMethod yX9_init) (by decide +kernel)) rfl (by decide +kernel) ⟨Nat.le_of_ble_eq_true rfl, Nat.le_of_ble_eq_true rfl⟩) ⟨Pr.blind _, fun U hU hW => ⟨rfl, Pr.at hP hKe hD hN hZ RO.nil hS1 hFc hU hW⟩⟩ rfl rfl hl.1 rfl (lv_room (Nat.le_of_ble_eq_true rfl)) dL_law_12 ⟨by show qn c1' - 32 + 1 + 29 ≤ 600000; omega, by show qs c1' + 60 + 9835 ≤ 7302250; omega⟩) hS1 (fun q _ h => hFc q h) hFc (fun u t H2 locs2 ht hvm hw hB hz1 hk1 hS2 => ?_)
  obtain ⟨a, ca⟩ := u
  obtain ⟨hB1, hB2, hB3⟩ := hB
  rw [ht] at hB1
  have hB1 : va_P (dC, dI) vwCl (RW H.size a ca rst0) H2 := hB1
  have hK2 : va_K (dC, dI) vwCl (rT ca) s := va_K.moved hvm.symm hB2
  refine W.sized (fun hle => ?_)
  have hle : H2.size ≤ s.heap.size + (qn c1' - 32 + 1 + 29) := hle
  have hne : ∀ (k : Nat) (x : Nat × va_E), (RW H.size a ca rst0)[k]? = some x → x.1 < H2.size ∧ (x.1 = H.size ∨ H1.size ≤ x.1) := fun k x hk => ⟨(hB1 k x hk).lt, by
    rcases hB3.2 k x hk with ⟨j, e, hj⟩ | h
    · match j, hj with
      | 0, hj => exact Or.inl (congrArg Prod.fst (Option.some.inj hj)).symm
      | j + 1, hj => simp at hj
    · exact Or.inr h⟩
  have hlen : (RW H.size a ca rst0).length = 30 := rfl
  have hpig : 30 ≤ H2.size - H.size := by
    have hget : ∀ i, i < 30 → ∃ x, (RW H.size a ca rst0)[i]? = some x := fun i hi => ⟨_, List.getElem?_eq_getElem (by rw [hlen]; exact hi)⟩
    refine pig 30 (fun i => (((RW H.size a ca rst0)[i]?).map (fun x => x.1 - H.size)).getD 0) _ (fun i hi => ?_) (fun i j hi hj e => ?_)
    · obtain ⟨x, hx⟩ := hget i hi
      have h := hne i x hx
      show (((RW H.size a ca rst0)[i]?).map (fun x => x.1 - H.size)).getD 0 < _
      rw [hx]
      show x.1 - H.size < H2.size - H.size
      rcases h.2 with h2 | h2 <;> omega
    · obtain ⟨x, hx⟩ := hget i hi
      obtain ⟨y, hy⟩ := hget j hj
      have e : (((RW H.size a ca rst0)[i]?).map (fun x => x.1 - H.size)).getD 0 = (((RW H.size a ca rst0)[j]?).map (fun x => x.1 - H.size)).getD 0 := e
      rw [hx, hy] at e
      have e : x.1 - H.size = y.1 - H.size := e
      have h1 := (hne i x hx).2
      have h2 := (hne j y hy).2
      exact hB3.1 i j x y hx hy (by rcases h1 with h1 | h1 <;> rcases h2 with h2 | h2 <;> omega)
  have hz2 : H2.size = H1.size + 29 := by omega
  have hne2 : ∀ x : Nat, aR H.size a x → x < H2.size ∧ H.size ≤ x := fun x hx => by
    have hm : ∃ (k : Nat) (q : Nat × va_E), (RW H.size a ca rst0)[k]? = some q ∧ q.1 = x := by
      rcases hx with rfl | ⟨k, hk, rfl⟩
      · exact ⟨0, _, rfl, rfl⟩
      · obtain ⟨j, hj⟩ := List.getElem?_of_mem hk
        refine ⟨j + 1, ac a ca rst0 k, ?_, rfl⟩
        unfold RW
        rw [List.getElem?_cons_succ, List.getElem?_map, hj]
        rfl
    obtain ⟨k, q, h1, rfl⟩ := hm
    have h := hne k q h1
    exact ⟨h.1, by rcases h.2 with h2 | h2 <;> omega⟩
  have hcl : ∀ i, 32 ≤ i → qk c1' i ≠ 0 → ad i < H.size := fun i hi hl => (hp.1 i hi hl).1.lt
  have hp2 : Cp (dC, dI) ka ad ct A s.heap (skip c1' 30) H2 locs2 := by
    have h := cp_skip 29 hp1 hz2 (fun i hi hl => hk1 _ (by have := hcl i hi hl; omega) (fun hc => by
      have hlt := hcl i hi hl
      rcases hc with ⟨j, e, hj⟩ | hc
      · match j, hj with
        | 0, hj =>
          have e1 : H.size = ad i := congrArg Prod.fst (Option.some.inj hj)
          omega
        | j + 1, hj => simp at hj
      · omega)) hS2
    exact h
  have hLp : Lp (dC, dI) ka ad ct H.size a ca A s.heap (skip c1' 30) rst0 H2 locs2 := ⟨hp2, ⟨hB1, hB3.weaken (fun k q hk h => hFc _ h), hS2⟩, fun x hx => ⟨(hne2 x hx).1, fun i hi hl e => by have := hcl i hi hl; have := (hne2 x hx).2; omega⟩⟩
  have q2 : qn (skip c1' 30) = qn c1' + 30 := rfl
  have s2 : qs (skip c1' 30) = qs c1' := rfl
  refine W.widen (k := qn (skip c1' 30) - 32) (n := qs (skip c1' 30) + 9895) (by rw [q2]; omega) (by rw [s2]; omega) ?_
  show W p l e room_1 s m #[Value.ref b] below meth c H2 locs2 (qn (skip c1' 30) - 32) (qs (skip c1' 30) + 9895) (lw_Z below #[Value.ref b] s) (F0 m 15 ls [.ref H.size])
  refine lv_astore_n (lv' := [(2, .ref H.size), (1, .ref (ad 32)), (0, .ref b)]) hx hb dL_law_15 rfl hl (by decide) rfl (fun ls hl => ?_)
  refine lv_iconst (v := 0) hx hb dL_law_16 (by decide) ?_
  refine lv_istore_n (lv' := [(3, .int 0), (2, .ref H.size), (1, .ref (ad 32)), (0, .ref b)]) hx hb dL_law_17 rfl hl (by decide) rfl (fun ls hl => ?_)
  exact law_loop l C0 hts hA hbA dC dI ka ad ct H.size a ca had hK1 hK2 hN hZ hC hR hL hA2 600 0 _ _ hlaw _ _ _ hLp ⟨by rw [q2]; omega, by rw [s2]; omega⟩ (lv_sub hl [3, 2, 1, 0] rfl)

/-! class: the group -/
def GpP (f : Nat → Int32) (n F p : Nat) (g : CS) (q : Int32 × CS) : Prop := Rs (gpF f n p) (fun z => q.1 = 1 ∧ Tf F 2 4 g q.2 ∧ (∃ p', Tr f n p' q.2 ∧ p' ≤ n ∧ rn blk f n p' = rn blk f n z.2) ∧ (qI q.2 F 2).toInt = z.1 ∧ (∀ j, j ≠ 2 → qI q.2 F j = qI g F j) ∧ qJ q.2 F = qJ g F ∧ qP q.2 F = qP g F) (Bd f n F 2 4 g q)
theorem w_takeGroup {f : Nat → Int32} {n F p : Nat} {g : CS} (hp : p ≤ n) (h : Tr f n p g) (hO : FO g F) (h2 : (qI g F 2).toInt = 0) (hnl : ¬ (p < n ∧ ltr (f p))) : Ok (fX6_takeGroup 45 (some F) g) (GpP f n F p g) := by
  have hn4 := h.1.n400
  have hF106 := hO.2.1
  unfold fX6_takeGroup fX6_takeGroup_4
  rw [Ok_gd]
  refine ⟨h.1.1.1, Ok.callv (w_skip h hp) (fun u hu => ?_)⟩
  obtain ⟨u1, u2⟩ := hu
  have hw := rn_le blk f hp
  have hid := rn_idem blk f n p
  have hgp : gpF f n p = pif (rn blk f n p < n ∧ ltr (f (rn blk f n p))) (nam (rn ltr f n (rn blk f n p)) (fun e => nam (rn blk f n e) (fun h => pif (wEq f (rn blk f n p) e [105, 110] ∧ (h < n ∧ dgt (f h) ∧ ¬ (e < n ∧ dgt (f e))) ∧ 49 ≤ (f h).toInt ∧ (f h).toInt ≤ 51) (some (((f h).toInt - 48).toNat, h + 1)) none))) (some (0, p)) := by
    unfold gpF
    rw [pif_neg hnl]
    rfl
  have keepu := hO.s h.1 u2
  unfold GpP
  rw [hgp]
  clear hgp
  obtain ⟨b, eb⟩ : ∃ b, b = rn blk f n p := ⟨_, rfl⟩
  rw [← eb] at hid u1 hw ⊢
  rw [Ok_gd]
  refine ⟨u1.1.1.1, Ok.bc (w_isLetter u1.1 u1.2.1) (fun hl => ?_) (fun hl => ?_)⟩
  · rw [pif_pos hl]
    simp only [nam_x]
    unfold fX6_takeGroup_12
    rw [Ok_pif]
    refine ⟨fun q => absurd q (by decide), fun _ => ?_⟩
    simp only [Ok_gd, Ok_nam]
    refine ⟨u1.1.1.1, Ok.call (w_takeWord u1 hw) (fun r t ht => ?_)⟩
    obtain ⟨s, e1, e2, e3, e4, e5⟩ := ht
    have e1 : r = some s := e1
    have he := rn_le ltr f hw
    generalize rn ltr f n b = e at *
    have hT : Tf 46 2 4 g t := (u2.tr e4).le (by omega) (by omega)
    have hOt := hO.fr hT
    have bad : ∀ {o : Option (Nat × Nat)} {w' x : Int32} {v : CS}, w' ≠ 0 → Tf 46 2 4 g v → TrI f n v → o = none → Ok (bnd (fX6_refuse 45 w' x v) (fun r t => gd (narrow .boolean (.int r) = .int r) (some (r, t)))) (fun q => Rs o (fun z => q.1 = 1 ∧ Tf F 2 4 g q.2 ∧ (∃ p', Tr f n p' q.2 ∧ p' ≤ n ∧ rn blk f n p' = rn blk f n z.2) ∧ (qI q.2 F 2).toInt = z.1 ∧ (∀ j, j ≠ 2 → qI q.2 F j = qI g F j) ∧ qJ q.2 F = qJ g F ∧ qP q.2 F = qP g F) (Bd f n F 2 4 g q)) := fun hw' hv hI ho => (w_badN hI hv.up hw').mono (fun q hq => Rs.n ho hq)
    unfold fX6_takeGroup_26
    rw [e1]
    simp only [Ok_gd, Ok_ono]
    refine ⟨s, rfl, e5.1.1, Ok.bc (w_isWord 8 [105, 110] e5 e3.1.2.2.2.2.1 e3.1.2.2.2.2.2 (by decide) rfl rfl) (fun ci => ?_) (fun ci => ?_)⟩
    · unfold fX6_takeGroup_31
      rw [Ok_pif]
      refine ⟨fun q => absurd q (by decide), fun _ => ?_⟩
      rw [Ok_gd]
      refine ⟨e3.1.1.1, Ok.bc (w_isDigit e3.1 e3.2.1) (fun hd => ?_) (fun hd => ?_)⟩
      · unfold fX6_takeGroup_49 fX6_takeGroup_61
        rw [Ok_pif]
        refine ⟨fun q => absurd q (by decide), fun _ => ?_⟩
        rw [Ok_gd]
        exact ⟨e3.1.1.1, bad (by decide) hT e3.1 (pif_neg (fun q => q.2.1.2.2 hd))⟩
      · unfold fX6_takeGroup_49
        rw [Ok_pif]
        refine ⟨fun _ => ?_, fun q => absurd rfl q⟩
        rw [Ok_gd]
        refine ⟨e3.1.1.1, Ok.callv (w_skip e3 he) (fun v hv => ?_)⟩
        obtain ⟨v1, v2⟩ := hv
        have hh := rn_le blk f he
        generalize rn blk f n e = d at *
        have hTv : Tf 46 2 4 g v := (hT.tr v2).le (by omega) (by omega)
        have hOv := hO.fr hTv
        have keep := hO.s h.1 hTv
        have hnlb := hOv.nlb v1.1
        have i3 := inc (x := qI v 45 3) (by have := v1.2.1; omega) (by have := v1.2.1; omega)
        unfold fX6_takeGroup_66
        rw [Ok_gd]
        refine ⟨v1.1.1.1, Ok.call (w_digitAt v1.1 v1.2.1) (fun r' t' ht' => ?_)⟩
        obtain ⟨t1, t2⟩ := ht'
        have t1 : t' = v := t1
        subst t1
        have t2 : (d < n ∧ dgt (f d)) ∧ r'.toInt = (f d).toInt - 48 ∨ ¬ (d < n ∧ dgt (f d)) ∧ r' = -1 := t2
        unfold fX6_takeGroup_74 fX6_takeGroup_85 fX6_takeGroup_94
        rw [Ok_pif, Ok_pif, t_lt, t_le, show (1 : Int32).toInt = 1 from rfl, show (3 : Int32).toInt = 3 from rfl]
        have hno : ¬ (1 ≤ r'.toInt ∧ r'.toInt ≤ 3) → ¬ (wEq f b e [105, 110] ∧ (d < n ∧ dgt (f d) ∧ ¬ (e < n ∧ dgt (f e))) ∧ 49 ≤ (f d).toInt ∧ (f d).toInt ≤ 51) := fun hr q => by
          rcases t2 with t2 | t2
          · have := t2.2
            omega
          · exact t2.1 ⟨q.2.1.1, q.2.1.2.1⟩
        refine ⟨fun c1 => ?_, fun c1 => ⟨fun c3 => ?_, fun c3 => ?_⟩⟩
        · rw [Ok_gd]
          exact ⟨v1.1.1.1, bad (by decide) hTv v1.1 (pif_neg (hno (by omega)))⟩
        · have t3 : (d < n ∧ dgt (f d)) ∧ r'.toInt = (f d).toInt - 48 := by
            rcases t2 with t2 | t2
            · exact t2
            · exfalso
              rw [t2.2] at c1
              exact c1 (by decide)
          simp only [Ok_ono, Ok_gd, Ok_nam, Ok_some]
          have f1 : Tf F 0 0 t' (wI t' F 2 r') := Tf.wFI (by omega)
          have f2 : TrI f n (wI t' F 2 r') := v1.1.fr f1 (v1.1.2.2.2.2.2.i (by omega) hnlb) (Or.inr hF106)
          have e45 : qI (wI t' F 2 r') 45 = qI t' 45 := qI_wo (by omega)
          have f3 : Tr f n d (wI t' F 2 r') := ⟨f2, by rw [e45]; exact v1.2.1, by rw [e45]; exact v1.2.2⟩
          obtain ⟨g1, g2⟩ := f3.go (d := 1) (x := qI (wI t' F 2 r') 45 3 + 1) (by rw [e45, i3, v1.2.1]; rfl)
          have hd1 : d + 1 ≤ n := t3.1.1
          refine ⟨F, rfl, hOv.1, f2.1.1, Rs.s (x := (((f d).toInt - 48).toNat, d + 1)) (pif_pos ⟨ci, ⟨t3.1.1, t3.1.2, hd⟩, by omega, by omega⟩) ⟨by trivial, (((hTv.up (F := F)).tr f1).tr g2.up).le (by omega) (by omega), ⟨d + 1, g1, hd1, rfl⟩, ?_, fun j hj => ?_, keep.2.1, keep.2.2⟩⟩
          · show (qI (wI (wI t' F 2 r') 45 3 (qI (wI t' F 2 r') 45 3 + 1)) F 2).toInt = _
            rw [qI_wo (by omega), qI_wI, if_pos rfl, if_pos rfl]
            show _ = (((f d).toInt - 48).toNat : Int)
            omega
          · show qI (wI (wI t' F 2 r') 45 3 (qI (wI t' F 2 r') 45 3 + 1)) F j = _
            rw [qI_wo (by omega), qI_wI, if_pos rfl, if_neg hj, keep.1]
        · rw [Ok_gd]
          exact ⟨v1.1.1.1, bad (by decide) hTv v1.1 (pif_neg (hno (by omega)))⟩
    · unfold fX6_takeGroup_31 fX6_takeGroup_40
      rw [Ok_pif]
      refine ⟨fun _ => ?_, fun q => absurd rfl q⟩
      rw [Ok_gd]
      exact ⟨e3.1.1.1, bad (by decide) hT e3.1 (pif_neg (fun q => ci q.1))⟩
  · rw [pif_neg hl]
    unfold fX6_takeGroup_12
    rw [Ok_pif]
    refine ⟨fun _ => ?_, fun q => absurd rfl q⟩
    rw [Ok_some]
    exact Rs.s (x := (0, p)) rfl ⟨rfl, (u2.up (F := F)).le (by omega) (by omega), ⟨b, u1, hw, by rw [hid]; exact eb⟩, by show (qI u F 2).toInt = 0; rw [keepu.1]; exact h2, fun j _ => by show qI u F j = _; rw [keepu.1], keepu.2.1, keepu.2.2⟩
/-! class: a text as default -/
theorem w_isQuot {f : Nat → Int32} {n p : Nat} {g : CS} : Ok (fX6_isQuotable (pk1 f n p) g) (BC (p < n ∧ qtb (f p)) g) := by
  unfold fX6_isQuotable fX5_isTextByte
  rw [← pk1_P (P := qtb) (f := f) (by unfold qtb; decide)]
  generalize pk1 f n p = x
  unfold qtb
  refine Ok.bc (c := 32 ≤ x.toInt ∧ x.toInt ≤ 126) (g := g) ?_ (fun hy => ?_) (fun hn => ?_)
  · simp only [Ok_pif, Ok_some]
    rw [t_lt, t_lt, show (32 : Int32).toInt = 32 from rfl, show (126 : Int32).toInt = 126 from rfl]
    exact ⟨fun c => Or.inr ⟨by omega, rfl⟩, fun c => ⟨fun d => Or.inr ⟨by omega, rfl⟩, fun d => Or.inl ⟨by omega, rfl⟩⟩⟩
  · simp only [Ok_pif, Ok_some]
    exact ⟨fun q => absurd q (by decide), fun _ => ⟨fun c => Or.inr ⟨fun q => q.2.2 c, rfl⟩, fun c => Or.inl ⟨⟨hy.1, hy.2, c⟩, rfl⟩⟩⟩
  · simp only [Ok_pif, Ok_some]
    exact ⟨fun _ => Or.inr ⟨fun q => hn ⟨q.1, q.2.1⟩, rfl⟩, fun q => absurd trivial q⟩
def TeP (f : Nat → Int32) (n F v : Nat) (g : CS) (q : Int32 × CS) : Prop := (((v < n ∧ f v = 34) ∧ TxtG f n (v + 1)) ∧ q.1 = 1 ∧ Tf F 2 4 g q.2 ∧ Tr f n (rn qtb f n (v + 1) + 1) q.2 ∧ (∃ s, qP q.2 F 5 = some s ∧ StC f (v + 1) (rn qtb f n (v + 1) - (v + 1)) s q.2) ∧ qI q.2 F = qI g F ∧ qJ q.2 F = qJ g F ∧ ∀ j, j ≠ 5 → qP q.2 F j = qP g F j) ∨ (¬ ((v < n ∧ f v = 34) ∧ TxtG f n (v + 1)) ∧ Bd f n F 2 4 g q)
theorem w_text46 (f : Nat → Int32) (n F v : Nat) (g0 : CS) (h0 : TrI f n g0) (hO : FO g0 F) (hv : v < n ∧ f v = 34) : ∀ (z k : Nat) (x : Int32) (g : CS), x.toInt = k → k ≤ 12 → 12 - k < z → v + 1 + k ≤ n → Tr f n (v + 1 + k) g → Tf 46 0 (-(k + 1)) g0 g → (qI g 46 3).toInt = k → (∀ j, j < k → qI g (lb g) j = f (v + 1 + j)) → (∀ j, v + 1 ≤ j → j < v + 1 + k → j < n ∧ qtb (f j)) → Ok (fX6_takeText_46 45 z (some F) x g) (TeP f n F v g0) := by
  intro z
  induction z with
  | zero => intro k x g a b c; omega
  | succ z ih =>
    intro k x g hx hk hz hkn hT hF hc hB hA
    have hn4 := hT.1.n400
    have hL := hT.1.2.2.2.2.2
    have hpos := hT.2.1
    have e := inc (x := x) (by omega) (by omega)
    have i3 := inc (x := qI g 45 3) (by omega) (by omega)
    have fin : (k = 12 ∨ ¬ (v + 1 + k < n ∧ qtb (f (v + 1 + k)))) → Ok (fX6_takeText_105 45 (some F) g) (TeP f n F v g0) := fun hend => by
      unfold fX6_takeText_105
      simp only [Ok_gd, Ok_ono]
      refine ⟨hT.1.1.1, 33, hT.1.1.2.1, hT.1.2.1.1, Ok.call (w_at hT.1 hpos) (fun r t ht => ?_)⟩
      cases ht
      unfold fX6_takeText_116
      have h34 : pk1 f n (v + 1 + k) = 34 ↔ v + 1 + k < n ∧ f (v + 1 + k) = 34 := pk1_P (P := fun x => x = 34) (by decide)
      rw [Ok_pif, h34]
      refine ⟨fun c => ?_, fun c => ?_⟩
      · have hq : ¬ (v + 1 + k < n ∧ qtb (f (v + 1 + k))) := fun q => q.2.2.2 c.2
        have er : v + 1 + k = rn qtb f n (v + 1) := run.eq ⟨by omega, hA, hq⟩
        have hG : TxtG f n (v + 1) := ⟨by omega, by rw [← er]; exact c.1, by rw [← er]; exact c.2⟩
        simp only [Ok_gd, Ok_nam, Ok_ono]
        obtain ⟨g1, g2⟩ := hT.go (d := 1) (x := qI g 45 3 + 1) (by omega)
        have hn := hL.n46
        have eB : ∀ j, j < k → qI (wI g 45 3 (qI g 45 3 + 1)) (lb (wI g 45 3 (qI g 45 3 + 1))) j = f (v + 1 + j) := fun j hj => by
          show qI (wI g 45 3 (qI g 45 3 + 1)) (lb g) j = _
          rw [qI_wo (by omega)]
          exact hB j hj
        have eC : (qI (wI g 45 3 (qI g 45 3 + 1)) 46 3).toInt = k := by rw [qI_wo (by decide)]; exact hc
        generalize wI g 45 3 (qI g 45 3 + 1) = u at *
        refine ⟨hT.1.1.1, 46, g1.1.1.2.2.2, g1.1.2.2.2.2.2.1, Ok.call (c_toString g1.1.2.2.2.2.2 eC) (fun r t ht => ?_)⟩
        obtain ⟨t1, t2, t3, t4, t5, t6⟩ := ht
        have t1 : r = some (qn u) := t1
        have hTt : Tf 46 2 4 g0 t := ((hF.tr g2).tr t3).le (by omega) (by omega)
        have hOt := hO.fr hTt
        have keep := hO.s h0 hTt
        have hF106 := hO.2.1
        have g1t : Tr f n (v + 1 + k + 1) t := g1.e t3 t2 t4
        unfold fX6_takeText_149
        rw [t1]
        simp only [Ok_gd, Ok_nam, Ok_ono, Ok_some]
        have f1 : Tf F 0 0 t (wP t F 5 (some (qn u))) := Tf.wFP (by omega)
        have f2 : TrI f n (wP t F 5 (some (qn u))) := g1t.1.fr f1 (t2.p (by omega)) (Or.inr hF106)
        have s5 : StC f (v + 1) (rn qtb f n (v + 1) - (v + 1)) (qn u) t := by
          rw [← er, Nat.add_sub_cancel_left]
          exact t5.of (fun j hj => by rw [Nat.zero_add]; exact eB j hj)
        refine ⟨F, rfl, hOt.1, Or.inl ⟨⟨hv, hG⟩, by trivial, ((hTt.up (F := F)).tr f1).le (by omega) (by omega), by rw [← er]; exact ⟨f2, g1t.2.1, g1t.2.2⟩, ⟨qn u, ?_, s5.fr f1 g1t.1.1.1 t2 hOt.wr⟩, keep.1, keep.2.1, fun j hj => ?_⟩⟩
        · show qP (wP t F 5 (some (qn u))) F 5 = _
          rw [qP_wP, if_pos rfl, if_pos rfl]
        · show qP (wP t F 5 (some (qn u))) F j = _
          rw [qP_wP, if_pos rfl, if_neg hj, keep.2.2]
      · rw [Ok_gd]
        unfold fX6_takeText_130
        refine ⟨hT.1.1.1, (w_badN hT.1 (hF.up (F := F)) (by decide)).mono (fun q hq => Or.inr ⟨fun r => ?_, hq.1, hq.2.1.le (by omega) (by omega), hq.2.2⟩)⟩
        obtain ⟨-, r1, r2, r3⟩ := r
        by_cases cq : v + 1 + k < n ∧ qtb (f (v + 1 + k))
        · have k12 : k = 12 := hend.resolve_right (fun q => q cq)
          have r4 := (rn_run qtb f n (v + 1)).2.2
          have hge := rn_ge qtb f n (v + 1)
          obtain ⟨j, hj⟩ : ∃ j, rn qtb f n (v + 1) = v + 1 + j := ⟨rn qtb f n (v + 1) - (v + 1), by omega⟩
          rw [hj] at r4 r1
          rcases Nat.lt_or_ge j k with q | q
          · exact r4 (hA (v + 1 + j) (by omega) (by omega))
          · rw [show j = k by omega] at r4
            exact r4 cq
        · have er : v + 1 + k = rn qtb f n (v + 1) := run.eq ⟨by omega, hA, cq⟩
          rw [← er] at r2 r3
          exact c ⟨r2, r3⟩
    rw [fX6_takeText_46_s]
    rw [Ok_pif, t_le, hx, show (12 : Int32).toInt = 12 from rfl]
    refine ⟨fun c => fin (Or.inl (by omega)), fun c => ?_⟩
    simp only [Ok_gd, Ok_ono]
    refine ⟨hT.1.1.1, 33, hT.1.1.2.1, hT.1.2.1.1, Ok.call (w_at hT.1 hpos) (fun r t ht => ?_)⟩
    cases ht
    unfold fX6_takeText_63
    refine Ok.bc w_isQuot (fun hq => ?_) (fun hq => ?_)
    · unfold fX6_takeText_66
      rw [Ok_pif]
      refine ⟨fun q => absurd q (by decide), fun _ => ?_⟩
      simp only [Ok_gd, Ok_ono]
      refine ⟨hT.1.1.1, 33, hT.1.1.2.1, hT.1.2.1.1, Ok.call (w_at hT.1 hpos) (fun r t ht => ?_)⟩
      cases ht
      have ep : pk1 f n (v + 1 + k) = f (v + 1 + k) := if_pos hq.1
      unfold fX6_takeText_84
      simp only [ep, Ok_gd, Ok_ono]
      refine ⟨46, hT.1.1.2.2.2, hL.1, Ok.call (c_letter hL hc (by omega) (by have := hq.2.1; omega) (by have := hq.2.2.1; omega)) (fun r t ht => ?_)⟩
      obtain ⟨t1, t2, t3, t4, t5, t6⟩ := ht
      have hTt : Tr f n (v + 1 + k) t := hT.e t2 t1 t3
      have hL2 : lb t ≠ 45 := t1.n46.1
      unfold fX6_takeText_88
      simp only [Ok_gd, Ok_nam]
      generalize x + 1 = x' at e ⊢
      have e45 : qI t 45 3 = qI g 45 3 := by rw [t3]
      obtain ⟨g1, g2⟩ := hTt.go (d := 1) (x := qI t 45 3 + 1) (by rw [e45]; omega)
      refine ⟨hTt.1.1.1, ih (k + 1) x' _ (by omega) (by omega) (by omega) (by have := hq.1; omega) g1 (((hF.tr t2).tr g2).le (by omega) (by omega)) ?_ (fun j hj => ?_) (fun j j1 j2 => ?_)⟩
      · rw [qI_wo (by decide)]; exact t4
      · show qI (wI t 45 3 (qI t 45 3 + 1)) (lb t) j = _
        rw [qI_wo hL2]
        by_cases cj : j = k
        · rw [cj]; exact t6
        · exact (t5 j (by omega)).trans (hB j (by omega))
      · rcases Nat.lt_or_ge j (v + 1 + k) with q | q
        · exact hA j j1 q
        · rw [show j = v + 1 + k by omega]; exact hq
    · unfold fX6_takeText_66
      rw [Ok_pif]
      exact ⟨fun _ => fin (Or.inr hq), fun q => absurd rfl q⟩
theorem w_takeText {f : Nat → Int32} {n F v : Nat} {g : CS} (hv : v ≤ n) (h : Tr f n v g) (hO : FO g F) : Ok (fX6_takeText 45 (some F) g) (TeP f n F v g) := by
  have hn4 := h.1.n400
  unfold fX6_takeText
  simp only [Ok_gd, Ok_ono]
  refine ⟨h.1.1.1, 33, h.1.1.2.1, h.1.2.1.1, Ok.call (w_at h.1 h.2.1) (fun r t ht => ?_)⟩
  cases ht
  have h34 : pk1 f n v = 34 ↔ v < n ∧ f v = 34 := pk1_P (P := fun x => x = 34) (by decide)
  unfold fX6_takeText_11
  rw [Ok_pif, h34]
  have i3 := inc (x := qI g 45 3) (by have := h.2.1; omega) (by have := h.2.1; omega)
  refine ⟨fun c => ?_, fun c => ?_⟩
  · simp only [Ok_gd, Ok_nam, Ok_ono]
    obtain ⟨g1, g2⟩ := h.go (d := 1) (x := qI g 45 3 + 1) (by have := h.2.1; omega)
    generalize wI g 45 3 (qI g 45 3 + 1) = u at *
    refine ⟨h.1.1.1, 46, g1.1.1.2.2.2, g1.1.2.2.2.2.2.1, Ok.callv (c_setLength g1.1.2.2.2.2.2) (fun t ht => ?_)⟩
    obtain ⟨t1, t2, t3, t4⟩ := ht
    unfold fX6_takeText_44
    exact w_text46 f n F v g h.1 hO c fuel 0 0 t rfl (by omega) (by unfold fuel; omega) (by have := c.1; omega) (g1.e t2 t1 t4) ((g2.tr t2).le (by omega) (by omega)) (by rw [t3]; rfl) (fun j hj => absurd hj (by omega)) (fun j j1 j2 => by omega)
  · rw [Ok_gd]
    unfold fX6_takeText_25
    exact ⟨h.1.1.1, (w_badN h.1 (Tf.rf (F := F)) (by decide)).mono (fun q hq => Or.inr ⟨fun r => c r.1, hq.1, hq.2.1.le (by omega) (by omega), hq.2.2⟩)⟩

theorem m_first {d D : Nat} {r : RS} (ih : IhB r d (D + 1)) {g : CS} {m1 m2 m3 a b c : Nat} {e dp : Int32} (h : IW g r) (ta : tld r a) (tb : tld r b) (tc : tld r c) (k1 : EqM g m1 r a) (k2 : EqM g m2 r b) (k3 : EqM g m3 r c) (had : a ≤ d) (haD : a + D ≤ 8) (hdp : dp.toInt = D) : ∀ (z i : Nat) (x : Int32) (t : CS), x.toInt = i → 1 ≤ i → i ≤ 31 → 31 - i < z → Cf [71] g t → WkC t r → (∀ k, 1 ≤ k → k < i → ¬ wPn r a b c (e = 0) k) → Ok (fX7_firstNumber_3 70 (fX7_breaksN d) z (some m1) (some m2) (some m3) e dp x t) (WyP r g (wFst r a b c (e = 0))) := by
  intro z
  induction z with
  | zero => intro i x t a b c; omega
  | succ z iz =>
    intro i x t hx hi1 hi hz hF hW hA
    have ei := inc (x := x) (by omega) (by omega)
    have xn : x.toNatClampNeg = i := by rw [t_nat]; omega
    have ht := h.f hF hW
    have w := m_why ih (n := x) (e := e) ht ta tb tc (k1.cf (S := [71]) (by simp) hF) (k2.cf (S := [71]) (by simp) hF) (k3.cf (S := [71]) (by simp) hF) had haD hdp
    rw [xn] at w
    rw [fX7_firstNumber_3_s]
    generalize x + 1 = x' at ei ⊢
    rw [Ok_pif, t_lt, hx, show (30 : Int32).toInt = 30 from rfl]
    refine ⟨fun c31 => ?_, fun c31 => ?_⟩
    · rw [Ok_some]
      refine ⟨hF, hW, ?_⟩
      have f0 : wFst r a b c (e = 0) = 0 := fstF_0 30 1 (fun k k1 k2 => hA k k1 (by omega))
      rw [f0]; rfl
    · rw [Ok_gd]
      refine ⟨ht.1.1.2.2.2.2.2.1.1, Ok.call w (fun v u hu => ?_)⟩
      obtain ⟨u1, u2, u3⟩ := hu
      have u3 : v.toInt = _ := u3
      have u1 : Cf [71] t u := u1
      have v0 : v = 0 ↔ ¬ wPn r a b c (e = 0) i := by
        rw [t_eq, u3, show (0 : Int32).toInt = 0 from rfl]
        unfold wPn
        by_cases hn : hasN r a i
        · rw [pif_pos hn]
          exact ⟨fun q w => w.2 (by omega), fun q => by
            have : wWhy r (wBrk r a) a b c i (e = 0) = 0 := Classical.byContradiction (fun w => q ⟨hn, w⟩)
            rw [this]; rfl⟩
        · rw [pif_neg hn]
          exact ⟨fun _ w => hn w.1, fun _ => rfl⟩
      rw [Ok_pif, v0]
      refine ⟨fun hno => ?_, fun hy => ?_⟩
      · rw [Ok_nam]
        exact iz (i + 1) x' u (by omega) (by omega) (by omega) (by omega) (hF.tr u1) u2 (fun k k1 k2 => by
          by_cases ck : k = i
          · rw [ck]; exact hno
          · exact hA k k1 (by omega))
      · rw [Ok_some]
        refine ⟨hF.tr u1, u2, ?_⟩
        have ff : wFst r a b c (e = 0) = i := fstF_n 30 1 i hi1 (by omega) (Classical.byContradiction hy) hA
        rw [ff]; exact hx
theorem wFst_brk {r : RS} {a b c : Nat} {pl : Prop} (h3 : tl3 r a b c) : wFst r a b c pl ≠ 0 ↔ wBrk r (a + 1) a b c pl := by
  rw [← whyE_brk]
  unfold whyE
  rw [pif_pos h3]
  by_cases h0 : wFst r a b c pl = 0
  · rw [pif_pos h0]
    exact ⟨fun q => absurd h0 q, fun q => absurd rfl q⟩
  · rw [pif_neg h0]
    exact ⟨fun _ => (fstF_P 30 1 (by omega) h0).1.2, fun _ => h0⟩
theorem m_breaks {r : RS} : ∀ (d D : Nat), IhB r d D := by
  intro d
  induction d with
  | zero => intro D a b c e dp g _ _ _ _ _ _ _ h; omega
  | succ d ihd =>
    intro D a b c e dp g h a0 a1 b0 b1 c0 c1 had haD hdp
    obtain ⟨⟨hC, hM, hT, hE⟩, hW⟩ := id h
    obtain ⟨r1, r2, r3, r4, r5⟩ := hC.2.2.2.2.2.1
    obtain ⟨A, eA⟩ : ∃ A, A = a.toNatClampNeg := ⟨_, rfl⟩
    obtain ⟨B, eB⟩ : ∃ B, B = b.toNatClampNeg := ⟨_, rfl⟩
    obtain ⟨C, eC⟩ : ∃ C, C = c.toNatClampNeg := ⟨_, rfl⟩
    have hA : a.toInt = A := by rw [eA, t_nat]; omega
    have hB : b.toInt = B := by rw [eB, t_nat]; omega
    have hCc : c.toInt = C := by rw [eC, t_nat]; omega
    rw [← eA] at had haD
    rw [fX7_breaksN_s, ← eA, ← eB, ← eC]
    unfold fX7_breaks
    rw [Ok_gd, r2]
    refine ⟨r1, Ok.same (w_mk h) (fun o1 h1 => ?_)⟩
    rw [r2]
    refine Ok.same (w_mk h) (fun o2 h2 => ?_)
    rw [r2]
    refine Ok.same (w_mk h) (fun o3 h3 => ?_)
    have nob : ¬ (mkN r a ∧ mkN r b ∧ mkN r c) → BrP r g (wBrk r (A + 1) A B C (e = 0)) ((0 : Int32), g) := fun hno => ⟨Cf.rf, hW, Or.inr ⟨rfl, fun q => hno (by
      obtain ⟨⟨t1, t2, t3⟩, -⟩ := q
      exact ⟨⟨a0, a1, by rw [← eA]; exact t1.2⟩, ⟨b0, b1, by rw [← eB]; exact t2.2⟩, ⟨c0, c1, by rw [← eC]; exact t3.2⟩⟩)⟩⟩
    simp only [Ok_pif, Ok_some]
    refine ⟨fun q => nob (fun w => h1.1.mpr w.1 q), fun q1 => ⟨fun q => nob (fun w => h2.1.mpr w.2.1 q), fun q2 => ⟨fun q => nob (fun w => h3.1.mpr w.2.2 q), fun q3 => ?_⟩⟩⟩
    rw [t_lt, t_le, hdp, show (0 : Int32).toInt = 0 from rfl, show (8 : Int32).toInt = 8 from rfl]
    refine ⟨fun q => by omega, fun _ => ⟨fun _ => ?_, fun q => by omega⟩⟩
    obtain ⟨m1, e1⟩ := Option.ne_none_iff_exists'.mp q1
    obtain ⟨m2, e2⟩ := Option.ne_none_iff_exists'.mp q2
    obtain ⟨m3, e3⟩ := Option.ne_none_iff_exists'.mp q3
    subst e1
    subst e2
    subst e3
    have ma := h1.1.mp q1
    have mb := h2.1.mp q2
    have mc := h3.1.mp q3
    have k1 := h1.2 m1 rfl
    have k2 := h2.2 m2 rfl
    have k3 := h3.2 m3 rfl
    rw [← eA] at k1
    rw [← eB] at k2
    rw [← eC] at k3
    have ta : tld r A := ⟨by omega, by rw [eA]; exact ma.2.2⟩
    have tb : tld r B := ⟨by omega, by rw [eB]; exact mb.2.2⟩
    have tc : tld r C := ⟨by omega, by rw [eC]; exact mc.2.2⟩
    have x1 : (a * 8).toInt = a.toInt * 8 := by rw [t_mul (by show -2147483648 ≤ a.toInt * 8; omega) (by show a.toInt * 8 < 2147483648; omega)]; rfl
    have x2 : (a * 8 + b).toInt = a.toInt * 8 + b.toInt := by rw [t_add (by omega) (by omega), x1]
    have x3 : ((a * 8 + b) * 8).toInt = (a.toInt * 8 + b.toInt) * 8 := by rw [t_mul (by rw [x2]; show -2147483648 ≤ (a.toInt * 8 + b.toInt) * 8; omega) (by rw [x2]; show (a.toInt * 8 + b.toInt) * 8 < 2147483648; omega), x2]; rfl
    have x4 : ((a * 8 + b) * 8 + c).toInt = (a.toInt * 8 + b.toInt) * 8 + c.toInt := by rw [t_add (by omega) (by omega), x3]
    have x5 : (((a * 8 + b) * 8 + c) * 2).toInt = ((a.toInt * 8 + b.toInt) * 8 + c.toInt) * 2 := by rw [t_mul (by rw [x4]; show -2147483648 ≤ ((a.toInt * 8 + b.toInt) * 8 + c.toInt) * 2; omega) (by rw [x4]; show ((a.toInt * 8 + b.toInt) * 8 + c.toInt) * 2 < 2147483648; omega), x4]; rfl
    generalize (((a * 8 + b) * 8 + c) * 2) = s1 at x5 ⊢
    -- the slot
    have slot : ∀ (s0 : Int32) (dd : Nat), s0.toInt = dd → dd < 2 → ((dd = 0) = (e = 0)) → Ok (fX7_breaks_82 70 (fX7_breaksN d) e dp (some m1) (some m2) (some m3) s0 s1 g) (BrP r g (wBrk r (A + 1) A B C (e = 0))) := fun s0 dd hs hd hde => by
      have xv : (s1 + s0).toInt = plA A B C dd := by rw [t_add (by omega) (by omega), x5, hs]; unfold plA; omega
      have vn : (s1 + s0).toNatClampNeg = plA A B C dd := by rw [t_nat, xv]; omega
      have v1024 : plA A B C dd < 1024 := by unfold plA; omega
      unfold fX7_breaks_82
      simp only [Ok_nam]
      generalize s1 + s0 = v at xv vn ⊢
      -- the answer from the row
      have g153 : ∀ t, Cf [71] g t → WkC t r → qI t 71 (plA A B C dd) ≠ 0 → Ok (fX7_breaks_153 70 (fX7_breaksN d) v t) (BrP r g (wBrk r (A + 1) A B C (e = 0))) := fun t ht hWt hne => by
        obtain ⟨z1, z2, z3, z4, z5⟩ := (h.f ht hWt).1.1.2.2.2.2.2.1
        unfold fX7_breaks_153
        simp only [Ok_gd, Ok_ono, Ok_pif, Ok_some, vn]
        refine ⟨z1, 71, z3, z4, by rw [t_in, z5]; omega, fun c2 => ⟨ht, hWt, Or.inl ⟨rfl, ?_⟩⟩, fun c2 => ⟨ht, hWt, Or.inr ⟨rfl, ?_⟩⟩⟩
        · rcases hWt A B C dd ta.1 tb.1 tc.1 hd with w | w | w
          · exact absurd w hne
          · rw [← hde]; exact w.2
          · rw [w.1] at c2; exact absurd c2 (by decide)
        · rcases hWt A B C dd ta.1 tb.1 tc.1 hd with w | w | w
          · exact absurd w hne
          · exact absurd w.1 c2
          · rw [← hde]; exact w.2.1
      rw [Ok_pif, t_lt, xv, show (0 : Int32).toInt = 0 from rfl]
      refine ⟨fun q => by omega, fun _ => ?_⟩
      simp only [Ok_gd, Ok_ono]
      refine ⟨r1, 71, r3, r4, ?_⟩
      rw [Ok_pif, t_lt, xv, e_nI (by rw [r5]; decide), r5]
      refine ⟨fun _ => ?_, fun q => by omega⟩
      rw [Ok_gd, vn]
      refine ⟨by rw [t_in, xv]; omega, ?_⟩
      rw [Ok_pif]
      refine ⟨fun c0 => ?_, fun c0 => g153 g Cf.rf hW c0⟩
      unfold fX7_firstNumber
      refine Ok.call (m_first (ihd (D + 1)) h ta tb tc k1 k2 k3 (by omega) (by omega) hdp fuel 1 1 g rfl (by omega) (by omega) (by unfold fuel; omega) Cf.rf hW (fun k k1 k2 => by omega)) (fun f t ht => ?_)
      obtain ⟨t1, t2, t3⟩ := ht
      have t1 : Cf [71] g t := t1
      have t3 : f.toInt = _ := t3
      have hb := wFst_brk (pl := (e = 0)) (show tl3 r A B C from ⟨ta, tb, tc⟩)
      -- what is written
      have put : ∀ w : Int32, (w = 2 ∧ wBrk r (A + 1) A B C (e = 0) ∨ w = 1 ∧ ¬ wBrk r (A + 1) A B C (e = 0)) → Ok (fX7_breaks_152 70 (fX7_breaksN d) v w v (qP t 70 1) t) (BrP r g (wBrk r (A + 1) A B C (e = 0))) := fun w hw => by
        obtain ⟨z1, z2, z3, z4, z5⟩ := (h.f t1 t2).1.1.2.2.2.2.2.1
        unfold fX7_breaks_152
        rw [z3]
        simp only [Ok_gd, Ok_ono, Ok_nam, vn]
        have ent : ∀ k, qI (wI t 71 (plA A B C dd) w) 71 k = if k = plA A B C dd then w else qI t 71 k := fun k => by rw [qI_wI, if_pos rfl]
        refine ⟨71, rfl, z4, by rw [t_in, z5]; omega, g153 _ (t1.wI (by simp)) (fun a' b' c' d' y1 y2 y3 y4 => ?_) ?_⟩
        · rw [ent]
          by_cases q : plA a' b' c' d' = plA A B C dd
          · obtain ⟨i1, i2, i3, i4⟩ := plA_inj y2 y3 y4 tb.1 tc.1 hd q
            rw [if_pos q, i1, i2, i3, i4, hde]
            exact Or.inr (hw.imp id (fun q => ⟨q.1, q.2, ta, tb, tc⟩))
          · rw [if_neg q]
            exact t2 a' b' c' d' y1 y2 y3 y4
        · rw [ent, if_pos rfl]
          rcases hw with q | q
          · rw [q.1]; decide
          · rw [q.1]; decide
      unfold fX7_breaks_134
      have f0 : f = 0 ↔ ¬ wBrk r (A + 1) A B C (e = 0) := by
        rw [← hb, t_eq, t3, show (0 : Int32).toInt = 0 from rfl]
        omega
      have z70 : qk t 70 = 10 := (h.f t1 t2).1.1.2.2.2.2.2.1.1
      by_cases cf : f = 0
      · rw [pif_pos cf, Ok_gd, pif_pos rfl]
        exact ⟨z70, put 1 (Or.inr ⟨rfl, f0.mp cf⟩)⟩
      · rw [pif_neg cf, Ok_gd, pif_neg (by decide)]
        exact ⟨z70, put 2 (Or.inl ⟨rfl, Classical.byContradiction (fun q => cf (f0.mpr q))⟩)⟩
    by_cases ce : e = 0
    · exact ⟨fun _ => slot 0 0 rfl (by omega) (propext ⟨fun _ => ce, fun _ => rfl⟩), fun q => absurd ce q⟩
    · exact ⟨fun q => absurd q ce, fun _ => slot 1 1 rfl (by omega) (propext ⟨fun q => by omega, fun q => absurd q ce⟩)⟩

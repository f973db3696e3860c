theorem blk_l {x : Int32} (h : blk x) : ¬ ltr x := by
  unfold ltr
  rcases h with rfl | rfl
  · show ¬ (97 ≤ (10 : Int) ∧ _); omega
  · show ¬ (97 ≤ (32 : Int) ∧ _); omega
theorem blk_d {x : Int32} (h : blk x) : ¬ dgt x := by
  unfold dgt
  rcases h with rfl | rfl
  · show ¬ (48 ≤ (10 : Int) ∧ _); omega
  · show ¬ (48 ≤ (32 : Int) ∧ _); omega
theorem ltr_d {x : Int32} (h : ltr x) : ¬ dgt x := by unfold ltr at h; unfold dgt; omega
theorem ltr_no {x : Int32} (h : ltr x) : ¬ blk x ∧ x ≠ 61 ∧ x ≠ 59 := by
  unfold ltr at h
  refine ⟨fun q => blk_l q (by unfold ltr; exact h), fun q => ?_, fun q => ?_⟩
  · rw [q] at h; have : (61 : Int32).toInt = 61 := rfl; omega
  · rw [q] at h; have : (59 : Int32).toInt = 59 := rfl; omega
theorem dgt_no {x : Int32} (h : dgt x) : ¬ blk x ∧ x ≠ 61 ∧ x ≠ 59 := by
  unfold dgt at h
  refine ⟨fun q => blk_d q (by unfold dgt; exact h), fun q => ?_, fun q => ?_⟩
  · rw [q] at h; have : (61 : Int32).toInt = 61 := rfl; omega
  · rw [q] at h; have : (59 : Int32).toInt = 59 := rfl; omega
theorem rn_ne {P : Int32 → Prop} {f : Nat → Int32} {n p : Nat} (h : rn P f n p ≠ p) : p < n ∧ P (f p) := Classical.byContradiction (fun q => h (rn_stop q))
/-- what the reading of kinds leaves -/
def KF (F : Nat) (st t : RS) : Prop := Fr [11, 13, 14, 17, 18] [2, 3, 6, 7] st t ∧ (∀ j, j ≠ F → gF t 2 j = gF st 2 j ∧ gF t 3 j = gF st 3 j ∧ gL t 6 j = gL st 6 j) ∧ (∀ j, j < 12 * F ∨ 12 * F + 12 ≤ j → gF t 7 j = gF st 7 j)
theorem KF.tr {F : Nat} {a b c : RS} (h : KF F a b) (k : KF F b c) : KF F a c := ⟨h.1.tr k.1, fun j hj => ⟨(k.2.1 j hj).1.trans (h.2.1 j hj).1, (k.2.1 j hj).2.1.trans (h.2.1 j hj).2.1, (k.2.1 j hj).2.2.trans (h.2.1 j hj).2.2⟩, fun j hj => (k.2.2 j hj).trans (h.2.2 j hj)⟩
theorem KF.of {F : Nat} {I : List Nat} {st t : RS} (h : Fr I [] st t) (hI : (I.all (fun k => [11, 13, 14, 17, 18].contains k)) = true) : KF F st t := ⟨h.d hI (by decide), fun j _ => ⟨by rw [(h.2 2 (by simp)).1], by rw [(h.2 3 (by simp)).1], by rw [(h.2 6 (by simp)).2]⟩, fun j _ => by rw [(h.2 7 (by simp)).1]⟩
theorem KF.s2 {F : Nat} {x : Int32} {st : RS} : KF F st (sF st 2 (upd (gF st 2) F x)) := ⟨Fr.rf.sF (by decide), fun j hj => ⟨upd_ne hj, rfl, rfl⟩, fun _ _ => rfl⟩
theorem KF.s3 {F : Nat} {x : Int32} {st : RS} : KF F st (sF st 3 (upd (gF st 3) F x)) := ⟨Fr.rf.sF (by decide), fun j hj => ⟨rfl, upd_ne hj, rfl⟩, fun _ _ => rfl⟩
theorem KF.s6 {F : Nat} {x : Int64} {st : RS} : KF F st (sL st 6 (vp_updL (gL st 6) F x)) := ⟨Fr.rf.sL (by decide), fun j hj => ⟨rfl, rfl, by show vp_updL (gL st 6) F x j = _; unfold vp_updL; rw [if_neg hj]⟩, fun _ _ => rfl⟩
theorem KF.df {f : Nat → Int32} {n kd p F : Nat} {st t : RS} (h : DfP f n kd p F st t) : KF F st t := ⟨h.1.d (by decide) (by decide), fun j hj => ⟨by rw [(h.1.2 2 (by decide)).1], by rw [(h.1.2 3 (by decide)).1], h.2.1 j hj⟩, h.2.2.1⟩
/-- a default that both sides keep -/
def DfK (f : Nat → Int32) (kd F : Nat) (t : RS) (pv : Int) (ta : Nat) : Prop := (gL t 6 F).toInt = pv ∧ (kd = 5 → 0 ≤ pv ∧ pv ≤ 12 ∧ ∀ j, j < pv.toNat → gF t 7 (12 * F + j) = f (ta + j))
theorem r_161b {fl k : Int32} {st : RS} (h13 : gI st 13 ≠ 0) : Ok (x9_kinds_161 fl k st) (fun t => t = st) := by
  unfold x9_kinds_161
  rw [Ok_pif]
  exact ⟨fun q => absurd q h13, fun _ => r_212b h13⟩
theorem r_157b {f : Nat → Int32} {n p : Nat} {fl k : Int32} {st : RS} (h : Tx f n p st) (h13 : gI st 13 ≠ 0) : Ok (x9_kinds_157 fl k st) (fun t => Fr [13, 14] [] st t ∧ gI t 13 ≠ 0) := by
  unfold x9_kinds_157
  refine Ok.callv (r_ends h) (fun t ht => ?_)
  obtain ⟨t1, t2, t3, t4⟩ := ht
  have h3 : gI t 13 ≠ 0 := by
    by_cases c : p < n ∧ dgt (f p)
    · exact t3 c
    · rw [t4 c]; exact h13
  exact (r_161b h3).mono (fun u hu => by rw [hu]; exact ⟨t1, h3⟩)
theorem r_81b {fl k : Int32} {st : RS} (h13 : gI st 13 ≠ 0) : Ok (x9_kinds_81 fl k st) (fun t => t = st) := by
  unfold x9_kinds_81
  rw [Ok_pif]
  exact ⟨fun q => absurd q h13, fun _ => r_161b h13⟩
/-- group and default -/
def GdP (f : Nat → Int32) (n kd p F : Nat) (st t : RS) : Prop := KF F st t ∧ gF t 3 = gF st 3 ∧ Rs (gdF f n kd p) (fun z => gI t 13 = 0 ∧ (Tx f n z.2 t ∧ (gI t 18).toInt < z.2) ∧ (gF t 2 F).toInt = z.1.1 ∧ DfK f kd F t z.1.2.1 z.1.2.2) (gI t 13 ≠ 0)
theorem r_kinds81 {f : Nat → Int32} {n p F kd : Nat} {fl k : Int32} {st : RS} (hfl : fl.toInt = F) (hF : F < 248) (hk : k = Int32.ofNat kd) (hkd : kd ≤ 6) (h : Tx f n p st) (hp : p ≤ n) (h13 : gI st 13 = 0) (h18 : (gI st 18).toInt = p) (h6 : gL st 6 F = 0) (h2 : gF st 2 F = 0) (h26 : gJ st 26 = 257) : Ok (x9_kinds_81 fl k st) (GdP f n kd p F st) := by
  have fln : fl.toNatClampNeg = F := by rw [t_nat]; omega
  have flin : vp_in fl 248 := by rw [t_in]; omega
  have n4 := h.2.2.2.1
  unfold x9_kinds_81
  rw [Ok_pif]
  refine ⟨fun _ => Ok.call (r_word h hp) (fun w t ht => ?_), fun q => absurd h13 q⟩
  obtain ⟨t1, t2, t3⟩ := ht
  have t1 : Fr [11, 17] [] st t := t1
  have t2 : Tx f n (rn blk f n p) t := t2
  have t3 : w = wdv f n (rn blk f n p) := t3
  have e13 : gI t 13 = 0 := ((t1.1 13 (by decide)).1).trans h13
  have e18 : (gI t 18).toInt = p := by rw [(t1.1 18 (by decide)).1]; exact h18
  have e26 : gJ t 26 = 257 := ((t1.1 26 (by decide)).2).trans h26
  have e6 : gL t 6 = gL st 6 := (t1.2 6 (by decide)).2
  have e2 : gF t 2 = gF st 2 := (t1.2 2 (by decide)).1
  have e3 : gF t 3 = gF st 3 := (t1.2 3 (by decide)).1
  have K1 : KF F st t := KF.of t1 (by decide)
  have hg := rn_le blk f hp
  have hge := rn_ge blk f n p
  rw [Ok_pif, lg_cmp_eq, t3, e26, wd_in]
  refine ⟨fun cin => ?_, fun cin => ?_⟩
  · -- 'in'
    have hlen : rn ltr f n (rn blk f n p) - rn blk f n p = 2 := cin.1
    have hgl : ltr (f (rn blk f n p)) := by have := rn_ltr (f := f) (n := n) (a := rn blk f n p) (j := 0) (by omega); rwa [Nat.add_zero] at this
    have hgn : rn blk f n p < n := by have := rn_le ltr f hg; omega
    refine Ok.callv (r_takes t2 hg) (fun u hu => ?_)
    obtain ⟨u1, u2, u3, u4, u5⟩ := hu
    have K2 : KF F st u := K1.tr (KF.of u1 (by decide))
    have eu3 : gF u 3 = gF st 3 := ((u1.2 3 (by decide)).1).trans e3
    rw [Ok_pif]
    refine ⟨fun c13 => ?_, fun c13 => ?_⟩
    · have hpg : (p : Int) ≠ rn blk f n p := fun q => u4 (by rw [e18]; exact q) c13
      have hpb : p < n ∧ blk (f p) := rn_ne (by omega)
      have hpl : ¬ (p < n ∧ ltr (f p)) := fun q => blk_l hpb.2 q.2
      have hgp : ∀ o, (pif (wEq f (rn blk f n p) (rn ltr f n (rn blk f n p)) [105, 110] ∧ (rn blk f n (rn ltr f n (rn blk f n p)) < n ∧ dgt (f (rn blk f n (rn ltr f n (rn blk f n p)))) ∧ ¬ (rn ltr f n (rn blk f n p) < n ∧ dgt (f (rn ltr f n (rn blk f n p))))) ∧ 49 ≤ (f (rn blk f n (rn ltr f n (rn blk f n p)))).toInt ∧ (f (rn blk f n (rn ltr f n (rn blk f n p)))).toInt ≤ 51) (some (((f (rn blk f n (rn ltr f n (rn blk f n p)))).toInt - 48).toNat, rn blk f n (rn ltr f n (rn blk f n p)) + 1)) none) = o → gpF f n p = o := fun o ho => by
        unfold gpF
        rw [pif_neg hpl, nam_x, pif_pos ⟨hgn, hgl⟩, nam_x, nam_x]
        exact ho
      generalize he : rn ltr f n (rn blk f n p) = e at *
      have hen : e ≤ n := by rw [← he]; exact rn_le ltr f hg
      have heb := rn_ge blk f n e
      refine Ok.call (r_digit u2 hen) (fun d v hv => ?_)
      obtain ⟨v1, v2⟩ := hv
      have v1 : Fr [11, 13, 14, 17, 18] [] u v := v1
      have K3 : KF F st v := K2.tr (KF.of v1 (by decide))
      have ev3 : gF v 3 = gF st 3 := ((v1.2 3 (by decide)).1).trans eu3
      have ev6 : gL v 6 = gL st 6 := by rw [(v1.2 6 (by decide)).2, (u1.2 6 (by decide)).2, e6]
      rw [Ok_gd, Ok_nam, fln]
      refine ⟨flin, ?_⟩
      have hdg : ((rn blk f n e < n ∧ dgt (f (rn blk f n e)) ∧ (gI u 18).toInt ≠ rn blk f n e)) ↔ (rn blk f n e < n ∧ dgt (f (rn blk f n e)) ∧ ¬ (e < n ∧ dgt (f e))) := by
        rw [u3]
        refine ⟨fun q => ⟨q.1, q.2.1, fun w => ?_⟩, fun q => ⟨q.1, q.2.1, fun w => q.2.2 ?_⟩⟩
        · exact blk_d (rn_ne (P := blk) (f := f) (n := n) (p := e) (fun x => q.2.2 (by rw [x]))).2 w.2
        · have : e = rn blk f n e := by omega
          rw [← this] at q
          exact ⟨q.1, q.2.1⟩
      rw [hdg] at v2
      unfold x9_kinds_121
      rcases v2 with ⟨a1, a2, a3, a4, a5⟩ | ⟨a1, a2, a3, a4⟩
      · have a3 : d.toInt = (f (rn blk f n e)).toInt - 48 := a3
        have a4 : Tx f n (rn blk f n e + 1) v := a4
        have a2 : gI v 13 = 0 := a2.trans c13
        have hdr := a1.2.1
        unfold dgt at hdr
        have hv2 : gF (sF v 2 (upd (gF v 2) F d)) 2 F = d := upd_eq rfl
        have hT3 : Tx f n (rn blk f n e + 1) (sF v 2 (upd (gF v 2) F d)) := a4.fr (Fr.rf.sF (I := []) (F := [2]) (by decide)) (by decide) (by decide) (by decide)
        have K4 : KF F st (sF v 2 (upd (gF v 2) F d)) := K3.tr KF.s2
        have a2' : gI (sF v 2 (upd (gF v 2) F d)) 13 = 0 := a2
        have bad : ¬ (49 ≤ (f (rn blk f n e)).toInt ∧ (f (rn blk f n e)).toInt ≤ 51) → Ok (x9_kinds_148 fl k (sF v 2 (upd (gF v 2) F d))) (GdP f n kd p F st) := fun q => by
          unfold x9_kinds_148
          refine Ok.callv (r_fail (by decide)) (fun x hx => ?_)
          refine (r_157b (hT3.fr hx.1 (by decide) (by decide) (by decide)) hx.2).mono (fun y hy => ⟨(K4.tr (KF.of hx.1 (by decide))).tr (KF.of hy.1 (by decide)), ?_, Rs.n ?_ hy.2⟩)
          · rw [(hy.1.2 3 (by decide)).1, (hx.1.2 3 (by decide)).1]; exact ev3
          · unfold gdF
            rw [hgp none (pif_neg (fun w => q w.2.2))]
            rfl
        have good : 49 ≤ (f (rn blk f n e)).toInt ∧ (f (rn blk f n e)).toInt ≤ 51 → Ok (x9_kinds_157 fl k (sF v 2 (upd (gF v 2) F d))) (GdP f n kd p F st) := fun q => by
          have hgs := hgp _ (pif_pos ⟨cin, a1, q⟩)
          unfold x9_kinds_157
          refine Ok.callv (r_ends hT3) (fun x hx => ?_)
          obtain ⟨x1, x2, x3, x4⟩ := hx
          by_cases cd : rn blk f n e + 1 < n ∧ dgt (f (rn blk f n e + 1))
          · have b := x3 cd
            refine (r_161b b).mono (fun y hy => ?_)
            rw [hy]
            refine ⟨K4.tr (KF.of x1 (by decide)), by rw [(x1.2 3 (by decide)).1]; exact ev3, Rs.n ?_ b⟩
            obtain ⟨n1, n2, n3⟩ := dgt_no cd.2
            unfold gdF
            rw [hgs]
            show (dfF f n kd (rn blk f n e + 1)).map _ = none
            rw [dfF_no n1 n2 n3]
            rfl
          · have ex := x4 cd
            subst ex
            refine (r_kinds161 hfl hF hk hkd hT3 (by omega) a2' (by show (gI v 18).toInt ≤ _; rw [a5]; exact Int.le_refl _) (by show gL v 6 F = 0; rw [ev6]; exact h6)).mono (fun y hy => ?_)
            refine ⟨K4.tr (KF.df hy), by rw [(hy.1.2 3 (by decide)).1]; exact ev3, ?_⟩
            unfold gdF
            rw [hgs]
            show Rs ((dfF f n kd (rn blk f n e + 1)).map _) _ _
            cases hd : dfF f n kd (rn blk f n e + 1) with
            | none => exact Rs.n rfl (hy.2.2.2.2 hd)
            | some z =>
              obtain ⟨z1, z2, z3, z4⟩ := hy.2.2.2.1 z hd
              refine Rs.s rfl ⟨z1, z2, ?_, z3, z4⟩
              show (gF y 2 F).toInt = (((f (rn blk f n e)).toInt - 48).toNat : Nat)
              rw [(hy.1.2 2 (by decide)).1, hv2, a3]
              omega
        simp only [Ok_pif, Ok_gd, fln]
        rw [hv2, t_lt, t_le, a3, show (1 : Int32).toInt = 1 from rfl, show (3 : Int32).toInt = 3 from rfl]
        exact ⟨fun _ => ⟨flin, fun q => bad (fun w => by omega), fun q => ⟨flin, fun q2 => good (by omega), fun q2 => bad (fun w => by omega)⟩⟩, fun q => absurd a2' q⟩
      · have a2 : gI (sF v 2 (upd (gF v 2) F d)) 13 ≠ 0 := a2
        rw [Ok_pif]
        refine ⟨fun q => absurd q a2, fun _ => ?_⟩
        refine (r_157b (f := f) (n := n) (p := rn blk f n e) (Tx.fr a4 (Fr.rf.sF (I := []) (F := [2]) (by decide)) (by decide) (by decide) (by decide)) a2).mono (fun y hy => ⟨(K3.tr KF.s2).tr (KF.of hy.1 (by decide)), ?_, Rs.n ?_ hy.2⟩)
        · rw [(hy.1.2 3 (by decide)).1]; exact ev3
        · unfold gdF
          rw [hgp none (pif_neg (fun w => a1 w.2.1))]
          rfl
    · -- the word is right behind
      have hpg : rn blk f n p = p := by
        by_cases q : (gI t 18).toInt = rn blk f n p
        · omega
        · exact absurd ((u5 q).trans e13) c13
      unfold x9_kinds_121
      rw [Ok_pif]
      refine ⟨fun q => absurd q c13, fun _ => ?_⟩
      refine (r_157b u2 c13).mono (fun y hy => ⟨K2.tr (KF.of hy.1 (by decide)), by rw [(hy.1.2 3 (by decide)).1]; exact eu3, Rs.n ?_ hy.2⟩)
      unfold gdF gpF
      rw [pif_pos ⟨by omega, by rw [← hpg]; exact hgl⟩]
      rfl
  · -- no 'in'
    refine (r_kinds161 hfl hF hk hkd t2 hg e13 (by omega) (by rw [e6]; exact h6)).mono (fun y hy => ⟨K1.tr (KF.df hy), by rw [(hy.1.2 3 (by decide)).1]; exact e3, ?_⟩)
    by_cases cl : rn blk f n p < n ∧ ltr (f (rn blk f n p))
    · obtain ⟨n1, n2, n3⟩ := ltr_no cl.2
      refine Rs.n ?_ (hy.2.2.2.2 (dfF_no n1 n2 n3))
      unfold gdF gpF
      by_cases c2 : p < n ∧ ltr (f p)
      · rw [pif_pos c2]; rfl
      · rw [pif_neg c2, nam_x, pif_pos cl, nam_x, nam_x, pif_neg (fun w => cin w.1)]; rfl
    · have c2 : ¬ (p < n ∧ ltr (f p)) := fun q => by
        have : rn blk f n p = p := rn_stop (fun w => blk_l w.2 q.2)
        rw [this] at cl
        exact cl q
      have hgs : gpF f n p = some (0, p) := by unfold gpF; rw [pif_neg c2, nam_x, pif_neg cl]
      unfold gdF
      rw [hgs]
      show Rs ((dfF f n kd p).map _) _ _
      rw [← dfF_blk]
      cases hd : dfF f n kd (rn blk f n p) with
      | none => exact Rs.n rfl (hy.2.2.2.2 hd)
      | some z =>
        obtain ⟨z1, z2, z3, z4⟩ := hy.2.2.2.1 z hd
        refine Rs.s rfl ⟨z1, z2, ?_, z3, z4⟩
        show (gF y 2 F).toInt = ((0 : Nat) : Int)
        rw [(hy.1.2 2 (by decide)).1, e2, h2]
        rfl

def KkP (f : Nat → Int32) (n m : Nat) (T : Nat → Prop) (kd e F : Nat) (st t : RS) : Prop := KF F st t ∧ Rs (kkF f n m T kd e) (fun z => z.1.1 = kd ∧ gI t 13 = 0 ∧ (Tx f n z.2 t ∧ (gI t 18).toInt < z.2) ∧ (gF t 2 F).toInt = z.1.2.1 ∧ (gF t 3 F).toInt = z.1.2.2.1 ∧ (kd = 6 → 0 ≤ z.1.2.2.1 ∧ z.1.2.2.1 < m ∧ T z.1.2.2.1.toNat) ∧ DfK f kd F t z.1.2.2.2.1 z.1.2.2.2.2) (gI t 13 ≠ 0)
theorem r_77b {f : Nat → Int32} {n p : Nat} {fl k : Int32} {st : RS} (h : Tx f n p st) (h13 : gI st 13 ≠ 0) : Ok (x9_kinds_77 fl k st) (fun t => Fr [13, 14] [] st t ∧ gI t 13 ≠ 0) := by
  unfold x9_kinds_77
  refine Ok.callv (r_ends h) (fun t ht => ?_)
  obtain ⟨t1, t2, t3, t4⟩ := ht
  have h3 : gI t 13 ≠ 0 := by
    by_cases c : p < n ∧ dgt (f p)
    · exact t3 c
    · rw [t4 c]; exact h13
  exact (r_81b h3).mono (fun u hu => by rw [hu]; exact ⟨t1, h3⟩)
theorem r_kinds {f : Nat → Int32} {n m e F kd : Nat} {T : Nat → Prop} {pm fl k : Int32} {st : RS} (hm : pm.toInt = m) (hm8 : m < 8) (hTo : ∀ j, j < 8 → (T j ↔ gF st 0 j ≠ 0)) (hfl : fl.toInt = F) (hF : F < 248) (hk : k = Int32.ofNat kd) (hkd : kd ≤ 6) (h : Tx f n e st) (hp : e ≤ n) (h13 : gI st 13 = 0) (h18 : (gI st 18).toInt = e) (h26 : gJ st 26 = 257) : Ok (x9_kinds pm fl k st) (KkP f n m T kd e F st) := by
  have fln : fl.toNatClampNeg = F := by rw [t_nat]; omega
  have flin : vp_in fl 248 := by rw [t_in]; omega
  have kt : k.toInt = kd := by rw [hk]; exact t_nI (by omega)
  have k6 : (k = 6) ↔ kd = 6 := by rw [t_eq, kt, show (6 : Int32).toInt = 6 from rfl]; omega
  unfold x9_kinds
  simp only [Ok_gd, Ok_nam, fln]
  refine ⟨flin, flin, flin, ?_⟩
  obtain ⟨s1, es⟩ : ∃ s1, s1 = sL (sF (sF st 3 (upd (gF st 3) F (-1))) 2 (upd (gF (sF st 3 (upd (gF st 3) F (-1))) 2) F 0)) 6 (vp_updL (gL (sF (sF st 3 (upd (gF st 3) F (-1))) 2 (upd (gF (sF st 3 (upd (gF st 3) F (-1))) 2) F 0)) 6) F 0) := ⟨_, rfl⟩
  have K0 : KF F st s1 := by rw [es]; exact (KF.s3.tr KF.s2).tr KF.s6
  have a3 : gF s1 3 F = -1 := by rw [es]; exact upd_eq rfl
  have a2 : gF s1 2 F = 0 := by rw [es]; exact upd_eq rfl
  have a6 : gL s1 6 F = 0 := by
    rw [es]
    show vp_updL _ F 0 F = 0
    unfold vp_updL
    rw [if_pos rfl]
  have a0 : gF s1 0 = gF st 0 := by rw [es]; rfl
  have aT : Tx f n e s1 := by rw [es]; exact h.fr (((Fr.rf.sF (I := []) (F := [2, 3, 6]) (by decide)).sF (by decide)).sL (by decide)) (by decide) (by decide) (by decide)
  have a13 : gI s1 13 = 0 := by rw [es]; exact h13
  have a18 : (gI s1 18).toInt = e := by rw [es]; exact h18
  have a26 : gJ s1 26 = 257 := by rw [es]; exact h26
  rw [← es]
  clear es
  rw [Ok_pif, k6]
  refine ⟨fun c6 => Ok.call (r_digit aT hp) (fun d v hv => ?_), fun c6 => ?_⟩
  · obtain ⟨v1, v2⟩ := hv
    have v1 : Fr [11, 13, 14, 17, 18] [] s1 v := v1
    have K1 : KF F st v := K0.tr (KF.of v1 (by decide))
    have heb := rn_ge blk f n e
    have hdg : ((rn blk f n e < n ∧ dgt (f (rn blk f n e)) ∧ (gI s1 18).toInt ≠ rn blk f n e)) ↔ (rn blk f n e < n ∧ dgt (f (rn blk f n e)) ∧ ¬ (e < n ∧ dgt (f e))) := by
      rw [a18]
      refine ⟨fun q => ⟨q.1, q.2.1, fun w => ?_⟩, fun q => ⟨q.1, q.2.1, fun w => q.2.2 ?_⟩⟩
      · exact blk_d (rn_ne (P := blk) (f := f) (n := n) (p := e) (fun x => q.2.2 (by rw [x]))).2 w.2
      · have : e = rn blk f n e := by omega
        rw [← this] at q
        exact ⟨q.1, q.2.1⟩
    rw [hdg] at v2
    have K2 : KF F st (sF v 3 (upd (gF v 3) F d)) := K1.tr KF.s3
    have b3 : gF (sF v 3 (upd (gF v 3) F d)) 3 F = d := upd_eq rfl
    have b0 : gF (sF v 3 (upd (gF v 3) F d)) 0 = gF st 0 := ((v1.2 0 (by decide)).1).trans a0
    have hkk : ∀ o, rcF f n m T e = o → kkF f n m T kd e = o.bind (fun y => (gdF f n kd y.2).map (fun z => ((kd, z.1.1, y.1, z.1.2.1, z.1.2.2), z.2))) := fun o ho => by unfold kkF; rw [pif_pos c6, ho]
    simp only [Ok_gd, Ok_nam, Ok_pif, fln, b3, b0]
    refine ⟨flin, ?_⟩
    rcases v2 with ⟨q1, q2, q3, q4, q5⟩ | ⟨q1, q2, q3, q4⟩
    · have q2 : gI (sF v 3 (upd (gF v 3) F d)) 13 = 0 := q2.trans a13
      have q3 : d.toInt = (f (rn blk f n e)).toInt - 48 := q3
      have hTd : Tx f n (rn blk f n e + 1) (sF v 3 (upd (gF v 3) F d)) := Tx.fr q4 (Fr.rf.sF (I := []) (F := [3]) (by decide)) (by decide) (by decide) (by decide)
      have hdr := q1.2.1
      unfold dgt at hdr
      have dn : d.toNatClampNeg = ((f (rn blk f n e)).toInt - 48).toNat := by rw [t_nat, q3]
      have bad : ¬ ((f (rn blk f n e)).toInt - 48 < m ∧ T ((f (rn blk f n e)).toInt - 48).toNat) → Ok (x9_kinds_68 fl k (sF v 3 (upd (gF v 3) F d))) (KkP f n m T kd e F st) := fun q => by
        unfold x9_kinds_68
        refine Ok.callv (r_fail (by decide)) (fun x hx => ?_)
        refine (r_77b (hTd.fr hx.1 (by decide) (by decide) (by decide)) hx.2).mono (fun y hy => ⟨(K2.tr (KF.of hx.1 (by decide))).tr (KF.of hy.1 (by decide)), Rs.n ?_ hy.2⟩)
        rw [hkk none (by unfold rcF; rw [nam_x, pif_neg (fun w => q w.2.1)])]
        rfl
      have good : ((f (rn blk f n e)).toInt - 48 < m ∧ T ((f (rn blk f n e)).toInt - 48).toNat) → Ok (x9_kinds_77 fl k (sF v 3 (upd (gF v 3) F d))) (KkP f n m T kd e F st) := fun q => by
        unfold x9_kinds_77
        refine Ok.callv (r_ends hTd) (fun x hx => ?_)
        obtain ⟨x1, x2, x3, x4⟩ := hx
        by_cases cd : rn blk f n e + 1 < n ∧ dgt (f (rn blk f n e + 1))
        · have b := x3 cd
          refine (r_81b b).mono (fun y hy => ?_)
          rw [hy]
          refine ⟨K2.tr (KF.of x1 (by decide)), Rs.n ?_ b⟩
          rw [hkk none (by unfold rcF; rw [nam_x, pif_neg (fun w => w.2.2 cd)])]
          rfl
        · have ex := x4 cd
          subst ex
          have hkk2 := hkk (some ((f (rn blk f n e)).toInt - 48, rn blk f n e + 1)) (by unfold rcF; rw [nam_x, pif_pos ⟨q1, q, cd⟩])
          refine (r_kinds81 hfl hF hk hkd hTd (by omega) q2 q5 (by show gL v 6 F = 0; rw [(v1.2 6 (by decide)).2]; exact a6) (by show gF v 2 F = 0; rw [(v1.2 2 (by decide)).1]; exact a2) (by show gJ v 26 = 257; rw [(v1.1 26 (by decide)).2]; exact a26)).mono (fun y hy => ?_)
          obtain ⟨y1, y2, y3⟩ := hy
          refine ⟨K2.tr y1, ?_⟩
          rw [hkk2]
          show Rs ((gdF f n kd (rn blk f n e + 1)).map _) _ _
          cases hd : gdF f n kd (rn blk f n e + 1) with
          | none => exact Rs.n rfl (y3.2 hd)
          | some z =>
            obtain ⟨z1, z2, z3, z4⟩ := y3.1 z hd
            refine Rs.s rfl ⟨rfl, z1, z2, z3, ?_, fun _ => ⟨?_, q.1, q.2⟩, z4⟩
            · show (gF y 3 F).toInt = (f (rn blk f n e)).toInt - 48
              rw [y2, b3, q3]
            · show 0 ≤ (f (rn blk f n e)).toInt - 48
              omega
      refine ⟨fun _ => ⟨flin, ?_⟩, fun w => absurd q2 w⟩
      rw [t_le, hm, q3, dn]
      refine ⟨fun w => bad (fun x => by omega), fun w => ⟨flin, by rw [t_in, q3]; omega, fun w2 => bad (fun x => (hTo _ (by omega)).mp x.2 w2), fun w2 => good ⟨by omega, (hTo _ (by omega)).mpr w2⟩⟩⟩
    · have q2 : gI (sF v 3 (upd (gF v 3) F d)) 13 ≠ 0 := q2
      refine ⟨fun w => absurd w q2, fun _ => ?_⟩
      refine (r_77b (f := f) (n := n) (p := rn blk f n e) (Tx.fr q4 (Fr.rf.sF (I := []) (F := [3]) (by decide)) (by decide) (by decide) (by decide)) q2).mono (fun y hy => ⟨K2.tr (KF.of hy.1 (by decide)), Rs.n ?_ hy.2⟩)
      rw [hkk none (by unfold rcF; rw [nam_x, pif_neg (fun w => q1 w.1)])]
      rfl
  · refine (r_kinds81 hfl hF hk hkd aT hp a13 a18 a6 a2 a26).mono (fun y hy => ?_)
    obtain ⟨y1, y2, y3⟩ := hy
    refine ⟨K0.tr y1, ?_⟩
    have hkk : kkF f n m T kd e = (gdF f n kd e).map (fun z => ((kd, z.1.1, -1, z.1.2.1, z.1.2.2), z.2)) := by unfold kkF; rw [pif_neg c6]
    rw [hkk]
    cases hd : gdF f n kd e with
    | none => exact Rs.n rfl (y3.2 hd)
    | some z =>
      obtain ⟨z1, z2, z3, z4⟩ := y3.1 z hd
      refine Rs.s rfl ⟨rfl, z1, z2, z3, ?_, fun w => absurd w c6, z4⟩
      show (gF y 3 F).toInt = -1
      rw [y2, a3]
      rfl

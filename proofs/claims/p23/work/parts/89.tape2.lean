theorem sh20 : ∀ K : Nat, K < 20 → (8 * (3 - (Int32.ofNat K - Int32.ofNat K / 4 * 4)) &&& 31) = (if K % 4 = 0 then 24 else if K % 4 = 1 then 16 else if K % 4 = 2 then 8 else 0 : Int32) := by decide
theorem shr0 (w : Int32) : w >>> 0 = w := by
  apply Int32.toBitVec_inj.mp
  show w.toBitVec.sshiftRight 0 = w.toBitVec
  exact BitVec.sshiftRight_zero
theorem sh_wby {w l : Int32} {K : Nat} (hl : l = Int32.ofNat K) (hK : K < 20) : (w >>> (8 * (3 - (l - l / 4 * 4)) &&& 31)) &&& 255 = wby w (K % 4) := by
  subst hl
  rw [sh20 K hK]
  unfold wby
  rcases (show K % 4 = 0 ∨ K % 4 = 1 ∨ K % 4 = 2 ∨ K % 4 = 3 by omega) with q | q | q | q
  · rw [q]; rfl
  · rw [q]; rfl
  · rw [q]; rfl
  · rw [q]
    show (w >>> 0) &&& 255 = w &&& 255
    rw [shr0]
/-- what feed does with the tape of the reference -/
def FdR (st : RS) (a b c d e : Int32) (q : Int32 × RS) : Prop := ((gI st 10).toInt + 20 ≤ 400 → q.1.toInt = (gI st 10).toInt + 20 ∧ Fr [10] [9] st q.2 ∧ gI q.2 10 = q.1 ∧ (∀ k, k < 20 → gF q.2 9 ((gI st 10).toNatClampNeg + k) = fby a b c d e k) ∧ ∀ j, j < (gI st 10).toNatClampNeg → gF q.2 9 j = gF st 9 j) ∧ (¬ (gI st 10).toInt + 20 ≤ 400 → q = (-1, st))
theorem r_feed18f (st0 : RS) (a b c d e : Int32) (h0 : 0 ≤ (gI st0 10).toInt) (h1 : (gI st0 10).toInt + 20 ≤ 400) : ∀ (z K : Nat) (l : Int32) (st : RS), l.toInt = K → K ≤ 20 → 20 - K < z → Fr [10] [9] st0 st → (gI st 10).toInt = (gI st0 10).toInt + K → (∀ k, k < K → gF st 9 ((gI st0 10).toNatClampNeg + k) = fby a b c d e k) → (∀ j, j < (gI st0 10).toNatClampNeg → gF st 9 j = gF st0 9 j) → Ok (x9_feed_18 z a b c d e l st) (fun q => q.1.toInt = (gI st0 10).toInt + 20 ∧ Fr [10] [9] st0 q.2 ∧ gI q.2 10 = q.1 ∧ (∀ k, k < 20 → gF q.2 9 ((gI st0 10).toNatClampNeg + k) = fby a b c d e k) ∧ ∀ j, j < (gI st0 10).toNatClampNeg → gF q.2 9 j = gF st0 9 j) := by
  intro z
  induction z with
  | zero => intro K l st a b c; omega
  | succ z ih =>
    intro K l st hl hK hz hF hT hB hO
    have ei := inc (x := l) (by omega) (by omega)
    have et := inc (x := gI st 10) (by omega) (by omega)
    have en : (gI st 10).toNatClampNeg = (gI st0 10).toNatClampNeg + K := by rw [t_nat, t_nat]; omega
    have hlK : l = Int32.ofNat K := by rw [t_eq, t_nI (by omega)]; exact hl
    have nx : K < 20 → ∀ w : Int32, w = (if K < 4 then a else if K < 8 then b else if K < 12 then c else if K < 16 then d else e) → Ok (x9_feed_71 (x9_feed_18 z) a b c d e l w st) (fun q => q.1.toInt = (gI st0 10).toInt + 20 ∧ Fr [10] [9] st0 q.2 ∧ gI q.2 10 = q.1 ∧ (∀ k, k < 20 → gF q.2 9 ((gI st0 10).toNatClampNeg + k) = fby a b c d e k) ∧ ∀ j, j < (gI st0 10).toNatClampNeg → gF q.2 9 j = gF st0 9 j) := by
      intro hK20 w hw
      unfold x9_feed_71
      simp only [Ok_gd, Ok_nam, t_in]
      refine ⟨by omega, ih (K + 1) (l + 1) _ (by rw [ei, hl]; rfl) (by omega) (by omega) ((hF.sF (by decide)).sI (by decide)) ?_ (fun k hk => ?_) (fun j hj => ?_)⟩
      · show (gI st 10 + 1).toInt = _
        rw [et]; omega
      · show upd (gF st 9) (gI st 10).toNatClampNeg _ ((gI st0 10).toNatClampNeg + k) = _
        by_cases q : k = K
        · subst q
          rw [upd_eq (by omega), sh_wby hlK hK20, hw]
          rfl
        · rw [upd_ne (by omega)]
          exact hB k (by omega)
      · show upd (gF st 9) (gI st 10).toNatClampNeg _ j = _
        rw [upd_ne (by omega)]
        exact hO j hj
    rw [x9_feed_18_s]
    simp only [Ok_pif, Ok_some]
    simp only [t_le, Int32.reduceToInt, hl]
    refine ⟨fun q => ?_, fun q => ⟨fun q4 => ⟨fun q8 => ⟨fun q12 => ⟨fun q16 => nx (by omega) _ ?_, fun q16 => nx (by omega) _ ?_⟩, fun q12 => nx (by omega) _ ?_⟩, fun q8 => nx (by omega) _ ?_⟩, fun q4 => nx (by omega) _ ?_⟩⟩
    · have : K = 20 := by omega
      subst this
      exact ⟨hT, hF, trivial, hB, hO⟩
    · rw [if_neg (by omega), if_neg (by omega), if_neg (by omega), if_neg (by omega)]
    · rw [if_neg (by omega), if_neg (by omega), if_neg (by omega), if_pos (by omega)]
    · rw [if_neg (by omega), if_neg (by omega), if_pos (by omega)]
    · rw [if_neg (by omega), if_pos (by omega)]
    · rw [if_pos (by omega)]
theorem r_feed {a b c d e : Int32} {st : RS} (h0 : 0 ≤ (gI st 10).toInt) (h1 : (gI st 10).toInt ≤ 400) : Ok (x9_feed a b c d e st) (FdR st a b c d e) := by
  unfold x9_feed
  have e20 : (gI st 10 + 20).toInt = (gI st 10).toInt + 20 := by rw [t_add (by show -2147483648 ≤ (gI st 10).toInt + 20; omega) (by show (gI st 10).toInt + 20 < 2147483648; omega)]; rfl
  simp only [Ok_pif, Ok_some]
  rw [t_le, e20, show (400 : Int32).toInt = 400 from rfl]
  refine ⟨fun q => (r_feed18f st a b c d e h0 q fuel 0 0 st rfl (by omega) (by unfold fuel; omega) Fr.rf (by omega) (fun k hk => absurd hk (by omega)) (fun j _ => rfl)).mono (fun x hx => ⟨fun _ => hx, fun n => absurd q n⟩), fun q => ⟨fun n => absurd n q, fun _ => rfl⟩⟩
theorem and255 (x : Int32) : 0 ≤ (x &&& 255).toInt ∧ (x &&& 255).toInt ≤ 255 := by
  have h : (x &&& 255).toBitVec.toNat ≤ 255 := by
    show (x.toBitVec &&& (255 : Int32).toBitVec).toNat ≤ 255
    rw [BitVec.toNat_and]
    exact Nat.and_le_right
  have e : (x &&& 255).toInt = (x &&& 255).toBitVec.toInt := rfl
  rw [e, BitVec.toInt_eq_toNat_of_lt (by omega)]
  omega
theorem fby_b (a b c d e : Int32) (k : Nat) : 0 ≤ (fby a b c d e k).toInt ∧ (fby a b c d e k).toInt ≤ 255 := by
  unfold fby
  generalize (if k < 4 then a else if k < 8 then b else if k < 12 then c else if k < 16 then d else e) = w
  unfold wby
  by_cases c0 : k % 4 = 0
  · rw [if_pos c0]; exact and255 _
  · rw [if_neg c0]
    by_cases c1 : k % 4 = 1
    · rw [if_pos c1]; exact and255 _
    · rw [if_neg c1]
      by_cases c2 : k % 4 = 2
      · rw [if_pos c2]; exact and255 _
      · rw [if_neg c2]; exact and255 _
/-- the tapes are alike -/
def TpE (g : CS) (r : RS) : Prop := qI g 33 1 = gI r 10 ∧ ∀ j : Nat, (j : Int) < (gI r 10).toInt → qI g 34 j = gF r 9 j ∧ 0 ≤ (gF r 9 j).toInt ∧ (gF r 9 j).toInt ≤ 255
/-- the same makes were told -/
def ToE (g : CS) (r : RS) : Prop := ∀ j, j < 8 → (qP g 44 j = none ↔ gF r 0 j = 0)
/-- the reference's words -/
def WdI (r : RS) : Prop := ∀ k, 19 ≤ k → k ≤ 26 → gJ r k = gJ rst0 k
theorem wd_kp {k : Nat} (h1 : 19 ≤ k) (h2 : k ≤ 26) : k ∉ kpI := fun h => by
  simp [kpI] at h
  omega
/-- what stands between two calls -/
def IN (g : CS) (r : RS) : Prop := CI g ∧ RI r ∧ TpE g r ∧ ToE g r ∧ WdI r
/-- class: calls on records and walks -/
theorem IN.c {g t : CS} {r : RS} (h : IN g r) (hS : Sf g t) : IN t r := by
  obtain ⟨h1, h2, h3, h4, h5⟩ := h
  refine ⟨hS.1, h2, ⟨?_, fun j hj => ?_⟩, fun j hj => ?_, h5⟩
  · rw [hS.2.i (show 33 ∉ cfL by decide)]; exact h3.1
  · rw [hS.2.i (show 34 ∉ cfL by decide)]; exact h3.2 j hj
  · rw [hS.2.p]; exact h4 j hj
/-- reference: the same -/
theorem IN.r {g : CS} {r t : RS} (h : IN g r) (hK : Kp r t) : IN g t := by
  obtain ⟨h1, h2, h3, h4, h5⟩ := h
  refine ⟨h1, hK.ri h2, ⟨?_, fun j hj => ?_⟩, fun j hj => ?_, fun k k1 k2 => ((hK.1.1 k (wd_kp k1 k2)).2).trans (h5 k k1 k2)⟩
  · rw [(hK.1.1 10 (by decide)).1]; exact h3.1
  · rw [(hK.1.1 10 (by decide)).1] at hj
    rw [(hK.1.2 9 (by decide)).1]; exact h3.2 j hj
  · rw [(hK.1.2 0 (by decide)).1]; exact h4 j hj
/-- the tape goes on both sides -/
theorem IN.t {g : CS} {r : RS} {n : Int32} (h : IN g r) (h0 : 0 ≤ n.toInt) (h1 : n.toInt ≤ (gI r 10).toInt) : IN (wI g 33 1 n) (sI r 10 n) := by
  obtain ⟨a1, a2, a3, a4, a5⟩ := h
  have hl := a1.tape.2.2.2.2
  have e := a3.1
  refine ⟨a1.tp (Cf.rf.wI (by simp)) (a1.tape.wS h0 (by rw [e] at hl; omega)), ⟨a2.1.fr rfl rfl rfl rfl rfl, a2.2.1.fr rfl, h0, ?_⟩, ⟨?_, fun j hj => ?_⟩, a4, a5⟩
  · show n.toInt ≤ 400
    have := a2.2.2.2
    omega
  · show qI (wI g 33 1 n) 33 1 = n
    rw [qI_wI, if_pos rfl, if_pos rfl]
  · have hj : (j : Int) < n.toInt := hj
    show qI (wI g 33 1 n) 34 j = gF r 9 j ∧ 0 ≤ (gF r 9 j).toInt ∧ (gF r 9 j).toInt ≤ 255
    rw [qI_wI, if_neg (by decide)]
    exact a3.2 j (by omega)
theorem b_feed {a b c d e : Int32} {g : CS} {r : RS} (h : IN g r) : Ok (fX8_feed 32 a b c d e g) (fun q => ∃ x t, x9_feed a b c d e r = some (x, t) ∧ q.1 = x ∧ IN q.2 t ∧ qn q.2 = qn g ∧ qs q.2 = qs g) := by
  obtain ⟨h1, h2, h3, h4, h5⟩ := id h
  obtain ⟨⟨x, t⟩, hx, hR⟩ := r_feed (a := a) (b := b) (c := c) (d := d) (e := e) h2.2.2.1 h2.2.2.2
  refine (c_feed h1).mono (fun q hq => ⟨x, t, hx, ?_⟩)
  obtain ⟨y, u⟩ := q
  have e10 := h3.1
  obtain ⟨q1, q2⟩ := hq
  obtain ⟨p1, p2⟩ := hR
  rw [e10] at q1 q2
  by_cases c20 : (gI r 10).toInt + 20 ≤ 400
  · obtain ⟨a1, a2, a3, a4, a5, a6⟩ := q1 c20
    obtain ⟨b1, b2, b3, b4, b5⟩ := p1 c20
    have exy : y = x := by rw [t_eq]; exact a1.trans b1.symm
    have a4 : qI u 33 1 = y := a4
    have b3 : gI t 10 = x := b3
    have b1 : x.toInt = (gI r 10).toInt + 20 := b1
    have h0 := h2.2.2.1
    refine ⟨exy, ⟨a2, ⟨h2.1.fr (b2.2 0 (by decide)).1 (b2.2 1 (by decide)).1 (b2.2 3 (by decide)).1 (b2.2 8 (by decide)).1 (b2.2 6 (by decide)).2, h2.2.1.fr (b2.2 29 (by decide)).1, by rw [b3]; omega, by rw [b3]; omega⟩, ⟨by rw [a4, b3]; exact exy, fun j hj => ?_⟩, fun j hj => ?_, fun k k1 k2 => ((b2.1 k (by simp; omega)).2).trans (h5 k k1 k2)⟩, a3.1, a3.2.1⟩
    · rw [b3] at hj
      have n10 : ((gI r 10).toNatClampNeg : Int) = (gI r 10).toInt := by rw [t_nat]; omega
      rcases Nat.lt_or_ge j (gI r 10).toNatClampNeg with q | q
      · have e1 := a6 j q
        have e2 := b5 j q
        have e1 : qI u 34 j = qI g 34 j := e1
        have e2 : gF t 9 j = gF r 9 j := e2
        rw [e1, e2]
        exact h3.2 j (by omega)
      · have e1 := a5 (j - (gI r 10).toNatClampNeg) (by omega)
        have e2 := b4 (j - (gI r 10).toNatClampNeg) (by omega)
        rw [show (gI r 10).toNatClampNeg + (j - (gI r 10).toNatClampNeg) = j by omega] at e1 e2
        have e1 : qI u 34 j = _ := e1
        have e2 : gF t 9 j = _ := e2
        rw [e1, e2]
        exact ⟨rfl, fby_b a b c d e _⟩
    · show qP u 44 j = none ↔ gF t 0 j = 0
      rw [(show Cf [33, 34] g u from a3).p, (b2.2 0 (by decide)).1]
      exact h4 j hj
  · have e1 := q2 c20
    have e2 := p2 c20
    cases e1
    cases e2
    exact ⟨rfl, h, rfl, rfl⟩
theorem b_end {n : Int32} {g : CS} {r : RS} (h : IN g r) : Ok (fX8_end 32 n g) (fun q => ∃ x t, x9_end n r = some (x, t) ∧ q.1 = x ∧ IN q.2 t ∧ qn q.2 = qn g ∧ qs q.2 = qs g) := by
  obtain ⟨h1, h2, h3, h4, h5⟩ := id h
  have hr : Ok (x9_end n r) (fun q => pif (0 ≤ n.toInt ∧ n.toInt ≤ (gI r 10).toInt) (q = (1, sI r 10 n)) (q = (0, r))) := by
    unfold x9_end
    simp only [Ok_pif, Ok_some, Ok_nam]
    rw [t_lt, t_le, show (0 : Int32).toInt = 0 from rfl]
    exact ⟨fun c => by rw [pif_neg (by omega)]; trivial, fun c => ⟨fun d => by rw [pif_pos (by omega)]; trivial, fun d => by rw [pif_neg (by omega)]; trivial⟩⟩
  obtain ⟨⟨x, t⟩, hx, hR⟩ := hr
  unfold fX8_end
  rw [Ok_gd, h1.1.2.1, Ok_ono]
  refine ⟨h1.1.1, 33, rfl, ?_⟩
  rw [Ok_gd]
  refine ⟨h1.tape.1, Ok.call (c_cut h1.tape) (fun q u hu => ?_)⟩
  rw [h3.1] at hu
  simp only [Ok_gd, Ok_some]
  by_cases c : 0 ≤ n.toInt ∧ n.toInt ≤ (gI r 10).toInt
  · rw [pif_pos c] at hu hR
    cases hu
    cases hR
    exact ⟨by decide, 1, _, hx, rfl, h.t c.1 c.2, rfl, rfl⟩
  · rw [pif_neg c] at hu hR
    cases hu
    cases hR
    exact ⟨by decide, 0, _, hx, rfl, h, rfl, rfl⟩

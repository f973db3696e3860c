/-- writing at depth D leaves the pieces ahead of it as they were -/
def WcP (g : CS) (D : Nat) (t : CS) : Prop := Sf g t ∧ ∀ j, j < D → j < 8 → qI t (60 + j) = qI g (60 + j)
theorem WcP.tr {a b c : CS} {D : Nat} (h1 : WcP a D b) (h2 : WcP b D c) : WcP a D c := ⟨h1.1.tr h2.1, fun j a1 a2 => (h2.2 j a1 a2).trans (h1.2 j a1 a2)⟩
theorem WcP.row {g t : CS} {r cap D : Nat} (h : CI g) (hr : isRw r cap) (hF : Cf [r, r + 1] g t) (hi : RowI t r cap) : WcP g D t := ⟨Sf.row h hr hF hi, fun j h1 h2 => hF.i (by rcases hr with ⟨q | q | q | q, -⟩ | ⟨q | q, -⟩ <;> simp <;> omega)⟩
theorem CI.rw {g : CS} {r cap : Nat} (h : CI g) (hr : isRw r cap) : RowI g r cap := h.2.2.2.2.2.2.2.2.2.get hr
theorem isRw.ne {r cap o ocap : Nat} (h : isRw r cap) (h' : isRw o ocap) : o ≠ r ∧ o ≠ r + 1 ∨ o = r := by
  rcases h with ⟨q | q | q | q, -⟩ | ⟨q | q, -⟩ <;> rcases h' with ⟨q' | q' | q' | q', -⟩ | ⟨q' | q', -⟩ <;> omega
set_option maxHeartbeats 2000000 in
theorem c_copyPiece (d : Nat) (ihd : ∀ (row cap out ocap D : Nat) (fr to dp : Int32) (mk : Option Nat) (g : CS), isRw row cap → isRw out ocap → CI g → dp.toInt = D → D ≤ 8 → 8 < D + d → 0 ≤ fr.toInt → fr.toInt ≤ to.toInt → to.toInt ≤ 1000 → (∀ x, mk = some x → MkO g x) → Ok (fX4_copyAllN d 58 (some row) fr to mk (some out) dp g) (WcP g D)) (row cap out ocap D : Nat) (st dp : Int32) (f : Option Nat) (g : CS) (hrw : isRw row cap) (how : isRw out ocap) (h : CI g) (hdp : dp.toInt = D) (hD : D < 8) (hd : 8 < D + 1 + d) (hst0 : 0 ≤ st.toInt) (hst : st.toInt ≤ 1000) (hp : PcO g (60 + D)) (hf : ∀ x, f = some x → FdO g x) : Ok (fX4_copyPiece (fX4_copyAllN d) 58 (some row) st f (some out) dp g) (WcP g (D + 1)) := by
  obtain ⟨r1, r2, r3, r4, r5, r6, r7⟩ := h.2.2.2.2.1
  have dn : dp.toNatClampNeg = D := by rw [t_nat]; omega
  have hno := isRw.ne how hrw
  unfold fX4_copyPiece
  simp only [Ok_pif, Ok_some]
  refine ⟨fun c => ?_, fun c => ?_⟩
  · rw [t_lt, show (0 : Int32).toInt = 0 from rfl] at c
    omega
  rw [Ok_gd, Ok_ono]
  refine ⟨r1, 59, r3, ?_⟩
  simp only [Ok_gd, Ok_pif, Ok_some, Ok_nam]
  refine ⟨r5, fun _ => ?_, fun c8 => ?_⟩
  case refine_2 =>
    rw [t_lt, e_nI (by rw [r6]; decide), r6] at c8
    have c8 : ¬ dp.toInt < 8 := c8
    omega
  rw [t_in, r6, dn, (r7 D hD).1]
  refine ⟨by omega, fun _ => ?_, fun c => ?_⟩
  · rw [Ok_ono]
    refine ⟨60 + D, rfl, ?_⟩
    rw [Ok_gd, Ok_ono]
    refine ⟨hp.1, out, rfl, ?_⟩
    rw [Ok_gd]
    exact ⟨(h.rw how).1, Ok.callv (c_append (h.rw how) (h.rw hrw) hno hst0 hst (hp.2.2.2)) (fun t ht => by rw [Ok_some]; exact WcP.row h how ht.1 ht.2)⟩
  · obtain ⟨fx, hfx⟩ := Option.ne_none_iff_exists'.mp c
    subst hfx
    have hfd := hf fx rfl
    rw [Ok_ono]
    refine ⟨out, rfl, ?_⟩
    rw [Ok_gd]
    refine ⟨(h.rw how).1, Ok.callv (c_pushKey (h.rw how) hfd.1) (fun t ht => ?_)⟩
    have w1 : WcP g (D + 1) t := WcP.row h how ht.1 ht.2
    have h1 := w1.1.1
    have hft := hfd.fr w1.1.2
    have ep : qI t (60 + D) = qI g (60 + D) := w1.2 D (by omega) hD
    have hpt : PcO t (60 + D) := ⟨h1.pc (Or.inr ⟨by omega, by omega⟩), by rw [ep]; exact hp.2.1, by rw [ep]; exact hp.2.2.1, by rw [ep]; exact hp.2.2.2⟩
    rw [Ok_ono]
    refine ⟨fx, rfl, ?_⟩
    rw [Ok_gd]
    refine ⟨hft.1, Ok.d01 (c_isNumber hft.1) ?_ ?_⟩
    · simp only [Ok_pif]
      refine ⟨fun _ => ⟨fun _ => ?_, fun _ => ?_⟩, fun h => by simp at h⟩
      · rw [Ok_ono]
        refine ⟨60 + D, rfl, ?_⟩
        rw [Ok_gd]
        refine ⟨hpt.1, Ok.callv (c_pushVarint (h1.rw how)) (fun u hu => ?_)⟩
        have w2 := w1.tr (WcP.row h1 how hu.1 hu.2)
        have eu : qI u (60 + D) = qI g (60 + D) := w2.2 D (by omega) hD
        refine Ok.callv (c_append (w2.1.1.rw how) (w2.1.1.rw hrw) hno (by rw [eu]; exact hp.2.1) (by rw [eu]; have := hp.2.2; omega) (by rw [eu]; exact hp.2.2.2)) (fun v hv => ?_)
        rw [Ok_some]
        exact w2.tr (WcP.row w2.1.1 how hv.1 hv.2)
      · refine Ok.call (c_size (h1.rw how)) (fun q t' ht' => ?_)
        have e2' : t' = t := congrArg Prod.snd ht'
        subst e2'
        refine Ok.callv (c_pushW (h1.rw how)) (fun u hu => ?_)
        have w2 := w1.tr (WcP.row h1 how hu.1 hu.2)
        have h2 := w2.1.1
        have eu : qI u (60 + D) = qI g (60 + D) := w2.2 D (by omega) hD
        have e44 : qP u 58 0 = some 44 := h2.2.2.2.2.1.2.1
        rw [Ok_ono]
        refine ⟨60 + D, rfl, ?_⟩
        rw [Ok_gd, e44]
        refine ⟨h2.pc (Or.inr ⟨by omega, by omega⟩), Ok.same (c_makeOf h2) (fun mi hmi => ?_)⟩
        have ed : (dp + 1).toInt = (D + 1 : Nat) := by rw [inc (by omega) (by omega), hdp]; rfl
        refine Ok.callv (ihd row cap out ocap (D + 1) _ _ (dp + 1) mi u hrw how h2 ed (by omega) hd (by rw [eu]; exact hp.2.1) (by rw [eu]; exact hp.2.2.1) (by rw [eu]; exact hp.2.2.2) hmi) (fun v hv => ?_)
        have w3 := w2.tr hv
        refine Ok.call (c_size (w3.1.1.rw how)) (fun q2 v' hv' => ?_)
        have e3' : v' = v := congrArg Prod.snd hv'
        subst e3'
        refine Ok.callv (c_replace (w3.1.1.rw how)) (fun y hy => ?_)
        rw [Ok_some]
        exact w3.tr (WcP.row w3.1.1 how hy.1 hy.2)
    · simp only [Ok_pif]
      refine ⟨fun h => absurd h (by decide), fun _ => ?_⟩
      rw [Ok_ono]
      refine ⟨60 + D, rfl, ?_⟩
      rw [Ok_gd]
      refine ⟨hpt.1, Ok.same (c_asNumber hpt.1) (fun v _ => Ok.callv (c_pushNumber (h1.rw how)) (fun u hu => ?_))⟩
      rw [Ok_some]
      exact w1.tr (WcP.row h1 how hu.1 hu.2)
set_option maxHeartbeats 2000000 in
theorem c_copyAll36 (d : Nat) (ihd : ∀ (row cap out ocap D : Nat) (fr to dp : Int32) (mk : Option Nat) (g : CS), isRw row cap → isRw out ocap → CI g → dp.toInt = D → D ≤ 8 → 8 < D + d → 0 ≤ fr.toInt → fr.toInt ≤ to.toInt → to.toInt ≤ 1000 → (∀ x, mk = some x → MkO g x) → Ok (fX4_copyAllN d 58 (some row) fr to mk (some out) dp g) (WcP g D)) (row cap out ocap D mk : Nat) (to dp : Int32) (g0 : CS) (hrw : isRw row cap) (how : isRw out ocap) (hdp : dp.toInt = D) (hD : D < 8) (hd : 8 < D + 1 + d) (hto : to.toInt ≤ 1000) (hmk0 : MkO g0 mk) : ∀ (z i : Nat) (l8 x : Int32) (g : CS), x.toInt = i → i ≤ 120 → 120 - i < z → 0 ≤ l8.toInt → l8.toInt ≤ to.toInt → WcP g0 D g → Ok (fX4_copyAll_36 58 (fX4_copyAllN d) z (some row) to (some mk) (some out) dp (some (60 + D)) l8 x g) (WcP g0 D) := by
  intro z
  induction z with
  | zero => intro i l8 x g a b c; omega
  | succ z ih =>
    intro i l8 x g hx hi hz h8 h8' hW
    have hC := hW.1.1
    have e := inc (x := x) (by omega) (by omega)
    have hpc : isPc (60 + D) := Or.inr ⟨by omega, by omega⟩
    have hne : (60 + D) ≠ row ∧ (60 + D) ≠ row + 1 := by
      rcases hrw with ⟨q | q | q | q, -⟩ | ⟨q | q, -⟩ <;> omega
    rw [fX4_copyAll_36_s]
    simp only [Ok_pif, Ok_some, Ok_ono]
    rw [t_le, t_le, show (120 : Int32).toInt = 120 from rfl]
    refine ⟨fun _ => hW, fun c1 => ⟨fun _ => hW, fun c2 => ⟨60 + D, rfl, ?_⟩⟩⟩
    rw [Ok_gd]
    refine ⟨hC.pc hpc, Ok.callv (c_look (hC.pc hpc) hne h8 (by omega) hto (hC.rw hrw)) (fun t ht => ?_)⟩
    obtain ⟨hFt, t1, t2, t3⟩ := ht
    have hSt := Sf.ob hC hFt hpc.in.1 hpc.in.2
    have hCt := hSt.1
    have hW2 : WcP g0 D t := hW.tr ⟨hSt, fun j h1 h2 => hFt.i (by simp; omega)⟩
    have hmt : MkO t mk := hmk0.fr hW2.1.2
    have hpo : PcO t (60 + D) := ⟨hCt.pc hpc, by omega, t2, by omega⟩
    simp only [Ok_ono, Ok_gd]
    refine ⟨mk, rfl, hmt.1, Ok.same (c_knownAt hmt) (fun f hf => ?_)⟩
    rw [Ok_gd]
    refine ⟨hCt.2.2.2.2.1.1, Ok.callv (c_copyPiece d ihd row cap out ocap D l8 dp f t hrw how hCt hdp hD hd h8 (by omega) hpo hf) (fun u hu => ?_)⟩
    have e4 : qI u (60 + D) = qI t (60 + D) := hu.2 D (by omega) hD
    simp only [Ok_nam]
    refine ih (i + 1) _ _ u (by rw [e, hx]; rfl) (by omega) (by omega) (by rw [e4]; omega) (by rw [e4]; exact t3) (hW2.tr ⟨hu.1, fun j h1 h2 => hu.2 j (by omega) h2⟩)
theorem c_copyAllN : ∀ (d row cap out ocap D : Nat) (fr to dp : Int32) (mk : Option Nat) (g : CS), isRw row cap → isRw out ocap → CI g → dp.toInt = D → D ≤ 8 → 8 < D + d → 0 ≤ fr.toInt → fr.toInt ≤ to.toInt → to.toInt ≤ 1000 → (∀ x, mk = some x → MkO g x) → Ok (fX4_copyAllN d 58 (some row) fr to mk (some out) dp g) (WcP g D) := by
  intro d
  induction d with
  | zero =>
    intro row cap out ocap D fr to dp mk g hrw how hC hdp h8 hd h0 h1 hto hmk
    exact absurd hd (by omega)
  | succ d ihd =>
    intro row cap out ocap D fr to dp mk g hrw how hC hdp h8 hd h0 h1 hto hmk
    show Ok (fX4_copyAll (fX4_copyAllN d) 58 (some row) fr to mk (some out) dp g) (WcP g D)
    unfold fX4_copyAll
    have hno : WcP g D g := ⟨Sf.rf hC, fun _ _ _ => rfl⟩
    obtain ⟨r1, r2, r3, r4, r5, r6, r7⟩ := hC.2.2.2.2.1
    simp only [Ok_pif, Ok_some]
    refine ⟨fun _ => hno, fun c => ⟨fun _ => hno, fun c0 => ?_⟩⟩
    rw [Ok_gd, Ok_ono]
    refine ⟨r1, 59, r3, ?_⟩
    simp only [Ok_gd, Ok_pif, Ok_nam, Ok_some]
    refine ⟨r5, fun c8 => ?_, fun _ => hno⟩
    rw [t_lt, e_nI (by rw [r6]; decide), r6] at c8
    have c8 : dp.toInt < 8 := c8
    obtain ⟨m, hm⟩ := Option.ne_none_iff_exists'.mp c
    have dn : dp.toNatClampNeg = D := by rw [t_nat]; omega
    rw [t_in, r6, dn, (r7 D (by omega)).1, hm]
    exact ⟨by omega, c_copyAll36 d ihd row cap out ocap D m to dp g hrw how hdp (by omega) (by omega) hto (hmk m hm) fuel 0 fr 0 g rfl (by omega) (by unfold fuel; omega) h0 h1 hno⟩
/-- a row that a fresh piece may come from -/
def isFr (f fcap : Nat) : Prop := isRw f fcap ∨ f = 68 ∧ fcap = 0
theorem CI.fw {g : CS} {r cap : Nat} (h : CI g) (hr : isFr r cap) : RowI g r cap := by
  rcases hr with hr | ⟨rfl, rfl⟩
  · exact h.rw hr
  · exact h.2.2.2.2.2.2.2.2.2.2.2.2.2.1
theorem isFr.ne {r cap o ocap : Nat} (h : isRw r cap) (h' : isFr o ocap) : o ≠ r ∧ o ≠ r + 1 ∨ o = r := by
  rcases h' with h' | ⟨q', -⟩
  · exact isRw.ne h h'
  · rcases h with ⟨q | q | q | q, -⟩ | ⟨q | q, -⟩ <;> omega
theorem c_fresh {out ocap f fcap : Nat} {g : CS} (h : CI g) (how : isRw out ocap) (hfr : isFr f fcap) (P : CS → Prop) (k : CS → Option CS) (hk : ∀ t, WcP g 8 t → Ok (k t) P) : Ok (ono (some f) (fun a_2 => gd (qk g a_2 = 8) (bnd (fX5_size a_2 g) (fun r_7 st_5 => ono (some out) (fun a_8 => gd (qk st_5 a_8 = 8) (bnv (fX5_append a_8 (some f) 0 r_7 st_5) k)))))) P := by
  have hf := h.fw hfr
  rw [Ok_ono]
  refine ⟨f, rfl, ?_⟩
  rw [Ok_gd]
  refine ⟨hf.1, Ok.call (c_size hf) (fun q t ht => ?_)⟩
  have e1 : q = qI g f 1 := congrArg Prod.fst ht
  have e2 : t = g := congrArg Prod.snd ht
  subst e2
  subst e1
  rw [Ok_ono]
  refine ⟨out, rfl, ?_⟩
  rw [Ok_gd]
  have hl := hf.2.2.2.2
  exact ⟨(h.rw how).1, Ok.callv (c_append (h.rw how) hf (isFr.ne how hfr) (by decide) (by decide) (by omega)) (fun u hu => hk u (WcP.row h how hu.1 hu.2))⟩
set_option maxHeartbeats 2000000 in
theorem c_rewrite24 (row cap out ocap f fcap mk : Nat) (n gr : Int32) (g0 : CS) (hrw : isRw row cap) (how : isRw out ocap) (hfr : isFr f fcap) (hmk0 : MkO g0 mk) : ∀ (z i : Nat) (l8 l9 x : Int32) (g : CS), x.toInt = i → i ≤ 120 → 120 - i < z → 0 ≤ l9.toInt → Sf g0 g → Ok (fX4_rewriteWith_24 58 z (some row) (some mk) n gr (some f) (some out) (some 60) l8 l9 x g) (fun t => Sf g0 t) := by
  intro z
  induction z with
  | zero => intro i l8 l9 x g a b c; omega
  | succ z ih =>
    intro i l8 l9 x g hx hi hz h9 hS
    have hC := hS.1
    have e := inc (x := x) (by omega) (by omega)
    have hpc : isPc 60 := Or.inr ⟨by omega, by omega⟩
    have hrow := hC.rw hrw
    have hne : 60 ≠ row ∧ 60 ≠ row + 1 := by
      rcases hrw with ⟨q | q | q | q, -⟩ | ⟨q | q, -⟩ <;> omega
    have f159 : ∀ (l8 : Int32), Ok (fX4_rewriteWith_159 58 (some f) (some out) l8 g) (fun t => Sf g0 t) := by
      intro l8
      unfold fX4_rewriteWith_159
      simp only [Ok_pif]
      refine ⟨fun _ => c_fresh hC how hfr _ _ (fun t ht => ?_), fun _ => ?_⟩
      · rw [Ok_some]; exact hS.tr ht.1
      · rw [Ok_some]; exact hS
    rw [fX4_rewriteWith_24_s]
    simp only [Ok_pif]
    rw [t_le, show (120 : Int32).toInt = 120 from rfl]
    refine ⟨fun _ => f159 l8, fun c1 => ?_⟩
    rw [Ok_ono]
    refine ⟨row, rfl, ?_⟩
    rw [Ok_gd]
    refine ⟨hrow.1, Ok.call (c_size hrow) (fun q t ht => ?_)⟩
    have e1 : q = qI g row 1 := congrArg Prod.fst ht
    have e2 : t = g := congrArg Prod.snd ht
    subst e2
    subst e1
    simp only [Ok_pif]
    rw [t_le]
    refine ⟨fun _ => f159 l8, fun c2 => Ok.call (c_size hrow) (fun q' t' ht' => ?_)⟩
    have e1' : q' = qI t row 1 := congrArg Prod.fst ht'
    have e2' : t' = t := congrArg Prod.snd ht'
    subst e2'
    subst e1'
    have hl := hrow.2.2.2.2
    rw [Ok_ono]
    refine ⟨60, rfl, ?_⟩
    rw [Ok_gd]
    refine ⟨hC.pc hpc, Ok.callv (c_look (hC.pc hpc) hne h9 (by omega) (by omega) hrow) (fun u hu => ?_)⟩
    obtain ⟨hFu, u1, u2, u3⟩ := hu
    have hSu := hS.tr (Sf.ob hC hFu hpc.in.1 hpc.in.2)
    have hpo : PcO u 60 := ⟨hSu.1.pc hpc, by omega, u2, by omega⟩
    -- behind the fresh piece
    have f82 : ∀ (l8 : Int32) (w : CS), WcP u 8 w → Ok (fX4_rewriteWith_82 58 (fX4_rewriteWith_24 58 z) (some row) (some mk) n gr (some f) (some out) (some 60) l8 l9 x w) (fun t => Sf g0 t) := by
      intro l8 w hw
      have hSw := hSu.tr hw.1
      have hmw := hmk0.fr hSw.2
      have ew : qI w 60 = qI u 60 := hw.2 0 (by omega) (by omega)
      have hpw : PcO w 60 := ⟨hSw.1.pc hpc, by rw [ew]; exact hpo.2.1, by rw [ew]; exact hpo.2.2.1, by rw [ew]; exact hpo.2.2.2⟩
      have nx : ∀ v : CS, Sf g0 v → qI v 60 = qI u 60 → Ok (fX4_rewriteWith_146 58 (fX4_rewriteWith_24 58 z) (some row) (some mk) n gr (some f) (some out) (some 60) l8 x v) (fun t => Sf g0 t) := by
        intro v hv ev
        unfold fX4_rewriteWith_146
        simp only [Ok_ono, Ok_gd, Ok_nam]
        exact ⟨60, rfl, hv.1.pc hpc, ih (i + 1) _ _ _ v (by rw [e, hx]; rfl) (by omega) (by omega) (by rw [ev]; omega) hv⟩
      have f127 : ∀ (o : Option Nat) (s0 : Int32), (∀ y, o = some y → FdO w y) → Ok (fX4_rewriteWith_127 58 (fX4_rewriteWith_24 58 z) (some row) (some mk) n gr (some f) (some out) (some 60) l8 l9 x o s0 w) (fun t => Sf g0 t) := by
        intro o s0 ho
        unfold fX4_rewriteWith_127
        simp only [Ok_pif, Ok_gd]
        refine ⟨fun _ => ⟨hSw.1.2.2.2.2.1.1, Ok.callv (c_copyPiece 12 (c_copyAllN 12) row cap out ocap 0 l9 0 o w hrw how hSw.1 rfl (by omega) (by omega) h9 (by omega) hpw ho) (fun v hv => ?_)⟩, fun _ => nx w hSw ew⟩
        exact nx v (hSw.tr hv.1) ((hv.2 0 (by omega) (by omega)).trans ew)
      unfold fX4_rewriteWith_82 fX4_rewriteWith_126 fX4_rewriteWith_122
      simp only [Ok_ono, Ok_gd]
      refine ⟨60, rfl, hSw.1.pc hpc, mk, rfl, hmw.1, Ok.same (c_knownAt hmw) (fun o ho => ?_)⟩
      simp only [Ok_pif, Ok_ono, Ok_gd]
      refine ⟨fun _ => f127 o 0 ho, fun c => ?_⟩
      obtain ⟨y, hy⟩ := Option.ne_none_iff_exists'.mp c
      exact ⟨y, hy, (ho y hy).1, fun _ => f127 o 1 ho, fun _ => ⟨fun _ => f127 o 0 ho, fun _ => ⟨fun _ => f127 o 1 ho, fun _ => f127 o 0 ho⟩⟩⟩
    have w0 : WcP u 8 u := ⟨Sf.rf hSu.1, fun _ _ _ => rfl⟩
    simp only [Ok_pif]
    exact ⟨fun _ => ⟨fun _ => f82 l8 u w0, fun _ => c_fresh hSu.1 how hfr _ _ (fun v hv => f82 1 v hv)⟩, fun _ => f82 l8 u w0⟩
theorem c_rewriteWith {row cap out ocap f fcap mk : Nat} {n gr : Int32} {g : CS} (h : CI g) (hrw : isRw row cap) (how : isRw out ocap) (hfr : isFr f fcap) (hmk : MkO g mk) : Ok (fX4_rewriteWith 58 (some row) (some mk) n gr (some f) (some out) g) (fun t => Sf g t) := by
  unfold fX4_rewriteWith
  rw [Ok_ono]
  refine ⟨out, rfl, ?_⟩
  rw [Ok_gd]
  have ho := h.rw how
  refine ⟨ho.1, Ok.call (c_cut ho) (fun q t ht => ?_)⟩
  have hS : Sf g t := by
    have h0 := ho.2.2.2.2.1
    rw [pif_pos ⟨by decide, by show (0 : Int) ≤ _; exact h0⟩] at ht
    have e : t = wI g out 1 0 := congrArg Prod.snd ht
    rw [e]
    exact Sf.row h how (Cf.rf.wI (by simp)) (ho.wS (by decide) (by show (0 : Int) ≤ _; omega))
  obtain ⟨r1, r2, r3, r4, r5, r6, r7⟩ := hS.1.2.2.2.2.1
  simp only [Ok_gd, Ok_ono, Ok_nam]
  refine ⟨r1, 59, r3, r5, by rw [t_in, r6]; decide, ?_⟩
  rw [show (0 : Int32).toNatClampNeg = 0 from rfl, (r7 0 (by omega)).1]
  exact (c_rewrite24 row cap out ocap f fcap mk n gr t hrw how hfr (hmk.fr hS.2) fuel 0 0 0 0 t rfl (by omega) (by unfold fuel; omega) (by decide) (Sf.rf hS.1)).mono (fun u hu => hS.tr hu)
theorem c_rewrite {row cap out ocap mk : Nat} {g : CS} (h : CI g) (hrw : isRw row cap) (how : isRw out ocap) (hmk : MkO g mk) : Ok (fX4_rewrite 58 (some row) (some mk) (some out) g) (fun t => Sf g t) := by
  unfold fX4_rewrite
  rw [Ok_gd]
  obtain ⟨r1, r2, r3, r4, r5, r6, r7⟩ := h.2.2.2.2.1
  rw [r4]
  exact ⟨r1, Ok.callv (c_rewriteWith h hrw how (Or.inr ⟨rfl, rfl⟩) hmk) (fun t ht => by rw [Ok_some]; exact ht)⟩

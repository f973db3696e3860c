/-! class: a field is added to the make -/
/-- strings, bytes and fields are the same -/
def Kf (g t : CS) : Prop := qn t = qn g ∧ qk t = qk g ∧ ql t = ql g ∧ lb t = lb g ∧ ∀ i, qk g i = 3 ∨ qk g i = 1 ∨ qk g i = 22 → qI t i = qI g i ∧ qJ t i = qJ g i ∧ qP t i = qP g i
theorem StC.kf {f : Nat → Int32} {a l s : Nat} {g t : CS} (h : StC f a l s g) (hK : Kf g t) : StC f a l s t := by
  obtain ⟨⟨s1, s2, s3, c0, s4, s5, s6, s7⟩, c, c1, c2, c3, c4⟩ := h
  have e1 : c0 = c := by rw [s4] at c1; cases c1; rfl
  subst e1
  obtain ⟨k1, k2, k3, k4, k5⟩ := hK
  have es := k5 s (Or.inr (Or.inl s1))
  have eb := k5 c0 (Or.inr (Or.inr s5))
  exact ⟨⟨by rw [k2]; exact s1, by rw [k1]; exact s2, by rw [es.1]; exact s3, c0, by rw [es.2.2]; exact s4, by rw [k2]; exact s5, by rw [k3]; exact s6, by rw [k1]; exact s7⟩, c0, by rw [es.2.2]; exact s4, by rw [k3]; exact c2, fun j hj => by rw [eb.1]; exact c3 j hj, by rw [k4]; exact c4⟩
theorem FdH.kf {f : Nat → Int32} {x : FdT} {H : Nat} {g t : CS} (h : FdH f x H g) (hK : Kf g t) : FdH f x H t := by
  obtain ⟨⟨h1, h2, h3⟩, h4, h6, h7, h8, h9, ⟨s, h10, h11⟩, ⟨s', l, h12, h13, h14⟩, h15⟩ := h
  have es := hK.2.2.2.2 H (Or.inl h1)
  exact ⟨⟨by rw [hK.2.1]; exact h1, h2, by rw [hK.1]; exact h3⟩, h4, by rw [es.1]; exact h6, by rw [es.1]; exact h7, by rw [es.1]; exact h8, by rw [es.1]; exact h9, ⟨s, by rw [es.2.2]; exact h10, h11.kf hK⟩, ⟨s', l, by rw [es.2.2]; exact h12, h13.kf hK, h14⟩, fun q => by rw [es.2.1]; exact h15.1 q, fun q => by rw [es.2.1]; exact h15.2 q⟩
theorem w_add {f : Nat → Int32} {n p F mk ar : Nat} {L : List FdT} {x : FdT} {A B : Int} {g0 g : CS} (hM : MbI f L mk ar g) (hF : FdH f x F g) (hns : ¬ seenN L (fNum x)) (hL : L.length ≤ 10) (hT : Tr f n p g) (hG : Tf 46 A B g0 g) (hmk : qn g0 ≤ mk) (har : qn g0 ≤ ar) : Ok (fX1_add mk (some F) g) (fun q => q.1 = 1 ∧ Tf 46 A B g0 q.2 ∧ Tr f n p q.2 ∧ MbI f (x :: L) mk ar q.2) := by
  obtain ⟨⟨m1, m2, m3⟩, ⟨m4, m5, m6⟩, m7, m8, m9, m10, m11⟩ := id hM
  obtain ⟨⟨h1, h2, h3⟩, ⟨h4, -⟩, h6, -⟩ := id hF
  have hl := hT.1.2.2.2.2.2
  have hn46 := hl.n46
  have l4 := hl.2.2.2.1
  have xn : (qI g F 0).toNatClampNeg = fNum x := by rw [t_nat]; omega
  unfold fX1_add
  simp only [Ok_ono, Ok_gd, Ok_pif, Ok_some, Ok_nam]
  refine ⟨F, rfl, h1, fun c => by rw [t_lt, show (0 : Int32).toInt = 0 from rfl, h6] at c; omega, fun c => ⟨m1, ar, m7, m4, fun _ => ⟨?_, ?_⟩, fun c2 => ?_⟩⟩
  · rw [t_in, h6, m8]; omega
  · rw [xn]
    have na : ar ≠ lb g := fun q => by rw [q, l4] at m4; cases m4
    have nm : mk ≠ lb g := fun q => by rw [q, l4] at m1; cases m1
    have am : ar ≠ mk := fun q => by rw [q, m1] at m4; cases m4
    have e1 := inc (x := qI g mk 1) (by omega) (by omega)
    have hl2 : lb (wP g ar (fNum x) (some F)) = lb g := by unfold lb; rw [qP_wP, if_neg (by omega)]
    have eI1 : qI (wP g ar (fNum x) (some F)) mk 1 = qI g mk 1 := rfl
    rw [eI1]
    have t1 : Tf 46 A B g0 (wI (wP g ar (fNum x) (some F)) mk 1 (qI g mk 1 + 1)) := (hG.np har (by omega)).ni hmk (by omega)
    have t2 : LwI (wI (wP g ar (fNum x) (some F)) mk 1 (qI g mk 1 + 1)) := (hl.p (by omega)).i (by omega) (by rw [hl2]; exact nm)
    have ek : ∀ i, qk (wI (wP g ar (fNum x) (some F)) mk 1 (qI g mk 1 + 1)) i = qk g i := fun i => rfl
    have eP : ∀ i, i ≠ ar → qP (wI (wP g ar (fNum x) (some F)) mk 1 (qI g mk 1 + 1)) i = qP g i := fun i hi => qP_wo hi
    have ePa : ∀ j, qP (wI (wP g ar (fNum x) (some F)) mk 1 (qI g mk 1 + 1)) ar j = if j = fNum x then some F else qP g ar j := fun j => by rw [qP_wI, qP_wP, if_pos rfl]
    have eI : ∀ i, i ≠ mk → qI (wI (wP g ar (fNum x) (some F)) mk 1 (qI g mk 1 + 1)) i = qI g i := fun i hi => qI_wo hi
    have eIm : qI (wI (wP g ar (fNum x) (some F)) mk 1 (qI g mk 1 + 1)) mk 1 = qI g mk 1 + 1 := by rw [qI_wI, if_pos rfl, if_pos rfl]
    have hK : Kf g (wI (wP g ar (fNum x) (some F)) mk 1 (qI g mk 1 + 1)) := by
      refine ⟨rfl, rfl, rfl, hl2, fun i hi => ⟨eI i (fun q => ?_), rfl, eP i (fun q => ?_)⟩⟩
      · rw [q, m1] at hi; exact absurd hi (by decide)
      · rw [q, m4] at hi; exact absurd hi (by decide)
    have el : ql (wI (wP g ar (fNum x) (some F)) mk 1 (qI g mk 1 + 1)) ar = ql g ar := rfl
    have en : qn (wI (wP g ar (fNum x) (some F)) mk 1 (qI g mk 1 + 1)) = qn g := rfl
    have es : qs (wI (wP g ar (fNum x) (some F)) mk 1 (qI g mk 1 + 1)) = qs g := rfl
    generalize wI (wP g ar (fNum x) (some F)) mk 1 (qI g mk 1 + 1) = t at *
    have tT : TrI f n t := by
      obtain ⟨⟨a1, a2, a3, a4⟩, a5, a6, a7, a8, a9⟩ := hT.1
      obtain ⟨r1, r2, r3, r4, r5, r6, r7⟩ := a5
      have ek33 : ql t 34 = ql g 34 := by have := hK.2.2.1; rw [this]
      refine ⟨⟨by rw [ek]; exact a1, by rw [eP 45 (by omega)]; exact a2, by rw [eP 45 (by omega)]; exact a3, by rw [eP 45 (by omega)]; exact a4⟩, ⟨by rw [ek]; exact r1, by rw [eP 33 (by omega)]; exact r2, by rw [ek]; exact r3, by rw [ek33]; exact r4, by rw [eI 33 (by omega)]; exact r5, by rw [eI 33 (by omega)]; exact r6, r7⟩, by rw [eI 33 (by omega)]; exact a6, fun j hj => by rw [eI 34 (by omega)]; exact a7 j hj, ⟨by omega, fun i hi => ?_⟩, t2⟩
      obtain ⟨b1, b2, b3, b4, b5, b6⟩ := a8.2 i hi
      exact ⟨by rw [ek]; exact b1, by rw [eP i (by omega)]; exact b2, by rw [eI i (by omega)]; exact b3, by rw [ek]; exact b4, by rw [hK.2.2.1]; exact b5, by rw [eI (9 + i) (by omega)]; exact b6⟩
    refine ⟨by trivial, t1, ⟨tT, by rw [eI 45 (by omega)]; exact hT.2.1, by rw [eI 45 (by omega)]; exact hT.2.2⟩, ⟨by rw [ek]; exact m1, m2, by omega⟩, ⟨by rw [ek]; exact m4, m5, by omega⟩, by rw [eP mk (fun q => am q.symm)]; exact m7, by rw [el]; exact m8, ?_, fun j hj => ?_, fun y hy => ?_⟩
    · rw [eIm, e1, m9]; rfl
    · rw [ePa j]
      by_cases c : j = fNum x
      · rw [if_pos c]
        exact ⟨fun _ => ⟨x, List.mem_cons_self, c.symm⟩, fun _ q => by cases q⟩
      · rw [if_neg c, m10 j hj]
        constructor
        · rintro ⟨y, hy, e⟩
          exact ⟨y, List.mem_cons_of_mem _ hy, e⟩
        · rintro ⟨y, hy, e⟩
          rcases List.mem_cons.mp hy with q | q
          · exact absurd (by rw [← e, q]) c
          · exact ⟨y, q, e⟩
    · rcases List.mem_cons.mp hy with q | q
      · rw [q]
        exact ⟨F, by rw [ePa, if_pos rfl], hF.kf hK⟩
      · obtain ⟨H, k1, k2⟩ := m11 y q
        exact ⟨H, by rw [ePa, if_neg (fun e => hns ⟨y, q, e⟩)]; exact k1, k2.kf hK⟩
  · exfalso
    apply c2
    rw [t_lt, h6, m8, e_nI (by decide)]
    omega
/-- a new field -/
def NfP (g t : CS) : Prop := Tf 46 1 7 g t ∧ LwI t ∧ qI t 45 = qI g 45 ∧ FO t (qn g) ∧ (qI t (qn g) 0).toInt = 0 ∧ (qI t (qn g) 1).toInt = 0 ∧ (qI t (qn g) 2).toInt = 0 ∧ (qI t (qn g) 3).toInt = -1 ∧ qP t (qn g) 4 = some 0 ∧ qP t (qn g) 5 = some 0 ∧ (qJ t (qn g) 6).toInt = 0
theorem w_initF {g : CS} (h : LwI g) : Ok (fX0_init (qn g) (wN g 3 0 7)) (NfP g) := by
  have hn := h.n46
  have l10 := h.2.2.2.2.2.2.2.2.2.1
  unfold fX0_init
  simp only [Ok_gd, Ok_nam, Ok_some]
  have l0 : lb (wN g 3 0 7) = lb g := by unfold lb; rw [qP_wN, if_neg (by omega)]
  refine ⟨by rw [qk_wN, if_pos rfl], ?_⟩
  have hT : Tf 46 1 7 g (wN g 3 0 7) := Tf.mk0 (sl := 7) h
  have N := Nat.le_refl (qn g)
  have hL : LwI (wN g 3 0 7) := h.n
  refine ⟨((((((hT.ni N (by omega)).ni N (by omega)).ni N (by omega)).ni N (by omega)).np N (by omega)).np N (by omega)).nj N, ?_, ?_, ⟨?_, by omega, by show qn g < qn g + 1; omega⟩, ?_, ?_, ?_, ?_, ?_, ?_, ?_⟩
  · refine hL.o rfl ?_ ?_ rfl rfl ?_ (Nat.le_refl _)
    · show qI (wI (wI (wI (wI (wN g 3 0 7) (qn g) 0 0) (qn g) 1 0) (qn g) 2 0) (qn g) 3 (-1)) 46 = _
      rw [qI_wo (by omega), qI_wo (by omega), qI_wo (by omega), qI_wo (by omega)]
    · rw [qP_wJ, qP_wo (by omega), qP_wo (by omega)]; rfl
    · show qI (wI (wI (wI (wI (wN g 3 0 7) (qn g) 0 0) (qn g) 1 0) (qn g) 2 0) (qn g) 3 (-1)) (lb (wN g 3 0 7)) = _
      rw [l0, qI_wo (by omega), qI_wo (by omega), qI_wo (by omega), qI_wo (by omega)]
  · show qI (wI (wI (wI (wI (wN g 3 0 7) (qn g) 0 0) (qn g) 1 0) (qn g) 2 0) (qn g) 3 (-1)) 45 = _
    rw [qI_wo (by omega), qI_wo (by omega), qI_wo (by omega), qI_wo (by omega), qI_wN, if_neg (by omega)]
  · show (if qn g = qn g then 3 else qk g (qn g)) = 3
    rw [if_pos rfl]
  · show (qI (wI (wI (wI (wI (wN g 3 0 7) (qn g) 0 0) (qn g) 1 0) (qn g) 2 0) (qn g) 3 (-1)) (qn g) 0).toInt = 0
    rw [qI_wI, if_pos rfl, if_neg (by decide), qI_wI, if_pos rfl, if_neg (by decide), qI_wI, if_pos rfl, if_neg (by decide), qI_wI, if_pos rfl, if_pos rfl]; rfl
  · show (qI (wI (wI (wI (wI (wN g 3 0 7) (qn g) 0 0) (qn g) 1 0) (qn g) 2 0) (qn g) 3 (-1)) (qn g) 1).toInt = 0
    rw [qI_wI, if_pos rfl, if_neg (by decide), qI_wI, if_pos rfl, if_neg (by decide), qI_wI, if_pos rfl, if_pos rfl]; rfl
  · show (qI (wI (wI (wI (wI (wN g 3 0 7) (qn g) 0 0) (qn g) 1 0) (qn g) 2 0) (qn g) 3 (-1)) (qn g) 2).toInt = 0
    rw [qI_wI, if_pos rfl, if_neg (by decide), qI_wI, if_pos rfl, if_pos rfl]; rfl
  · show (qI (wI (wI (wI (wI (wN g 3 0 7) (qn g) 0 0) (qn g) 1 0) (qn g) 2 0) (qn g) 3 (-1)) (qn g) 3).toInt = -1
    rw [qI_wI, if_pos rfl, if_pos rfl]; rfl
  · rw [qP_wJ, qP_wP, if_pos rfl, if_neg (by decide), qP_wP, if_pos rfl, if_pos rfl]
  · rw [qP_wJ, qP_wP, if_pos rfl, if_pos rfl]
  · rw [qJ_wJ, if_pos rfl, if_pos rfl]; rfl

/-! a fresh piece comes in: the class -/
def goF (st : RS) (m n0 : Nat) (g0 : Int32) (k : Nat) : Prop := hasN st m k ∧ (k = n0 ∨ g0 ≠ 0 ∧ grN st m k = g0)
noncomputable def midL (st : RS) (f : Nat → Int32) (m n0 : Nat) (g0 : Int32) (b a : Nat) : List Int32 := pif (goF st m n0 g0 (pNu f a)) [] (pcB st f m a b (wrR st f (inM st m (pNu f a)) (pFr f a) (pTo f a b)))
noncomputable def putL (st : RS) (f : Nat → Int32) (m n0 : Nat) (g0 : Int32) (fresh : List Int32) (b : Nat) : Nat → Nat → Nat → List Int32
  | 0, _, _ => []
  | z + 1, p, a => pif (a < b) (pif (p = 0 ∧ n0 ≤ pNu f a) (fresh ++ (midL st f m n0 g0 b a ++ putL st f m n0 g0 fresh b z 1 (pTo f a b))) (midL st f m n0 g0 b a ++ putL st f m n0 g0 fresh b z p (pTo f a b))) (pif (p = 0) fresh [])
theorem putL_n {st : RS} {f : Nat → Int32} {m n0 b z p a : Nat} {g0 : Int32} {fresh : List Int32} (h : b ≤ a) : putL st f m n0 g0 fresh b (z + 1) p a = pif (p = 0) fresh [] := by
  show pif (a < b) _ _ = _
  rw [pif_neg (by omega)]
theorem putL_y {st : RS} {f : Nat → Int32} {m n0 b z p a : Nat} {g0 : Int32} {fresh : List Int32} (h : a < b) (c : p = 0 ∧ n0 ≤ pNu f a) : putL st f m n0 g0 fresh b (z + 1) p a = fresh ++ (midL st f m n0 g0 b a ++ putL st f m n0 g0 fresh b z 1 (pTo f a b)) := by
  show pif (a < b) _ _ = _
  rw [pif_pos h, pif_pos c]
theorem putL_x {st : RS} {f : Nat → Int32} {m n0 b z p a : Nat} {g0 : Int32} {fresh : List Int32} (h : a < b) (c : ¬ (p = 0 ∧ n0 ≤ pNu f a)) : putL st f m n0 g0 fresh b (z + 1) p a = midL st f m n0 g0 b a ++ putL st f m n0 g0 fresh b z p (pTo f a b) := by
  show pif (a < b) _ _ = _
  rw [pif_pos h, pif_neg c]
theorem pcB_len2 {st : RS} {f : Nat → Int32} {m a b last : Nat} {gs : Int32} (hM : MkI st) (htm : tld st m) (hP : PcA f a b) (hok : pOk st f m a b last gs) (hin : hasN st m (pNu f a) → kdN st m (pNu f a) = 6 → Sd st f (inM st m (pNu f a)) (pFr f a) (pTo f a b) 0 0) (hb : b ≤ 120) : (pcB st f m a b (wrR st f (inM st m (pNu f a)) (pFr f a) (pTo f a b))).length ≤ pTo f a b - a := by
  have hlt := hP.lt
  by_cases c : hasN st m (pNu f a)
  · by_cases c6 : kdN st m (pNu f a) = 6
    · exact pcB_len hP hok (wrR_len hM (hin c c6) ((hM.hk m _ htm c).2 c6) hlt.2.1 (by omega)) (by omega) (hM.hk m _ htm c).1
    · rw [pcB_c (i2 := []) (fun _ q => absurd q c6)]
      exact pcB_len hP hok (inner := []) (Nat.zero_le _) (by omega) (hM.hk m _ htm c).1
  · unfold pcB
    rw [pif_neg c, seg_len]
    omega
theorem midL_len {st : RS} {f : Nat → Int32} {m n0 a b last : Nat} {g0 gs : Int32} (hM : MkI st) (htm : tld st m) (hP : PcA f a b) (hok : pOk st f m a b last gs) (hin : hasN st m (pNu f a) → kdN st m (pNu f a) = 6 → Sd st f (inM st m (pNu f a)) (pFr f a) (pTo f a b) 0 0) (hb : b ≤ 120) : (midL st f m n0 g0 b a).length ≤ pTo f a b - a := by
  unfold midL
  by_cases c : goF st m n0 g0 (pNu f a)
  · rw [pif_pos c]; exact Nat.zero_le _
  · rw [pif_neg c]; exact pcB_len2 hM htm hP hok hin hb
/-- a row that a fresh piece comes from: 72, or the one without bytes -/
def isF2 (fr : Nat) : Prop := fr = 72 ∨ fr = 68
theorem isF2.fw {g : CS} {fr : Nat} (h : isF2 fr) (hC : CI g) : ∃ cap, RowI g fr cap := by
  rcases h with rfl | rfl
  · exact ⟨256, hC.rw (Or.inr ⟨Or.inl rfl, rfl⟩)⟩
  · exact ⟨0, hC.fw (Or.inr ⟨rfl, rfl⟩)⟩
theorem isF2.nw {fr : Nat} (h : isF2 fr) : ∀ i, i ∈ wtL → i ≠ fr ∧ i ≠ fr + 1 := by
  rcases h with rfl | rfl <;> decide
theorem isF2.n74 {fr : Nat} (h : isF2 fr) : fr ≠ 74 ∧ fr ≠ 74 + 1 ∧ fr + 1 ≠ 74 ∧ fr + 1 ≠ 74 + 1 := by
  rcases h with rfl | rfl <;> decide
theorem RwL.sw {g t : CS} {fr : Nat} {l : List Int32} (h : RwL g fr l) (hf : isF2 fr) (hS : Sw g t) : RwL t fr l := h.fr hS.2 (fun q => (hf.nw fr q).1 rfl) (fun q => (hf.nw (fr + 1) q).2 rfl)
theorem seg_ix {l : List Int32} : seg (ix l) 0 l.length = l := by
  unfold seg
  rw [Nat.sub_zero]
  refine List.ext_getElem (by rw [List.length_map, List.length_range]) (fun i h1 h2 => ?_)
  rw [List.getElem_map, List.getElem_range, Nat.zero_add]
  show (l[i]?).getD 0 = _
  rw [List.getElem?_eq_getElem h2]
  rfl
theorem m_appF {g : CS} {fr : Nat} {l fresh : List Int32} (hf : isF2 fr) (hC : CI g) (hl : RwL g 74 l) (hfr : RwL g fr fresh) (hbt : BtL fresh) (hfl : fresh.length ≤ 256) (hlen : l.length + fresh.length ≤ 256) : Ok (bnd (fX5_size fr g) (fun r_64 st_62 => ono (some 74) (fun a_65 => gd (qk st_62 a_65 = 8) (bnv (fX5_append a_65 (some fr) 0 r_64 st_62) (fun st_68 => some st_68))))) (PuL g 74 256 (l ++ fresh)) := by
  obtain ⟨cap, hrow⟩ := hf.fw hC
  refine Ok.call (c_size hrow) (fun q t ht => ?_)
  have e1 : q = qI g fr 1 := congrArg Prod.fst ht
  have e2 : t = g := congrArg Prod.snd ht
  subst e2
  rw [Ok_ono]
  refine ⟨74, rfl, ?_⟩
  rw [Ok_gd]
  refine ⟨(hC.rw isW74).1, Ok.callv (m_app (a := 0) (hC.rw isW74) hl hrow (hfr.b hbt) hf.n74 rfl (by rw [e1]; exact hfr.1) (Nat.zero_le _) (Nat.le_refl _) (by omega) (by omega)) (fun u hu => ?_)⟩
  rw [Ok_some]
  rw [seg_ix] at hu
  exact hu
set_option maxHeartbeats 2000000 in
theorem m_rw24 (r : RS) (f : Nat → Int32) (n : Nat) (hn : n ≤ 120) (row fr m mk n0 : Nat) (l3 g4 : Int32) (fresh : List Int32) (g0 : CS) (hrc : isRc row) (hf : isF2 fr) (hI0 : IR g0 r) (hB0 : RwB g0 row n f) (htm : tld r m) (hmk0 : EqM g0 mk r m) (h3 : l3.toInt = n0) (hfr0 : RwL g0 fr fresh) (hbt : BtL fresh) : ∀ (z i a y p : Nat) (l8 l9 x : Int32) (g : CS) (l : List Int32), x.toInt = i → 120 - i < z → l9.toInt = a → 2 * i ≤ a → a ≤ n → n - a < y → l8.toInt = p → p ≤ 1 → (∃ last gs, Sd r f m a n last gs) → WtP g0 0 l g → l.length + (n - a) + pif (p = 0) fresh.length 0 ≤ 256 → Ok (fX4_rewriteWith_24 58 z (some row) (some mk) l3 g4 (some fr) (some 74) (some 60) l8 l9 x g) (WtP g0 0 (l ++ putL r f m n0 g4 fresh n y p a)) := by
  intro z
  induction z with
  | zero => intro i a y p l8 l9 x g l q1 q2; omega
  | succ z ih =>
    intro i a y p l8 l9 x g l hx hz h9 hia han hy h8 hp1 hSd hW hlen
    have hC := hW.1.1
    have e := inc (x := x) (by omega) (by omega)
    have hpc : isPc 60 := Or.inr ⟨by omega, by omega⟩
    have hrow := hC.rw hrc.rw
    have hB := hB0.sw hrc hW.1
    have hne : 60 ≠ row ∧ 60 ≠ row + 1 := hrc.nw 60 (by decide)
    have p0 : l8 = 0 ↔ p = 0 := by rw [t_eq, h8, show (0 : Int32).toInt = 0 from rfl]; omega
    obtain ⟨y, rfl⟩ : ∃ k, y = k + 1 := ⟨y - 1, by omega⟩
    -- the end
    have fin : n ≤ a → Ok (fX4_rewriteWith_159 58 (some fr) (some 74) l8 g) (WtP g0 0 (l ++ putL r f m n0 g4 fresh n (y + 1) p a)) := fun hna => by
      obtain ⟨cap, hfrow⟩ := hf.fw hC
      rw [putL_n hna]
      unfold fX4_rewriteWith_159
      by_cases c : p = 0
      · rw [pif_pos c] at hlen ⊢
        rw [pif_pos (p0.mpr c), Ok_ono]
        refine ⟨fr, rfl, ?_⟩
        rw [Ok_gd]
        exact ⟨hfrow.1, (m_appF hf hC hW.2.1 (hfr0.sw hf hW.1) hbt (by omega) (by omega)).mono (fun t ht => hW.pu ht)⟩
      · rw [pif_neg c, pif_neg (fun q => c (p0.mp q)), Ok_some, List.append_nil]
        exact hW
    rw [fX4_rewriteWith_24_s]
    rw [Ok_pif, t_le, hx, show (120 : Int32).toInt = 120 from rfl]
    refine ⟨fun c => by omega, fun c1 => ?_⟩
    rw [Ok_ono]
    refine ⟨row, rfl, ?_⟩
    rw [Ok_gd]
    refine ⟨hrow.1, Ok.call (c_size hrow) (fun q t ht => ?_)⟩
    have e1 : q = qI g row 1 := congrArg Prod.fst ht
    have e2 : t = g := congrArg Prod.snd ht
    subst e2
    subst e1
    rw [Ok_pif, t_le, hB.1, h9]
    refine ⟨fun c => fin (by omega), fun c2 => Ok.call (c_size hrow) (fun q' t' ht' => ?_)⟩
    have e1' : q' = qI t row 1 := congrArg Prod.fst ht'
    have e2' : t' = t := congrArg Prod.snd ht'
    subst e2'
    subst e1'
    rw [Ok_ono]
    refine ⟨60, rfl, ?_⟩
    rw [Ok_gd]
    obtain ⟨last, gs, hSd⟩ := hSd
    obtain ⟨hP, hok, hrest, hin⟩ := (Sd.iff (by omega)).mp hSd
    have hlt := hP.lt
    refine ⟨hC.pc hpc, Ok.callv (m_lk (hC.pc hpc) hne h9 hB.1 han (Nat.le_refl _) (by omega) hB hrow) (fun u hu => ?_)⟩
    obtain ⟨hFu, hL⟩ := hu
    have hSu := Sw.ob (D := 0) hC (by omega) hFu
    have hWu : WtP g0 0 l u := ⟨hW.1.tr hSu, hW.2.1.fr hFu (by simp) (by simp), fun j h1 => absurd h1 (by omega)⟩
    have h5 : qI u 60 5 = 0 := Classical.byContradiction (fun q => hL.bad q ⟨hP, hok.1, hok.2.1⟩)
    have hpe := hL.pc (hSu.1.pc hpc) h5
    obtain ⟨-, -, -, -, pe0, -, pe3, pe4, -, -⟩ := id hpe
    have pi0 : (qI u 60 0).toInt = pNu f a := by rw [pe0]; exact pNu_i
    have hml := midL_len (n0 := n0) (g0 := g4) hI0.2.1 htm hP hok hin (by omega)
    have hpl := pcB_len2 hI0.2.1 htm hP hok hin (by omega)
    -- what stands behind the fresh piece
    have e82 : ∀ (p' : Nat) (l8' : Int32) (l' : List Int32) (w : CS), l8'.toInt = p' → p' ≤ 1 → WtP g0 0 l' w → PcE w 60 f a n → l'.length + (n - a) + pif (p' = 0) fresh.length 0 ≤ 256 → Ok (fX4_rewriteWith_82 58 (fX4_rewriteWith_24 58 z) (some row) (some mk) l3 g4 (some fr) (some 74) (some 60) l8' l9 x w) (WtP g0 0 (l' ++ (midL r f m n0 g4 n a ++ putL r f m n0 g4 fresh n y p' (pTo f a n)))) := fun p' l8' l' w h8' hp' hw hpw hl' => by
      have hCw := hw.1.1
      obtain ⟨-, -, -, -, pw0, -, pw3, pw4, -, -⟩ := id hpw
      have hmw : EqM w mk r m := hmk0.cf cfL_s hw.1.sf.2
      have hkm : qk w mk = 4 := by obtain ⟨ar, -, q, -⟩ := hmw; exact q.1
      have hnu : (qI w 60 0).toNatClampNeg = pNu f a := by rw [pw0]; rfl
      -- going on
      have g146 : ∀ (l2 : List Int32) (v : CS), WtP g0 0 l2 v → qI v 60 = qI w 60 → l2.length ≤ l'.length + (pTo f a n - a) → Ok (fX4_rewriteWith_146 58 (fX4_rewriteWith_24 58 z) (some row) (some mk) l3 g4 (some fr) (some 74) (some 60) l8' x v) (WtP g0 0 (l2 ++ putL r f m n0 g4 fresh n y p' (pTo f a n))) := fun l2 v hv ev hl2 => by
        unfold fX4_rewriteWith_146
        rw [Ok_ono]
        refine ⟨60, rfl, ?_⟩
        rw [Ok_gd, Ok_nam, Ok_nam, ev]
        generalize x + 1 = x' at e ⊢
        refine ⟨hv.1.1.pc hpc, ih (i + 1) (pTo f a n) y p' l8' _ x' v l2 (by omega) (by omega) pw4 (by omega) hlt.2.2 (by omega) h8' hp' ⟨_, _, hrest⟩ hv ?_⟩
        by_cases c : p' = 0
        · rw [pif_pos c] at hl' ⊢; omega
        · rw [pif_neg c] at hl' ⊢; omega
      unfold fX4_rewriteWith_82
      rw [Ok_ono]
      refine ⟨60, rfl, ?_⟩
      rw [Ok_gd, Ok_ono]
      refine ⟨hCw.pc hpc, mk, rfl, ?_⟩
      rw [Ok_gd]
      refine ⟨hkm, Ok.same (m_knownAt hmw) (fun o ho => ?_)⟩
      rw [hnu] at ho
      have ho : KnO w r m (pNu f a) o := ho
      have stay : ¬ goF r m n0 g4 (pNu f a) → Ok (fX4_rewriteWith_126 58 (fX4_rewriteWith_24 58 z) (some row) (some mk) l3 g4 (some fr) (some 74) (some 60) l8' l9 x o w) (WtP g0 0 (l' ++ (midL r f m n0 g4 n a ++ putL r f m n0 g4 fresh n y p' (pTo f a n)))) := fun hng => by
        unfold fX4_rewriteWith_126 fX4_rewriteWith_127
        rw [pif_pos rfl, Ok_gd]
        have em : midL r f m n0 g4 n a = pcB r f m a n (wrR r f (inM r m (pNu f a)) (pFr f a) (pTo f a n)) := by unfold midL; rw [pif_neg hng]
        refine ⟨hCw.2.2.2.2.1.1, Ok.callv (m_copyPiece r f n hn 12 (m_copyAllN r f n hn 12) row 0 m a n last gs l9 0 o w l' hrc (hI0.c hw.1.sf) (hB0.sw hrc hw.1) rfl (by omega) h9 (Nat.le_refl _) htm (by have := htm.1; omega) hpw ho hok hin hw.2.1 (by
          by_cases c : p' = 0
          · rw [pif_pos c] at hl'; omega
          · rw [pif_neg c] at hl'; omega)) (fun v hv => ?_)⟩
        have h6 := g146 _ v ⟨hw.1.tr hv.1, hv.2.1, fun j h1 => absurd h1 (by omega)⟩ (hv.2.2 0 (by omega) (by omega)) (by rw [List.length_append]; omega)
        rw [List.append_assoc] at h6
        rw [em]
        exact h6
      have goes : goF r m n0 g4 (pNu f a) → Ok (fX4_rewriteWith_122 58 (fX4_rewriteWith_24 58 z) (some row) (some mk) l3 g4 (some fr) (some 74) (some 60) l8' l9 x o w) (WtP g0 0 (l' ++ (midL r f m n0 g4 n a ++ putL r f m n0 g4 fresh n y p' (pTo f a n)))) := fun hg => by
        unfold fX4_rewriteWith_122 fX4_rewriteWith_127
        rw [pif_neg (by decide)]
        have em : midL r f m n0 g4 n a = [] := by unfold midL; rw [pif_pos hg]
        rw [em, List.nil_append]
        exact g146 l' w hw rfl (by omega)
      by_cases co : o = none
      · rw [pif_pos co]
        exact stay (fun q => ho.1.mpr q.1 co)
      · rw [pif_neg co]
        obtain ⟨H, eH⟩ := Option.ne_none_iff_exists'.mp co
        have hH := ho.2 H eH
        have hN := ho.1.mp co
        have en : (qI w H 0).toInt = pNu f a := hH.2.1
        have eg : qI w H 2 = grN r m (pNu f a) := hH.2.2.2.1
        have ec : qI w H 0 = l3 ↔ pNu f a = n0 := by rw [t_eq, en, h3]; omega
        have hono : ∀ {K : Nat → Option CS}, ono o K = K H := fun {K} => by rw [eH]; rfl
        rw [hono, Ok_gd, eg]
        refine ⟨hH.1.1, ?_⟩
        by_cases c1 : pNu f a = n0
        · rw [pif_pos (ec.mpr c1)]
          exact goes ⟨hN, Or.inl c1⟩
        · rw [pif_neg (fun q => c1 (ec.mp q))]
          by_cases c2 : g4 = 0
          · rw [pif_pos c2]
            exact stay (fun q => q.2.elim c1 (fun w => w.1 c2))
          · rw [pif_neg c2]
            by_cases c3 : grN r m (pNu f a) = g4
            · rw [pif_pos c3]
              exact goes ⟨hN, Or.inr ⟨c2, c3⟩⟩
            · rw [pif_neg c3]
              exact stay (fun q => q.2.elim c1 (fun w => c3 w.2))
    by_cases cp : p = 0
    · rw [pif_pos (p0.mpr cp)]
      rw [pif_pos cp] at hlen
      by_cases cn : n0 ≤ pNu f a
      · rw [pif_neg (by rw [t_lt, pi0, h3]; omega), Ok_ono]
        refine ⟨fr, rfl, ?_⟩
        obtain ⟨cap, hfrow⟩ := hf.fw hSu.1
        rw [Ok_gd]
        refine ⟨hfrow.1, Ok.call (c_size hfrow) (fun q3 u3 hu3 => ?_)⟩
        have e3 : q3 = qI u fr 1 := congrArg Prod.fst hu3
        have e4 : u3 = u := congrArg Prod.snd hu3
        subst e4
        have hfu := hfr0.sw hf hWu.1
        rw [Ok_ono]
        refine ⟨74, rfl, ?_⟩
        rw [Ok_gd]
        refine ⟨(hSu.1.rw isW74).1, Ok.callv (m_app (a := 0) (hSu.1.rw isW74) hWu.2.1 hfrow (hfu.b hbt) hf.n74 rfl (by rw [e3]; exact hfu.1) (Nat.zero_le _) (Nat.le_refl _) (by omega) (by omega)) (fun w hw => ?_)⟩
        rw [seg_ix] at hw
        have hww := hWu.pu hw
        have hpw : PcE w 60 f a n := by
          obtain ⟨q1, q2, q3, q4, q5, q6, q7, q8, q9, q10⟩ := hpe
          have ei : qI w 60 = qI u3 60 := hw.1.i (by simp)
          have ej : qJ w 60 = qJ u3 60 := hw.1.j (by simp)
          unfold PcE
          rw [ei, ej]
          exact ⟨hww.1.1.pc hpc, q2, q3, q4, q5, q6, q7, q8, q9, q10⟩
        have h6 := e82 1 1 _ w rfl (by omega) hww hpw (by rw [pif_neg (by decide), List.length_append]; omega)
        rw [putL_y (by omega) ⟨cp, cn⟩, ← List.append_assoc]
        exact h6
      · rw [pif_pos (by rw [t_lt, pi0, h3]; omega), putL_x (by omega) (fun q => cn q.2)]
        exact e82 p l8 l u h8 hp1 hWu hpe (by rw [pif_pos cp]; exact hlen)
    · rw [pif_neg (fun q => cp (p0.mp q)), putL_x (by omega) (fun q => cp q.1)]
      exact e82 p l8 l u h8 hp1 hWu hpe hlen
/-- rewriteWith(): the row with the fresh piece comes to 74 -/
theorem m_rwWith {r : RS} {f : Nat → Int32} {n row fr m mk n0 : Nat} {l3 g4 : Int32} {fresh : List Int32} {g : CS} (hn : n ≤ 120) (hrc : isRc row) (hf : isF2 fr) (hI : IR g r) (hB : RwB g row n f) (htm : tld r m) (hmk : EqM g mk r m) (h3 : l3.toInt = n0) (hfr : RwL g fr fresh) (hbt : BtL fresh) (hfl : fresh.length ≤ 136) (hSd : Sd r f m 0 n 0 0) : Ok (fX4_rewriteWith 58 (some row) (some mk) l3 g4 (some fr) (some 74) g) (fun t => Sw g t ∧ RwL t 74 (putL r f m n0 g4 fresh n (n + 1) 0 0)) := by
  have h := hI.1
  unfold fX4_rewriteWith
  rw [Ok_ono]
  refine ⟨74, rfl, ?_⟩
  rw [Ok_gd]
  refine ⟨(h.rw isW74).1, Ok.call (m_cut0 (h.rw isW74)) (fun q t ht => ?_)⟩
  have ht : PuL g 74 256 [] t := ht
  have hS := Sw.row h ht.1 ht.2.1
  obtain ⟨r1, r2, r3, r4, r5, r6, r7⟩ := hS.1.2.2.2.2.1
  simp only [Ok_gd, Ok_ono, Ok_nam]
  refine ⟨r1, 59, r3, r5, by rw [t_in, r6]; decide, ?_⟩
  rw [show (0 : Int32).toNatClampNeg = 0 from rfl, (r7 0 (by omega)).1]
  refine (m_rw24 r f n hn row fr m mk n0 l3 g4 fresh t hrc hf (hI.c hS.sf) (hB.sw hrc hS) htm (hmk.cf cfL_s hS.sf.2) h3 (hfr.sw hf hS) hbt fuel 0 0 (n + 1) 0 0 0 0 t [] rfl (by unfold fuel; omega) rfl (by omega) (by omega) (by omega) rfl (by omega) ⟨0, 0, hSd⟩ ⟨Sw.rf hS.1, ht.2.2, fun j h1 => absurd h1 (by omega)⟩ (by rw [pif_pos rfl]; show 0 + (n - 0) + fresh.length ≤ 256; omega)).mono (fun u hu => ⟨hS.tr hu.1, hu.2.1⟩)
/-- without a fresh piece: written anew -/
theorem putL_0 {st : RS} {f : Nat → Int32} {m b : Nat} : ∀ (w y a p last : Nat) (gs : Int32), SdX st f w m a b last gs → a ≤ b → b - a < y → p ≤ 1 → putL st f m 0 0 [] b y p a = wrR st f m a b := by
  intro w
  induction w with
  | zero => intro y a p last gs h; exact h.elim
  | succ w ih =>
    intro y a p last gs h hab hy hp
    obtain ⟨y, rfl⟩ : ∃ k, y = k + 1 := ⟨y - 1, by omega⟩
    by_cases c : a = b
    · rw [putL_n (by omega), wrR_n (by omega)]
      by_cases q : p = 0
      · rw [pif_pos q]
      · rw [pif_neg q]
    · have hSd : Sd st f m a b last gs := ⟨w + 1, h⟩
      rcases h with h | ⟨h1, h2, h3, h4⟩
      · exact absurd h c
      · have hlt := h1.lt
        have em : midL st f m 0 0 b a = pcB st f m a b (wrR st f (inM st m (pNu f a)) (pFr f a) (pTo f a b)) := by
          unfold midL
          rw [pif_neg (fun q => by
            rcases q.2 with q2 | q2
            · have := q.1.1; omega
            · exact q2.1 rfl)]
        rw [wrR_s hSd (by omega)]
        by_cases q : p = 0 ∧ 0 ≤ pNu f a
        · rw [putL_y (by omega) q, List.nil_append, em, ih y _ 1 _ _ h3 (by omega) (by omega) (by omega)]
        · rw [putL_x (by omega) q, em, ih y _ p _ _ h3 (by omega) (by omega) hp]
/-- rewrite(): written anew to 74 -/
theorem m_rewrite {r : RS} {f : Nat → Int32} {n row m mk : Nat} {g : CS} (hn : n ≤ 120) (hrc : isRc row) (hI : IR g r) (hB : RwB g row n f) (htm : tld r m) (hmk : EqM g mk r m) (hSd : Sd r f m 0 n 0 0) : Ok (fX4_rewrite 58 (some row) (some mk) (some 74) g) (fun t => Sw g t ∧ RwL t 74 (wrR r f m 0 n)) := by
  have h := hI.1
  have h68 : RwL g 68 [] := by
    have q := h.fw (r := 68) (cap := 0) (Or.inr ⟨rfl, rfl⟩)
    have q1 := q.2.2.2.2
    exact ⟨by show (qI g 68 1).toInt = 0; omega, Hs.nil⟩
  unfold fX4_rewrite
  rw [Ok_gd]
  obtain ⟨r1, r2, r3, r4, -⟩ := h.2.2.2.2.1
  rw [r4]
  refine ⟨r1, Ok.callv (m_rwWith (n0 := 0) hn hrc (Or.inr rfl) hI hB htm hmk rfl h68 BtL.nil (Nat.zero_le _) hSd) (fun t ht => ?_)⟩
  rw [Ok_some]
  obtain ⟨w, hw⟩ := hSd
  rw [putL_0 w (n + 1) 0 0 0 0 hw (by omega) (by omega) (by omega)] at ht
  exact ht

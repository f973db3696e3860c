/-- two varints, one behind the other, ahead of an end -/
def PcK (f : Nat → Int32) (P E k1 k2 : Nat) : Prop := Vd f P k1 ∧ Vd f (P + k1) k2 ∧ P + k1 + k2 ≤ E
theorem PcK.uniq {f : Nat → Int32} {P E E' k1 k2 j1 j2 : Nat} (h : PcK f P E k1 k2) (h' : PcK f P E' j1 j2) : j1 = k1 ∧ j2 = k2 := by
  have e := h.1.uniq h'.1
  subst e
  exact ⟨rfl, (h.2.1.uniq h'.2.1).symm⟩
/-- its key has a length -/
def plg (v : Int64) : Prop := v &&& 1 = 1
/-- a length beyond the end -/
def psh (v1 v2 : Int64) (fr E : Nat) : Prop := plg v1 ∧ (v2.toInt < 0 ∨ (E : Int) - fr < v2.toInt)
/-- where a piece ends -/
noncomputable def pto (v1 v2 : Int64) (fr E : Nat) : Int := pif (plg v1 ∧ ¬ psh v1 v2 fr E) ((fr : Int) + v2.toInt) fr
theorem pto_r (v1 v2 : Int64) (fr E : Nat) (h : fr ≤ E) : (fr : Int) ≤ pto v1 v2 fr E ∧ pto v1 v2 fr E ≤ E := by
  unfold pto
  by_cases c : plg v1 ∧ ¬ psh v1 v2 fr E
  · rw [pif_pos c]
    have h1 : ¬ (v2.toInt < 0 ∨ (E : Int) - fr < v2.toInt) := fun q => c.2 ⟨c.1, q⟩
    omega
  · rw [pif_neg c]
    omega
/-- what a piece tells -/
def PcV (f : Nat → Int32) (P E k1 k2 : Nat) (t : RS) : Prop := gI t 33 = pnum (vacc f P k1) ∧ gI t 34 = pif (plg (vacc f P k1)) 1 0 ∧ (gI t 35).toInt = (P + k1 + k2 : Nat) ∧ gJ t 37 = punf (vacc f (P + k1) k2) ∧ (gI t 36).toInt = pto (vacc f P k1) (vacc f (P + k1) k2) (P + k1 + k2) E
/-- what piece() does -/
def PcP (st : RS) (p e m last gs : Int32) (t : RS) : Prop := Fr [31, 32, 33, 34, 35, 36, 37, 38] [] st t ∧ ((∃ k1 k2, PcK (gF st 30) p.toNatClampNeg e.toNatClampNeg k1 k2 ∧ PcV (gF st 30) p.toNatClampNeg e.toNatClampNeg k1 k2 t ∧ gI t 38 = pfl st m.toNatClampNeg (gI t 33) (gI t 34) (psh (vacc (gF st 30) p.toNatClampNeg k1) (vacc (gF st 30) (p.toNatClampNeg + k1) k2) (p.toNatClampNeg + k1 + k2) e.toNatClampNeg) (gI t 35) (gI t 36) (gJ t 37) last gs) ∨ (gI t 38 = 1 ∧ ∀ k1 k2, ¬ PcK (gF st 30) p.toNatClampNeg e.toNatClampNeg k1 k2))
theorem pfl_short {st : RS} {m : Nat} {num lg a b last gs : Int32} {v : Int64} {A B : Prop} (h : A ↔ B) : pfl st m num lg A a b v last gs = pfl st m num lg B a b v last gs := by rw [propext h]
theorem pfl_st {st t : RS} {m : Nat} {num lg a b last gs : Int32} {v : Int64} {A : Prop} (h1 : gF t 1 = gF st 1) (h2 : gF t 2 = gF st 2) (h8 : gF t 8 = gF st 8) (h30 : gF t 30 = gF st 30) : pfl t m num lg A a b v last gs = pfl st m num lg A a b v last gs := by
  unfold pfl hasN
  rw [h1, h2, h8, h30]
theorem Fr.d {I F I' F' : List Nat} {a b : RS} (h : Fr I F a b) (hI : (I.all (fun k => I'.contains k)) = true) (hF : (F.all (fun k => F'.contains k)) = true) : Fr I' F' a b := h.wk (fun k hk => by have := List.all_eq_true.mp hI k hk; simpa using this) (fun k hk => by have := List.all_eq_true.mp hF k hk; simpa using this)
theorem r_piece {p e m last gs : Int32} {st : RS} (hp : 0 ≤ p.toInt) (hpe : p.toInt ≤ e.toInt) (he : e.toInt ≤ 160) (h1 : 0 ≤ m.toInt) (h2 : m.toInt < 8) : Ok (x9_piece p e m last gs st) (PcP st p e m last gs) := by
  unfold x9_piece
  simp only [Ok_nam]
  obtain ⟨s1, es1⟩ : ∃ s1, s1 = sI (sI st 38 1) 33 0 := ⟨_, rfl⟩
  rw [← es1]
  have hF1 : Fr [31, 32, 33, 34, 35, 36, 37, 38] [] st s1 := by rw [es1]; exact (Fr.rf.sI (by decide)).sI (by decide)
  have e38 : gI s1 38 = 1 := by rw [es1]; rfl
  refine Ok.call (r_varint p e hp (by omega) he s1) (fun r t hr => ?_)
  obtain ⟨hFt, hr⟩ := hr
  have hF2 : Fr [31, 32, 33, 34, 35, 36, 37, 38] [] st t := hF1.tr (hFt.d rfl rfl)
  have f30 : gF s1 30 = gF st 30 := (hF1.2 30 (by decide)).1
  rw [f30] at hr
  have en : (e.toNatClampNeg : Int) = e.toInt := by rw [t_nat]; omega
  have pn : (p.toNatClampNeg : Int) = p.toInt := by rw [t_nat]; omega
  have t38 : gI t 38 = 1 := ((hFt.1 38 (by decide)).1).trans e38
  simp only [Ok_pif, Ok_some]
  rcases hr with ⟨hr, k1, hk1, hle, h32, h31⟩ | ⟨hr, hno⟩
  case inr =>
    have hr : r = 0 := hr
    refine ⟨fun _ => ⟨hF2, Or.inr ⟨t38, fun k1 k2 hK => hno k1 hK.1 ?_⟩⟩, fun h => absurd hr h⟩
    have := hK.2.2
    omega
  have hr : r = 1 := hr
  have h32 : (gI t 32).toInt = p.toInt + k1 := h32
  have h31 : gJ t 31 = vacc (gF st 30) p.toNatClampNeg k1 := h31
  refine ⟨fun h => absurd (hr.symm.trans h) (by decide), fun _ => ?_⟩
  -- behind the key
  have h41 : ∀ s0 : Int32, s0 = pif (plg (vacc (gF st 30) p.toNatClampNeg k1)) 1 0 → Ok (x9_piece_41 e m last gs (gJ t 31) s0 t) (PcP st p e m last gs) := by
    intro s0 hs0
    have hs1 : s0 = 0 ∨ s0 = 1 := by
      rw [hs0]
      by_cases c : plg (vacc (gF st 30) p.toNatClampNeg k1)
      · rw [pif_pos c]; exact Or.inr rfl
      · rw [pif_neg c]; exact Or.inl rfl
    have h67 : Ok (x9_piece_67 e m last gs (pnum (gJ t 31)) (sI t 34 s0)) (PcP st p e m last gs) := by
      unfold x9_piece_67
      simp only [Ok_nam]
      obtain ⟨t2, et2⟩ : ∃ t2, t2 = sI (sI t 34 s0) 33 (pnum (gJ t 31)) := ⟨_, rfl⟩
      rw [← et2]
      have hF3 : Fr [31, 32, 33, 34, 35, 36, 37, 38] [] st t2 := by rw [et2]; exact (hF2.sI (by decide)).sI (by decide)
      have g32 : gI t2 32 = gI t 32 := by rw [et2]; rfl
      have g33 : gI t2 33 = pnum (vacc (gF st 30) p.toNatClampNeg k1) := by rw [et2, h31]; rfl
      have g34 : gI t2 34 = s0 := by rw [et2]; rfl
      have g38 : gI t2 38 = 1 := by rw [et2]; exact t38
      have g30 : gF t2 30 = gF st 30 := (hF3.2 30 (by decide)).1
      refine Ok.call (r_varint (gI t2 32) e (by rw [g32, h32]; omega) (by rw [g32, h32]; omega) he t2) (fun r u hu => ?_)
      obtain ⟨hFu, hu⟩ := hu
      have hF4 : Fr [31, 32, 33, 34, 35, 36, 37, 38] [] st u := hF3.tr (hFu.d rfl rfl)
      have u33 : gI u 33 = pnum (vacc (gF st 30) p.toNatClampNeg k1) := ((hFu.1 33 (by decide)).1).trans g33
      have u34 : gI u 34 = s0 := ((hFu.1 34 (by decide)).1).trans g34
      have u38 : gI u 38 = 1 := ((hFu.1 38 (by decide)).1).trans g38
      have en2 : (gI t2 32).toNatClampNeg = p.toNatClampNeg + k1 := by rw [t_nat, g32, h32]; omega
      rw [g30, en2, g32, h32] at hu
      simp only [Ok_pif, Ok_some, Ok_nam]
      rcases hu with ⟨hr2, k2, hk2, hle2, u32, u31⟩ | ⟨hr2, hno⟩
      case inr =>
        have hr2 : r = 0 := hr2
        refine ⟨fun _ => ⟨hF4, Or.inr ⟨u38, fun j1 j2 hK => ?_⟩⟩, fun h => absurd hr2 h⟩
        have := hk1.uniq hK.1
        subst this
        have := hK.2.2
        exact hno j2 hK.2.1 (by omega)
      have hr2 : r = 1 := hr2
      have u32 : (gI u 32).toInt = p.toInt + k1 + k2 := u32
      have u31 : gJ u 31 = vacc (gF st 30) (p.toNatClampNeg + k1) k2 := u31
      refine ⟨fun h => absurd (hr2.symm.trans h) (by decide), fun _ => ?_⟩
      obtain ⟨w, ew⟩ : ∃ w, w = sI (sJ u 37 (punf (gJ u 31))) 35 (gI u 32) := ⟨_, rfl⟩
      show (gI (sI (sJ u 37 (punf (gJ u 31))) 35 (gI u 32)) 34 = 0 → Ok (x9_piece_144 m last gs (sI (sJ u 37 (punf (gJ u 31))) 35 (gI u 32))) (PcP st p e m last gs)) ∧ (¬ gI (sI (sJ u 37 (punf (gJ u 31))) 35 (gI u 32)) 34 = 0 → (lg_cmp (gJ (sI (sJ u 37 (punf (gJ u 31))) 35 (gI u 32)) 31) 0 < 0 → Ok (x9_piece_140 m last gs (sI (sJ u 37 (punf (gJ u 31))) 35 (gI u 32))) (PcP st p e m last gs)) ∧ (¬ lg_cmp (gJ (sI (sJ u 37 (punf (gJ u 31))) 35 (gI u 32)) 31) 0 < 0 → (lg_cmp (gJ (sI (sJ u 37 (punf (gJ u 31))) 35 (gI u 32)) 31) (e - gI (sI (sJ u 37 (punf (gJ u 31))) 35 (gI u 32)) 32).toInt64 ≤ 0 → Ok (x9_piece_144 m last gs (sI (sJ u 37 (punf (gJ u 31))) 35 (gI u 32))) (PcP st p e m last gs)) ∧ (¬ lg_cmp (gJ (sI (sJ u 37 (punf (gJ u 31))) 35 (gI u 32)) 31) (e - gI (sI (sJ u 37 (punf (gJ u 31))) 35 (gI u 32)) 32).toInt64 ≤ 0 → Ok (x9_piece_140 m last gs (sI (sJ u 37 (punf (gJ u 31))) 35 (gI u 32))) (PcP st p e m last gs))))
      rw [← ew]
      have hF5 : Fr [31, 32, 33, 34, 35, 36, 37, 38] [] st w := by rw [ew]; exact (hF4.sJ (by decide)).sI (by decide)
      have w31 : gJ w 31 = vacc (gF st 30) (p.toNatClampNeg + k1) k2 := by rw [ew]; exact u31
      have w32 : (gI w 32).toInt = p.toInt + k1 + k2 := by rw [ew]; exact u32
      have w33 : gI w 33 = pnum (vacc (gF st 30) p.toNatClampNeg k1) := by rw [ew]; exact u33
      have w34 : gI w 34 = s0 := by rw [ew]; exact u34
      have w35 : (gI w 35).toInt = p.toInt + k1 + k2 := by rw [ew]; exact u32
      have w37 : gJ w 37 = punf (vacc (gF st 30) (p.toNatClampNeg + k1) k2) := by rw [ew, ← u31]; rfl
      have pr := pnum_r (vacc (gF st 30) p.toNatClampNeg k1)
      have hK : PcK (gF st 30) p.toNatClampNeg e.toNatClampNeg k1 k2 := ⟨hk1, hk2, by omega⟩
      have esub : (e - gI w 32).toInt = e.toInt - (p.toInt + k1 + k2) := by rw [t_sub (by omega) (by omega), w32]
      rw [lg_cmp_lt, lg_cmp_le, j_lt, j_le, j_of, esub, w31, w34, show (0 : Int64).toInt = 0 from rfl]
      -- the last stretch
      have fin : ∀ (sh to : Int32), (sh ≠ 0 ↔ psh (vacc (gF st 30) p.toNatClampNeg k1) (vacc (gF st 30) (p.toNatClampNeg + k1) k2) (p.toNatClampNeg + k1 + k2) e.toNatClampNeg) → to.toInt = pto (vacc (gF st 30) p.toNatClampNeg k1) (vacc (gF st 30) (p.toNatClampNeg + k1) k2) (p.toNatClampNeg + k1 + k2) e.toNatClampNeg → Ok (x9_piece_177 m last gs sh to w) (PcP st p e m last gs) := by
        intro sh to hsh hto
        have hr := pto_r (vacc (gF st 30) p.toNatClampNeg k1) (vacc (gF st 30) (p.toNatClampNeg + k1) k2) (p.toNatClampNeg + k1 + k2) e.toNatClampNeg hK.2.2
        refine (r_piece177 h1 h2 (by rw [w33]; exact pr.1) (by rw [w33]; exact pr.2) (by rw [w34]; exact hs1) (by omega) (by omega) (by omega) (by omega)).mono (fun x hx => ?_)
        rw [hx]
        refine ⟨(hF5.sI (by decide)).sI (by decide), Or.inl ⟨k1, k2, hK, ⟨w33, w34.trans hs0, ?_, w37, hto⟩, ?_⟩⟩
        · show (gI w 35).toInt = _
          omega
        · show pfl w m.toNatClampNeg (gI w 33) (gI w 34) (sh ≠ 0) (gI w 35) to (gJ w 37) last gs = pfl st m.toNatClampNeg (gI w 33) (gI w 34) _ (gI w 35) to (gJ w 37) last gs
          rw [pfl_short hsh]
          exact pfl_st (hF5.2 1 (by decide)).1 (hF5.2 2 (by decide)).1 (hF5.2 8 (by decide)).1 (hF5.2 30 (by decide)).1
      have hlo : plg (vacc (gF st 30) p.toNatClampNeg k1) ↔ ¬ s0 = 0 := by
        rw [hs0]
        by_cases c : plg (vacc (gF st 30) p.toNatClampNeg k1)
        · rw [pif_pos c]; exact ⟨fun _ => by decide, fun _ => c⟩
        · rw [pif_neg c]; exact ⟨fun h => absurd h c, fun h => absurd rfl h⟩
      have f140 : ¬ s0 = 0 → psh (vacc (gF st 30) p.toNatClampNeg k1) (vacc (gF st 30) (p.toNatClampNeg + k1) k2) (p.toNatClampNeg + k1 + k2) e.toNatClampNeg → Ok (x9_piece_140 m last gs w) (PcP st p e m last gs) := by
        intro hn hs
        have go := fin 1 (gI w 32) ⟨fun _ => hs, fun _ => by decide⟩ (by unfold pto; rw [pif_neg (fun h => h.2 hs)]; omega)
        unfold x9_piece_140 x9_piece_145 x9_piece_173
        simp only [Ok_pif, w34]
        exact ⟨fun h => absurd h hn, fun _ => ⟨fun h => absurd h (by decide), fun _ => go⟩⟩
      have f144 : ¬ psh (vacc (gF st 30) p.toNatClampNeg k1) (vacc (gF st 30) (p.toNatClampNeg + k1) k2) (p.toNatClampNeg + k1 + k2) e.toNatClampNeg → Ok (x9_piece_144 m last gs w) (PcP st p e m last gs) := by
        intro hs
        unfold x9_piece_144 x9_piece_145 x9_piece_173
        simp only [Ok_pif, w34]
        refine ⟨fun h => fin 0 (gI w 32) ⟨fun h => absurd rfl h, fun h => absurd h hs⟩ (by unfold pto; rw [pif_neg (fun q => (hlo.mp q.1) h)]; omega), fun hn => ⟨fun _ => ?_, fun h => absurd trivial h⟩⟩
        have hpl := hlo.mpr hn
        have hb : ¬ ((vacc (gF st 30) (p.toNatClampNeg + k1) k2).toInt < 0 ∨ (e.toNatClampNeg : Int) - (p.toNatClampNeg + k1 + k2 : Nat) < (vacc (gF st 30) (p.toNatClampNeg + k1) k2).toInt) := fun q => hs ⟨hpl, q⟩
        refine fin 0 _ ⟨fun h => absurd rfl h, fun h => absurd h hs⟩ ?_
        unfold pto
        rw [pif_pos ⟨hpl, hs⟩, w31]
        have e32 : ((vacc (gF st 30) (p.toNatClampNeg + k1) k2).toInt32).toInt = (vacc (gF st 30) (p.toNatClampNeg + k1) k2).toInt := by
          rw [Int64.toInt_toInt32]
          exact t_bm (by omega) (by omega)
        rw [t_add (by omega) (by omega), e32, w32]
        omega
      refine ⟨fun h => f144 (fun q => (hlo.mp q.1) h), fun hn => ⟨fun c => f140 hn ⟨hlo.mpr hn, Or.inl c⟩, fun c => ⟨fun d => f144 (fun q => ?_), fun d => f140 hn ⟨hlo.mpr hn, Or.inr (by omega)⟩⟩⟩⟩
      rcases q.2 with q | q <;> omega
    unfold x9_piece_41
    simp only [Ok_gd, Ok_nam, Ok_pif, lg_cmp_le]
    refine ⟨?_, fun c => ?_, fun c => ?_⟩
    · rcases hs1 with h | h <;> rw [h] <;> decide
    · have e : pnum (gJ t 31) = (hlf (gJ t 31)).toInt32 := by unfold pnum; exact if_pos c
      rw [e] at h67
      exact h67
    · have e : pnum (gJ t 31) = 0 := by unfold pnum; exact if_neg c
      rw [e] at h67
      exact h67
  simp only [Ok_nam, Ok_pif, lg_cmp_eq]
  refine ⟨fun c => h41 1 ?_, fun c => h41 0 ?_⟩
  · rw [pif_pos (by unfold plg; rw [← h31]; exact c)]
  · rw [pif_neg (by unfold plg; rw [← h31]; exact c)]

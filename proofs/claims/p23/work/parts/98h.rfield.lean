/-! places stay in the text -/
def LeN {α : Type} (n : Nat) (o : Option (α × Nat)) : Prop := ∀ z, o = some z → z.2 ≤ n
theorem LeN.no {α : Type} {n : Nat} : LeN n (none : Option (α × Nat)) := fun z h => by cases h
theorem LeN.if {α : Type} {n : Nat} {c : Prop} {a b : Option (α × Nat)} (ha : c → LeN n a) (hb : ¬ c → LeN n b) : LeN n (pif c a b) := by
  by_cases h : c
  · rw [pif_pos h]; exact ha h
  · rw [pif_neg h]; exact hb h
theorem LeN.map {α β : Type} {n : Nat} {o : Option (α × Nat)} {g : α × Nat → β} (h : LeN n o) : LeN n (o.map (fun z => (g z, z.2))) := fun z hz => by
  cases o with
  | none => cases hz
  | some y => cases hz; exact h y rfl
theorem clF_le {α : Type} {f : Nat → Int32} {n p : Nat} {x : α} : LeN n (clF f n p x) := LeN.if (fun c z hz => by cases hz; exact c.1) (fun _ => LeN.no)
theorem dfF_le {f : Nat → Int32} {n kd p : Nat} : LeN n (dfF f n kd p) := LeN.if (fun _ => LeN.if (fun _ => LeN.if (fun _ => clF_le) (fun _ => LeN.no)) (fun _ => LeN.if (fun _ => clF_le) (fun _ => LeN.no))) (fun _ => clF_le)
theorem gdF_le {f : Nat → Int32} {n kd p : Nat} : LeN n (gdF f n kd p) := fun z hz => by
  unfold gdF at hz
  cases h : gpF f n p with
  | none => rw [h] at hz; cases hz
  | some y =>
    rw [h] at hz
    exact LeN.map (g := fun z : (Int × Nat) × Nat => (y.1, z.1.1, z.1.2)) dfF_le z hz
theorem kkF_le {f : Nat → Int32} {n m kd e : Nat} {T : Nat → Prop} : LeN n (kkF f n m T kd e) := LeN.if (fun _ z hz => by
  cases h : rcF f n m T e with
  | none => rw [h] at hz; cases hz
  | some y =>
    rw [h] at hz
    exact LeN.map (g := fun z : (Nat × Int × Nat) × Nat => (kd, z.1.1, y.1, z.1.2.1, z.1.2.2)) gdF_le z hz) (fun _ => LeN.map (g := fun z : (Nat × Int × Nat) × Nat => (kd, z.1.1, (-1 : Int), z.1.2.1, z.1.2.2)) gdF_le)
theorem kdF_le {f : Nat → Int32} {n m p : Nat} {T : Nat → Prop} : LeN n (kdF f n m T p) := LeN.if (fun _ => LeN.no) (fun _ => kkF_le)
theorem tlF_le {f : Nat → Int32} {n m num e1 : Nat} {T : Nat → Prop} {L : List FdT} : LeN n (tlF f n m T L num e1) := LeN.if (fun _ => LeN.if (fun _ => clF_le) (fun _ => LeN.if (fun _ => LeN.map (g := fun z : (Nat × Nat × Int × Int × Nat) × Nat => ((num, rn blk f n e1, rn ltr f n (rn blk f n e1), z.1) : FdT)) kdF_le) (fun _ => LeN.no))) (fun _ => LeN.no)
theorem flF_le {f : Nat → Int32} {n m p : Nat} {T : Nat → Prop} {L : List FdT} : LeN n (flF f n m T L p) := LeN.if (fun _ => LeN.if (fun _ => LeN.no) (fun _ => tlF_le)) (fun _ => LeN.no)
/-- what the reading of a field leaves -/
def FF (F : Nat) (st t : RS) : Prop := Fr [11, 13, 14, 17, 18, 27] [1, 2, 3, 4, 5, 6, 7, 8] st t ∧ (∀ j, j ≠ F → gF t 1 j = gF st 1 j ∧ gF t 2 j = gF st 2 j ∧ gF t 3 j = gF st 3 j ∧ gF t 4 j = gF st 4 j ∧ gL t 5 j = gL st 5 j ∧ gL t 6 j = gL st 6 j ∧ gF t 8 j = gF st 8 j) ∧ (∀ j, j < 12 * F ∨ 12 * F + 12 ≤ j → gF t 7 j = gF st 7 j)
theorem FF.tr {F : Nat} {a b c : RS} (h : FF F a b) (k : FF F b c) : FF F a c := ⟨h.1.tr k.1, fun j hj => by
  obtain ⟨a1, a2, a3, a4, a5, a6, a7⟩ := h.2.1 j hj
  obtain ⟨b1, b2, b3, b4, b5, b6, b7⟩ := k.2.1 j hj
  exact ⟨b1.trans a1, b2.trans a2, b3.trans a3, b4.trans a4, b5.trans a5, b6.trans a6, b7.trans a7⟩, fun j hj => (k.2.2 j hj).trans (h.2.2 j hj)⟩
theorem FF.of {F : Nat} {I : List Nat} {st t : RS} (h : Fr I [] st t) (hI : (I.all (fun k => [11, 13, 14, 17, 18, 27].contains k)) = true) : FF F st t := ⟨h.d hI (by decide), fun j _ => ⟨by rw [(h.2 1 (by simp)).1], by rw [(h.2 2 (by simp)).1], by rw [(h.2 3 (by simp)).1], by rw [(h.2 4 (by simp)).1], by rw [(h.2 5 (by simp)).2], by rw [(h.2 6 (by simp)).2], by rw [(h.2 8 (by simp)).1]⟩, fun j _ => by rw [(h.2 7 (by simp)).1]⟩
theorem FF.k {F : Nat} {st t : RS} (h : KF F st t) : FF F st t := ⟨h.1.d (by decide) (by decide), fun j hj => by
  obtain ⟨a1, a2, a3⟩ := h.2.1 j hj
  exact ⟨by rw [(h.1.2 1 (by decide)).1], a1, a2, by rw [(h.1.2 4 (by decide)).1], by rw [(h.1.2 5 (by decide)).2], a3, by rw [(h.1.2 8 (by decide)).1]⟩, h.2.2⟩
theorem FF.s1 {F : Nat} {x : Int32} {st : RS} : FF F st (sF st 1 (upd (gF st 1) F x)) := ⟨Fr.rf.sF (by decide), fun j hj => ⟨upd_ne hj, rfl, rfl, rfl, rfl, rfl, rfl⟩, fun _ _ => rfl⟩
theorem FF.s2 {F : Nat} {x : Int32} {st : RS} : FF F st (sF st 2 (upd (gF st 2) F x)) := ⟨Fr.rf.sF (by decide), fun j hj => ⟨rfl, upd_ne hj, rfl, rfl, rfl, rfl, rfl⟩, fun _ _ => rfl⟩
theorem FF.s4 {F : Nat} {x : Int32} {st : RS} : FF F st (sF st 4 (upd (gF st 4) F x)) := ⟨Fr.rf.sF (by decide), fun j hj => ⟨rfl, rfl, rfl, upd_ne hj, rfl, rfl, rfl⟩, fun _ _ => rfl⟩
theorem FF.s8 {F : Nat} {x : Int32} {st : RS} : FF F st (sF st 8 (upd (gF st 8) F x)) := ⟨Fr.rf.sF (by decide), fun j hj => ⟨rfl, rfl, rfl, rfl, rfl, rfl, upd_ne hj⟩, fun _ _ => rfl⟩
theorem FF.s5 {F : Nat} {x : Int64} {st : RS} : FF F st (sL st 5 (vp_updL (gL st 5) F x)) := ⟨Fr.rf.sL (by decide), fun j hj => ⟨rfl, rfl, rfl, rfl, by show vp_updL (gL st 5) F x j = _; unfold vp_updL; rw [if_neg hj], rfl, rfl⟩, fun _ _ => rfl⟩
theorem FF.i27 {F : Nat} {x : Int32} {st : RS} : FF F st (sI st 27 x) := FF.of (Fr.rf.sI (I := [27]) (by decide)) (by decide)
/-- a field as the reference keeps it -/
def FdE (f : Nat → Int32) (m : Nat) (T : Nat → Prop) (x : FdT) (st : RS) : Prop := (1 ≤ fNum x ∧ fNum x ≤ 30) ∧ fKd x ≤ 6 ∧ (gF st 1 (31 * m + fNum x)).toInt = fKd x ∧ (gF st 2 (31 * m + fNum x)).toInt = fGr x ∧ (gF st 4 (31 * m + fNum x)).toInt = (fNb x - fNa x : Nat) ∧ fNb x - fNa x ≤ 8 ∧ (∀ j, j < fNb x - fNa x → ltr (f (fNa x + j))) ∧ gL st 5 (31 * m + fNum x) = pkv f (fNa x) (fNb x - fNa x) ∧ (fKd x ≠ 0 → (gF st 3 (31 * m + fNum x)).toInt = fIn x ∧ (fKd x = 6 → 0 ≤ fIn x ∧ fIn x < m ∧ T (fIn x).toNat) ∧ DfK f (fKd x) (31 * m + fNum x) st (fPv x) (fTa x))
theorem FdE.ff {f : Nat → Int32} {m : Nat} {T : Nat → Prop} {x : FdT} {F : Nat} {st t : RS} (h : FdE f m T x st) (hF : FF F st t) (hx : 31 * m + fNum x ≠ F) : FdE f m T x t := by
  obtain ⟨h1, h2, h3, h4, h5, h6, h7, h8, h9⟩ := h
  obtain ⟨a1, a2, a3, a4, a5, a6, a7⟩ := hF.2.1 _ hx
  refine ⟨h1, h2, by rw [a1]; exact h3, by rw [a2]; exact h4, by rw [a4]; exact h5, h6, h7, by rw [a5]; exact h8, fun hk => ?_⟩
  obtain ⟨b1, b2, b3, b4⟩ := h9 hk
  refine ⟨by rw [a3]; exact b1, b2, by rw [a6]; exact b3, fun h5 => ?_⟩
  obtain ⟨c1, c2, c3⟩ := b4 h5
  refine ⟨c1, c2, fun j hj => ?_⟩
  rw [hF.2.2 _ (by omega)]
  exact c3 j hj
/-- the fields of a make that the reference has taken -/
def RfI (f : Nat → Int32) (m : Nat) (T : Nat → Prop) (L : List FdT) (st : RS) : Prop := (∀ j, j < 31 → (gF st 8 (31 * m + j) ≠ 0 ↔ seenN L j)) ∧ (∀ x, x ∈ L → FdE f m T x st) ∧ (gI st 27).toInt = L.length
theorem RfI.add {f : Nat → Int32} {m : Nat} {T : Nat → Prop} {L : List FdT} {x : FdT} {st t : RS} (h : RfI f m T L st) (hF : FF (31 * m + fNum x) st t) (hx : FdE f m T x t) (hn : ¬ seenN L (fNum x)) (h8 : gF t 8 (31 * m + fNum x) ≠ 0) (h27 : (gI t 27).toInt = (gI st 27).toInt + 1) : RfI f m T (x :: L) t := by
  refine ⟨fun j hj => ?_, fun y hy => ?_, ?_⟩
  · by_cases c : j = fNum x
    · rw [c]
      exact ⟨fun _ => ⟨x, List.mem_cons_self, rfl⟩, fun _ => h8⟩
    · rw [(hF.2.1 (31 * m + j) (by omega)).2.2.2.2.2.2, h.1 j hj]
      constructor
      · rintro ⟨y, hy, e⟩
        exact ⟨y, List.mem_cons_of_mem _ hy, e⟩
      · rintro ⟨y, hy, e⟩
        rcases List.mem_cons.mp hy with q | q
        · exact absurd (by rw [← e, q]) c
        · exact ⟨y, q, e⟩
  · rcases List.mem_cons.mp hy with q | q
    · rw [q]; exact hx
    · exact (h.2.1 y q).ff hF (fun e => hn ⟨y, q, by omega⟩)
  · rw [h27, h.2.2]
    rfl

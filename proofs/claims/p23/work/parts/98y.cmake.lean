/-! class: its world behind a text that was read -/
theorem CI.lw {g : CS} (h : CI g) : LwI g := by
  obtain ⟨-, -, -, -, -, -, h7, h8, -⟩ := h
  obtain ⟨a1, a2, a3, a4, a5, a6, b, a7, a8, a9, a10, a11, a12, a13, a14, a15⟩ := h7
  have e : lb g = b := by unfold lb; rw [a7]; rfl
  unfold LwI
  rw [e]
  exact ⟨a5, a6, a7, a8, a9, a10, a11, a12, a13, a14, a15, h8.1⟩
theorem StO.tf {A B : Int} {s : Nat} {g t : CS} (h : StO g s) (hT : Tf 46 A B g t) (h5 : qk g 45 = 9) (hL : LwI g) : StO t s := by
  obtain ⟨s1, s2, s3, c0, s4, s5, s6, s7⟩ := h
  obtain ⟨⟨t1, t2⟩, t3, t4, t5, -, -⟩ := hT
  have l1 := hL.1
  have l4 := hL.2.2.2.1
  have n1 : s ≠ 45 := fun q => by rw [q, h5] at s1; cases s1
  have n2 : s ≠ 46 := fun q => by rw [q, l1] at s1; cases s1
  have n4 : s ≠ lb g := fun q => by rw [q, l4] at s1; cases s1
  have eP : qP t s = qP g s := t5 s (by omega) n2 n2
  have eI : qI t s = qI g s := (t4 s (by omega) n1 n2 n2 n4).1
  exact ⟨by rw [(t3 s (by omega)).1]; exact s1, ⟨s2.1, by omega⟩, by rw [eI]; exact s3, c0, by rw [eP]; exact s4, by rw [(t3 c0 (by omega)).1]; exact s5, by rw [(t3 c0 (by omega)).2]; exact s6, ⟨s7.1, by omega⟩⟩
theorem FdO.tf {A B : Int} {s : Nat} {g t : CS} (h : FdO g s) (hT : Tf 46 A B g t) (h5 : qk g 45 = 9) (hL : LwI g) : FdO t s := by
  obtain ⟨h1, h2, h0, ⟨a, h3, h4⟩, b, h6, h7⟩ := h
  obtain ⟨⟨t1, t2⟩, t3, t4, t5, -, -⟩ := id hT
  have l4 := hL.2.2.2.1
  have n4 : s ≠ lb g := fun q => by rw [q, l4] at h1; cases h1
  have eP : qP t s = qP g s := t5 s (by omega) (by omega) (by omega)
  have eI : qI t s = qI g s := (t4 s (by omega) (by omega) (by omega) (by omega) n4).1
  exact ⟨by rw [(t3 s (by omega)).1]; exact h1, ⟨h2.1, by omega⟩, by rw [eI]; exact h0, ⟨a, by rw [eP]; exact h3, h4.tf hT h5 hL⟩, b, by rw [eP]; exact h6, h7.tf hT h5 hL⟩
theorem MkO.tf {A B : Int} {m : Nat} {g t : CS} (h : MkO g m) (hT : Tf 46 A B g t) (h5 : qk g 45 = 9) (hL : LwI g) : MkO t m := by
  obtain ⟨h1, h2, a, h3, h4, h6, h7, h8⟩ := h
  obtain ⟨⟨t1, t2⟩, t3, t4, t5, -, -⟩ := id hT
  have eP : qP t m = qP g m := t5 m (by omega) (by omega) (by omega)
  have eA : qP t a = qP g a := t5 a (by omega) (by omega) (by omega)
  exact ⟨by rw [(t3 m (by omega)).1]; exact h1, ⟨h2.1, by omega⟩, a, by rw [eP]; exact h3, by rw [(t3 a (by omega)).1]; exact h4, by rw [(t3 a (by omega)).2]; exact h6, ⟨h7.1, by omega⟩, fun n hn f hf => (h8 n hn f (by rw [← eA]; exact hf)).tf hT h5 hL⟩
theorem RowI.tf {A B : Int} {r cap : Nat} {g t : CS} (h : RowI g r cap) (hT : Tf 46 A B g t) (hL : LwI g) (h1 : 32 ≤ r) (h2 : r < 76) (h3 : r ≠ 45 ∧ r ≠ 46 ∧ r ≠ 47) : RowI t r cap := by
  obtain ⟨a1, a2, a3, a4, a5, a6, a7⟩ := h
  obtain ⟨⟨t1, t2⟩, t3, t4, t5, -, -⟩ := hT
  have l9 := hL.2.2.2.2.2.2.2.2.1
  have l12 := hL.n46
  have eI : qI t r = qI g r := (t4 r (by omega) (by omega) (by omega) (by omega) (by omega)).1
  exact ⟨by rw [(t3 r (by omega)).1]; exact a1, by rw [t5 r (by omega) (by omega) (by omega)]; exact a2, by rw [(t3 (r + 1) (by omega)).1]; exact a3, by rw [(t3 (r + 1) (by omega)).2]; exact a4, by rw [eI]; exact a5, by rw [eI]; exact a6, a7⟩
theorem CI.tf {A B : Int} {g t : CS} (h : CI g) (hT : Tf 46 A B g t) (hL : LwI t) : CI t := by
  have hg := h.lw
  have l9 := hg.2.2.2.2.2.2.2.2.1
  have l12 := hg.n46
  obtain ⟨h1, h2, h3, h4, h5, h6, h7, h8, h9, hR⟩ := h
  have e45 : qk g 45 = 9 := h7.1
  obtain ⟨⟨t1, t2⟩, t3, t4, t5, -, -⟩ := id hT
  have fk : ∀ i, i < 106 → qk t i = qk g i := fun i hi => (t3 i (by omega)).1
  have fl : ∀ i, i < 106 → ql t i = ql g i := fun i hi => (t3 i (by omega)).2
  have fp : ∀ i, i < 106 → i ≠ 46 → qP t i = qP g i := fun i hi h => t5 i (by omega) h h
  have fi : ∀ i, i < 106 → i ≠ 45 → i ≠ 46 → i ≠ 47 → qI t i = qI g i := fun i hi a b c => (t4 i (by omega) a b b (by omega)).1
  refine ⟨?_, ?_, ?_, ?_, ?_, ?_, ?_, ?_, h9.tf hT hg (by decide) (by decide) (by decide), ?_⟩
  · unfold CI1 at *; rw [fk 32 (by decide), fp 32 (by decide) (by decide)]; exact h1
  · unfold CI2 at *; rw [fk 35 (by decide), fl 35 (by decide), fp 35 (by decide) (by decide)]; exact h2
  · exact ⟨by rw [fk 44 (by decide)]; exact h3.1, by rw [fl 44 (by decide)]; exact h3.2.1, fun j hj m hm => (h3.2.2 j hj m (by rw [← fp 44 (by decide) (by decide)]; exact hm)).tf hT e45 hg⟩
  · obtain ⟨a1, a2, a3, a4, a5, a6⟩ := h4
    exact ⟨by rw [fk 48 (by decide)]; exact a1, by rw [fp 48 (by decide) (by decide)]; exact a2, by rw [fp 48 (by decide) (by decide)]; exact a3, by rw [fk 49 (by decide)]; exact a4, by rw [fl 49 (by decide)]; exact a5, fun j hj => ⟨by rw [fp 49 (by decide) (by decide)]; exact (a6 j hj).1, by rw [fk (50 + j) (by omega)]; exact (a6 j hj).2⟩⟩
  · obtain ⟨a1, a2, a3, a3', a4, a5, a6⟩ := h5
    exact ⟨by rw [fk 58 (by decide)]; exact a1, by rw [fp 58 (by decide) (by decide)]; exact a2, by rw [fp 58 (by decide) (by decide)]; exact a3, by rw [fp 58 (by decide) (by decide)]; exact a3', by rw [fk 59 (by decide)]; exact a4, by rw [fl 59 (by decide)]; exact a5, fun j hj => ⟨by rw [fp 59 (by decide) (by decide)]; exact (a6 j hj).1, by rw [fk (60 + j) (by omega)]; exact (a6 j hj).2⟩⟩
  · unfold CI6 at *; rw [fk 70 (by decide), fp 70 (by decide) (by decide), fk 71 (by decide), fl 71 (by decide)]; exact h6
  · obtain ⟨a1, a2, a3, a4, -⟩ := h7
    obtain ⟨b1, b2, b3, b4, b5, b6, b7, b8, b9, b10, b11, b12⟩ := hL
    exact ⟨by rw [fk 45 (by decide)]; exact a1, by rw [fp 45 (by decide) (by decide)]; exact a2, by rw [fp 45 (by decide) (by decide)]; exact a3, by rw [fp 45 (by decide) (by decide)]; exact a4, b1, b2, lb t, b3, b4, b5, b6, b7, b8, b9, b10, b11⟩
  · refine ⟨by omega, fun i hi => ?_⟩
    obtain ⟨a1, a2, a3, a4, a5, a6⟩ := h8.2 i hi
    exact ⟨by rw [fk i (by omega)]; exact a1, by rw [fp i (by omega) (by omega)]; exact a2, by rw [fi i (by omega) (by omega) (by omega) (by omega)]; exact a3, by rw [fk (9 + i) (by omega)]; exact a4, by rw [fl (9 + i) (by omega)]; exact a5, by rw [fi (9 + i) (by omega) (by omega) (by omega) (by omega)]; exact a6⟩
  · obtain ⟨r1, r2, r3, r4, r5, r6, r7⟩ := hR
    exact ⟨r1.tf hT hg (by decide) (by decide) (by decide), r2.tf hT hg (by decide) (by decide) (by decide), r3.tf hT hg (by decide) (by decide) (by decide), r4.tf hT hg (by decide) (by decide) (by decide), r5.tf hT hg (by decide) (by decide) (by decide), r6.tf hT hg (by decide) (by decide) (by decide), r7.tf hT hg (by decide) (by decide) (by decide)⟩
/-- a make is put into the row of makes -/
theorem MkO.p4 {g : CS} {x j m : Nat} (h : MkO g x) : MkO (wP g 44 j (some m)) x := by
  obtain ⟨h1, h2, a, h3, h4, h6, h7, h8⟩ := h
  refine ⟨h1, h2, a, by rw [qP_wo (by omega)]; exact h3, h4, h6, h7, fun n hn f hf => ?_⟩
  rw [qP_wo (by omega)] at hf
  obtain ⟨k1, k2, k0, ⟨b, k3, k4⟩, c, k6, k7⟩ := h8 n hn f hf
  have st : ∀ s, StO g s → StO (wP g 44 j (some m)) s := fun s hs => by
    obtain ⟨s1, s2, s3, c0, s4, s5⟩ := hs
    exact ⟨s1, s2, s3, c0, by rw [qP_wo (by omega)]; exact s4, s5⟩
  exact ⟨k1, k2, k0, ⟨b, by rw [qP_wo (by omega)]; exact k3, st b k4⟩, c, by rw [qP_wo (by omega)]; exact k6, st c k7⟩
theorem CI.p4 {g : CS} {j m : Nat} (h : CI g) (hm : MkO g m) : CI (wP g 44 j (some m)) := by
  obtain ⟨h1, h2, h3, h4, h5, h6, h7, h8, h9, hR⟩ := h
  have fp : ∀ i, i ≠ 44 → qP (wP g 44 j (some m)) i = qP g i := fun i h => qP_wo h
  have rw' : ∀ r cap, r ≠ 44 → RowI g r cap → RowI (wP g 44 j (some m)) r cap := fun r cap hr hh => by
    obtain ⟨a1, a2, a3⟩ := hh
    exact ⟨a1, by rw [fp r hr]; exact a2, a3⟩
  refine ⟨?_, ?_, ?_, ?_, ?_, ?_, ?_, ?_, rw' 33 400 (by decide) h9, ?_⟩
  · unfold CI1 at *; rw [fp 32 (by decide)]; exact h1
  · unfold CI2 at *; rw [fp 35 (by decide)]; exact h2
  · refine ⟨h3.1, h3.2.1, fun i hi x hx => ?_⟩
    rw [qP_wP, if_pos rfl] at hx
    by_cases c : i = j
    · rw [if_pos c] at hx
      cases hx
      exact hm.p4
    · rw [if_neg c] at hx
      exact (h3.2.2 i hi x hx).p4
  · unfold CI4 at *; rw [fp 48 (by decide), fp 49 (by decide)]; exact h4
  · unfold CI5 at *; rw [fp 58 (by decide), fp 59 (by decide)]; exact h5
  · unfold CI6 at *; rw [fp 70 (by decide)]; exact h6
  · unfold CI7 at *; rw [fp 45 (by decide), fp 46 (by decide)]; exact h7
  · refine ⟨h8.1, fun i hi => ?_⟩
    obtain ⟨a1, a2, a3⟩ := h8.2 i hi
    exact ⟨a1, by rw [fp i (by omega)]; exact a2, a3⟩
  · obtain ⟨r1, r2, r3, r4, r5, r6, r7⟩ := hR
    exact ⟨rw' 36 _ (by decide) r1, rw' 38 _ (by decide) r2, rw' 40 _ (by decide) r3, rw' 42 _ (by decide) r4, rw' 68 _ (by decide) r5, rw' 72 _ (by decide) r6, rw' 74 _ (by decide) r7⟩
/-- the make that was told is a make -/
theorem MbI.mk {f : Nat → Int32} {L : List FdT} {mk ar : Nat} {g : CS} (h : MbI f L mk ar g) : MkO g mk := by
  obtain ⟨⟨m1, m2, m3⟩, ⟨m4, m5, m6⟩, m7, m8, m9, m10, m11⟩ := h
  refine ⟨m1, ⟨m2, m3⟩, ar, m7, m4, m8, ⟨m5, m6⟩, fun n hn F hF => ?_⟩
  obtain ⟨y, y1, y2⟩ := (m10 n hn).mp (by rw [hF]; exact fun h => by cases h)
  obtain ⟨H, k1, ⟨h1, h2, h3⟩, ⟨h4, -⟩, h6, h7, h8, h9, ⟨s, h10, h11⟩, ⟨s', l, h12, h13, h14⟩, h15⟩ := m11 y y1
  rw [y2, hF] at k1
  cases k1
  exact ⟨h1, ⟨h2, h3⟩, by omega, ⟨s, h10, h11.1⟩, s', h12, h13.1⟩

/-! every call on both sides -/
theorem Ok.and {α : Type} {x : Option α} {P Q : α → Prop} (h : Ok x P) (k : Ok x Q) : Ok x (fun r => P r ∧ Q r) := by
  obtain ⟨r, e, hr⟩ := h
  obtain ⟨r', e', hr'⟩ := k
  rw [e] at e'
  cases e'
  exact ⟨r, e, hr, hr'⟩
theorem IM.c {g t : CS} {r : RS} (h : IM g r) (hS : Sf g t) : IM t r := ⟨h.1.c hS, h.2.c hS⟩
theorem IM.r {g : CS} {r t : RS} (h : IM g r) (hK : Kp r t) : IM g t := ⟨h.1.r hK, h.2.kp hK⟩
theorem IM.t {g : CS} {r : RS} {n : Int32} (h : IM g r) (h0 : 0 ≤ n.toInt) (h1 : n.toInt ≤ (gI r 10).toInt) : IM (wI g 33 1 n) (sI r 10 n) := ⟨h.1.t h0 h1, (h.2.cf (S := [33]) (by simp) (Cf.rf.wI (by simp))).r (fun _ _ _ => ⟨rfl, rfl⟩)⟩
theorem IM.e {g u : CS} {r t : RS} (h : IM g r) (hS : Sf g u) (hK : Kp r t) : IM (wI u 33 1 0) (sI t 10 0) := by
  have h2 := (h.c hS).r hK
  exact h2.t (by decide) (by show (0 : Int) ≤ _; exact h2.1.bd.1)
theorem r_fault {w : Int32} {st : RS} : Ok (x9_fault w st) (fun q => q.2 = st) := by
  unfold x9_fault
  simp only [Ok_pif, Ok_some]
  exact ⟨fun _ => trivial, fun _ => ⟨fun _ => trivial, fun _ => trivial⟩⟩
theorem r_by {st : RS} : Ok (x9_by st) (fun q => q = (gI st 59, st)) := by
  unfold x9_by
  rw [Ok_some]
theorem m_by {g : CS} (h : CI g) : Ok (fX8_by 32 g) (fun q => q = (qI g 32 11, g)) := by
  unfold fX8_by
  rw [Ok_gd, Ok_some]
  exact ⟨h.1.1, rfl⟩

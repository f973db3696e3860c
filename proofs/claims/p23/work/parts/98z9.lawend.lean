theorem rst0_told : ∀ j, gF rst0 0 j = 0 := fun _ => rfl
theorem rst0_I {P : Prop} : MkI rst0 := fun m n hm ht => absurd (rst0_told m) ht
theorem rst0_RI : RI rst0 := ⟨fun m n hm ht => absurd (rst0_told m) ht, fun r hr => by
  have e : gF rst0 29 r = 0 := rfl
  rw [e]
  decide, by decide, by decide⟩
theorem IC0.inn {g : CS} (h : IC0 g) : IN (skip g 30) rst0 := by
  obtain ⟨h1, h2, h3, h4, h5, -⟩ := h
  refine ⟨h3, rst0_RI, ⟨?_, fun j hj => ?_⟩, fun j hj => ⟨fun _ => rst0_told j, fun _ => h4 j⟩, fun _ _ _ => rfl⟩
  · show qI g 33 1 = _
    rw [h5]
    rfl
  · have e : (gI rst0 10).toInt = 0 := rfl
    rw [e] at hj
    omega
/-- what stands ahead of the first call -/
theorem IC0.rc {g : CS} (h : IC0 g) : RcE (skip g 30) rst0 := fun j hj => by
  have e0 : rbN rst0 j = 0 := rfl
  obtain ⟨a, b, c, d⟩ := h.2.2.2.2.2.2.2
  refine ⟨?_, fun k hk => absurd hk (by rw [e0]; omega)⟩
  rw [e0]
  show (qI g (36 + 2 * j) 1).toInt = _
  rcases (show j = 0 ∨ j = 1 ∨ j = 2 ∨ j = 3 by omega) with q | q | q | q
  · rw [q, a]; rfl
  · rw [q, b]; rfl
  · rw [q, c]; rfl
  · rw [q, d]; rfl
theorem IC0.ij {g : CS} (h : IC0 g) : IJ (skip g 30) rst0 := ⟨⟨⟨h.inn, fun j _ mk hm => by
  have := h.2.2.2.1 j
  rw [show qP (skip g 30) 44 j = qP g 44 j from rfl, this] at hm
  cases hm⟩, fun a b c d _ _ _ _ => Or.inl (h.2.2.2.2.2.2.1 _), h.2.2.2.2.2.1⟩, h.rc⟩
theorem lawAll_ok {L : Nat} (hL : L ≤ 3072) (xs : Nat → Int32) : lawAll L xs = some 1 := by
  have h : Ok (lawAll L xs) (fun x => x = 1) := by
    unfold lawAll
    rw [Ok_nam]
    refine Ok.callv e_init (fun c1 hc => ?_)
    obtain ⟨h1, h2, -⟩ := id hc
    rw [Ok_gd, Ok_nam]
    refine ⟨⟨by omega, by omega⟩, ?_⟩
    exact law_all L hL xs 600 0 0 (skip c1 30) rst0 rfl (by omega) (by omega) hc.ij (by show qn c1 + 30 ≤ _; omega) (by show qs c1 ≤ _; omega)
  obtain ⟨x, e, hx⟩ := h
  rw [e, hx]

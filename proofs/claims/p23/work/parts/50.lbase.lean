/-- ids without a kind: the cells of others -/
def skip (c : CS) (n : Nat) : CS := ((c.1.1 + n, c.1.2), c.2)
/-- where the reference's cells lie -/
def aR (h : Nat) (a : Nat → Nat) : Nat → Prop := fun x => x = h ∨ ∃ k, k ∈ rArr ∧ x = a k
theorem RW_adr {h : Nat} {a : Nat → Nat} {ca : Nat → ClassId} {r : RS} {k : Nat} {q : Nat × va_E} (hq : (RW h a ca r)[k]? = some q) : aR h a q.1 := by
  cases k with
  | zero =>
    cases hq
    exact Or.inl rfl
  | succ k =>
    unfold RW at hq
    rw [List.getElem?_cons_succ, List.getElem?_map] at hq
    cases hk : rArr[k]? with
    | none => rw [hk] at hq; cases hq
    | some j =>
      rw [hk] at hq
      cases hq
      exact Or.inr ⟨j, List.mem_of_getElem? hk, rfl⟩
theorem RW_A {h : Nat} {a : Nat → Nat} {ca : Nat → ClassId} {r : RS} {sz x : Nat} (hx : va_A (RW h a ca r) sz x) : aR h a x ∨ sz ≤ x := by
  rcases hx with ⟨k, e, hk⟩ | hx
  · exact Or.inl (RW_adr hk)
  · exact Or.inr hx
/-- both sides' cells, apart -/
def Lp (D : va_G) (ka ad : Nat → Nat) (ct : Nat → ClassId) (h : Nat) (a : Nat → Nat) (ca : Nat → ClassId) (A : Nat → Prop) (H0 : Heap) (c : CS) (r : RS) (H : Heap) (locs : List Loc) : Prop := Cp D ka ad ct A H0 c H locs ∧ Rp D h a ca A H0 r H locs ∧ ∀ x, aR h a x → x < H.size ∧ ∀ i, 32 ≤ i → qk c i ≠ 0 → ad i ≠ x
section LL
variable {p : Program} {l : Launch} {e : Env} {R : Room} {s : State} {m : MethodId} {args : Array Value} {below : List Frame} {meth : Method} {c : Code} {H : Heap} {locs : List Loc} {cells slots : Nat} {Q : State → Prop}
variable {pc : Nat} {ls : Array Slot} {rest : List Value} {D : va_G} {A : Nat → Prop} {H0 : Heap} {ka ad : Nat → Nat} {ct : Nat → ClassId} {h : Nat} {a : Nat → Nat} {ca : Nat → ClassId} {g g2 : CS} {r r2 : RS} {mc ms : Nat} {st0 : List Value} {av : Array Value}
theorem W.sized {fr : JFrame} (k : H.size ≤ s.heap.size + cells → W p l e R s m args below meth c H locs cells slots Q fr) : W p l e R s m args below meth c H locs cells slots Q fr := fun T hT X => k (by rw [← hT]; exact X.same.2.2.1) T hT X
theorem Lp.ofC {t : State} {H1 : Heap} {locs1 : List Loc} (hq : Lp D ka ad ct h a ca A H0 g r H locs) (hA : ∀ q, H0.size ≤ q → A q) (hmo : Mo g g2) (hB : CB D ct ka ad g2 (aC ad g H.size) t) (ht : t.heap = H1) (hz : H.size ≤ H1.size) (hk : ∀ q : Nat, q < H.size → ¬ aC ad g H.size q → H1[q]? = H[q]?) (hS : va_S A H0 H1 locs1) : Lp D ka ad ct h a ca A H0 g2 r H1 locs1 := by
  obtain ⟨h1, h2, h3⟩ := hq
  refine ⟨Cp.back hA h1 hB ht hS, ⟨fun k q hkq => ?_, h2.2.1, hS⟩, fun x hx => ⟨Nat.lt_of_lt_of_le (h3 x hx).1 hz, fun i hi hl => ?_⟩⟩
  · have hx := RW_adr hkq
    refine (h2.1 k q hkq).kept (hk q.1 (h3 q.1 hx).1 (fun hc => ?_))
    rcases hc with ⟨i, i1, i2, i3⟩ | hc
    · exact (h3 q.1 hx).2 i i1 i2 i3.symm
    · exact absurd (h3 q.1 hx).1 (Nat.not_lt.mpr hc)
  · rcases Nat.lt_or_ge i (qn g) with hlt | hge
    · rw [(hmo.2.2 i hlt).1] at hl
      exact (h3 x hx).2 i hi hl
    · have e := h1.2.2.2 (i - qn g)
      rw [show qn g + (i - qn g) = i by omega] at e
      have := (h3 x hx).1
      omega
theorem Lp.refer {t : State} {H1 : Heap} {locs1 : List Loc} (hq : Lp D ka ad ct h a ca A H0 g r H locs) (hA : ∀ q, H0.size ≤ q → A q) (hB : Bq D (fun _ : Unit => RW h a ca r2) (fun _ => []) (va_A (RW h a ca r) H.size) () t) (ht : t.heap = H1) (hz : H1.size = H.size) (hk : ∀ q : Nat, q < H.size → ¬ va_A (RW h a ca r) H.size q → H1[q]? = H[q]?) (hS : va_S A H0 H1 locs1) : Lp D ka ad ct h a ca A H0 g r2 H1 locs1 := by
  obtain ⟨h1, h2, h3⟩ := hq
  refine ⟨⟨fun i hi hl => ⟨(h1.1 i hi hl).1.kept (hk _ (h1.1 i hi hl).1.lt (fun hc => ?_)), (h1.1 i hi hl).2⟩, hS, h1.2.2.1, by rw [hz]; exact h1.2.2.2⟩, Rp.back hA h2 hB ht hS, by rw [hz]; exact h3⟩
  rcases RW_A hc with hx | hx
  · exact (h3 _ hx).2 i hi hl rfl
  · exact absurd (h1.1 i hi hl).1.lt (Nat.not_lt.mpr hx)
theorem l_ci {r0 : Int32} (hq : Lp D ka ad ct h a ca A H0 g r H locs) (hA : ∀ q, H0.size ≤ q → A q) (hmo : Mo g g2) (hr : va_Run p l e R s m args below meth c H locs cells slots mc ms (F0 m pc ls st0) rest (va_Qi (fun r (_ : Unit) => r = r0) (fun _ => CB D ct ka ad g2 (aC ad g H.size)) (aC ad g H.size) av) (aC ad g H.size))
    (kk : ∀ (H : Heap) (locs : List Loc), Lp D ka ad ct h a ca A H0 g2 r H locs → W p l e R s m args below meth c H locs (cells + mc) (slots + ms) Q (F0 m (pc + 3) ls (.int r0 :: rest))) : W p l e R s m args below meth c H locs cells slots Q (F0 m pc ls st0) :=
  va_calli hr hq.1.2.1 (fun q _ h => q_free hq.1 hA q h) (q_free hq.1 hA) (fun r u t H1 locs ht hvm hw hB hz1 hk1 hS => by subst hw; exact kk H1 locs (hq.ofC hA hmo hB ht hz1 hk1 hS))
theorem l_cl {r0 : Int64} (hq : Lp D ka ad ct h a ca A H0 g r H locs) (hA : ∀ q, H0.size ≤ q → A q) (hmo : Mo g g2) (hr : va_Run p l e R s m args below meth c H locs cells slots mc ms (F0 m pc ls st0) rest (va_Ql (fun r (_ : Unit) => r = r0) (fun _ => CB D ct ka ad g2 (aC ad g H.size)) (aC ad g H.size) av) (aC ad g H.size))
    (kk : ∀ (H : Heap) (locs : List Loc), Lp D ka ad ct h a ca A H0 g2 r H locs → W p l e R s m args below meth c H locs (cells + mc) (slots + ms) Q (F0 m (pc + 3) ls (.long r0 :: rest))) : W p l e R s m args below meth c H locs cells slots Q (F0 m pc ls st0) :=
  va_calll hr hq.1.2.1 (fun q _ h => q_free hq.1 hA q h) (q_free hq.1 hA) (fun r u t H1 locs ht hvm hw hB hz1 hk1 hS => by subst hw; exact kk H1 locs (hq.ofC hA hmo hB ht hz1 hk1 hS))
theorem l_ri {r0 : Int32} (hq : Lp D ka ad ct h a ca A s.heap g r H locs) (hA : ∀ q, s.heap.size ≤ q → A q) (hsz : H.size = s.heap.size + cells) (hr : va_Run p l e R s m args below meth c H locs cells slots 0 0 (F0 m pc ls st0) rest (va_Qi (fun r (_ : Unit) => r = r0) (Bq D (fun _ => RW h a ca r2) (fun _ => []) (va_A (RW h a ca r) H.size)) (va_A (RW h a ca r) H.size) av) (va_A (RW h a ca r) H.size))
    (kk : ∀ (H : Heap) (locs : List Loc), H.size = s.heap.size + cells → Lp D ka ad ct h a ca A s.heap g r2 H locs → W p l e R s m args below meth c H locs cells slots Q (F0 m (pc + 3) ls (.int r0 :: rest))) : W p l e R s m args below meth c H locs cells slots Q (F0 m pc ls st0) :=
  va_calli hr hq.1.2.1 (fun q _ h => r_free hq.2.1.2.1 hq.2.1.2.2 hA q h) (r_free hq.2.1.2.1 hq.2.1.2.2 hA) (fun r u t H1 locs ht hvm hw hB hz1 hk1 hS => by subst hw; exact W.sized (fun hle => kk H1 locs (by have h9 : H1.size ≤ s.heap.size + cells := hle; omega) (hq.refer hA hB ht (by have h9 : H1.size ≤ s.heap.size + cells := hle; omega) hk1 hS)))
theorem l_rl {r0 : Int64} (hq : Lp D ka ad ct h a ca A s.heap g r H locs) (hA : ∀ q, s.heap.size ≤ q → A q) (hsz : H.size = s.heap.size + cells) (hr : va_Run p l e R s m args below meth c H locs cells slots 0 0 (F0 m pc ls st0) rest (va_Ql (fun r (_ : Unit) => r = r0) (Bq D (fun _ => RW h a ca r2) (fun _ => []) (va_A (RW h a ca r) H.size)) (va_A (RW h a ca r) H.size) av) (va_A (RW h a ca r) H.size))
    (kk : ∀ (H : Heap) (locs : List Loc), H.size = s.heap.size + cells → Lp D ka ad ct h a ca A s.heap g r2 H locs → W p l e R s m args below meth c H locs cells slots Q (F0 m (pc + 3) ls (.long r0 :: rest))) : W p l e R s m args below meth c H locs cells slots Q (F0 m pc ls st0) :=
  va_calll hr hq.1.2.1 (fun q _ h => r_free hq.2.1.2.1 hq.2.1.2.2 hA q h) (r_free hq.2.1.2.1 hq.2.1.2.2 hA) (fun r u t H1 locs ht hvm hw hB hz1 hk1 hS => by subst hw; exact W.sized (fun hle => kk H1 locs (by have h9 : H1.size ≤ s.heap.size + cells := hle; omega) (hq.refer hA hB ht (by have h9 : H1.size ≤ s.heap.size + cells := hle; omega) hk1 hS)))
end LL
theorem skip_cW {ka ad : Nat → Nat} {c : CS} {n : Nat} (h : cW ka ad c) : cW ka ad (skip c n) := by
  obtain ⟨w1, w2, w3, w4, w5, w6⟩ := h
  exact ⟨Nat.le_trans w1 (Nat.le_add_right _ _), fun i hi => w2 i (Nat.le_trans (Nat.le_add_right _ _) hi), w3, w4, w5, w6⟩

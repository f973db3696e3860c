theorem CI.ob {g t : CS} {p : Nat} (h : CI g) (hF : Cf [p] g t) (hp : 32 ≤ p ∧ p < 76 ∧ p ≠ 33 ∧ p ≠ 46 ∧ p ≠ 47 ∧ p ≠ 36 ∧ p ≠ 38 ∧ p ≠ 40 ∧ p ≠ 42 ∧ p ≠ 68 ∧ p ≠ 72 ∧ p ≠ 74) : CI t := h.fs (S := [p]) (fun i hi => by rw [List.mem_singleton.mp hi]; omega) (by simp; omega) (by simp; omega) hF (h.tape.fr hF (by simp; omega)) (h.2.2.2.2.2.2.2.2.2.fr hF (by omega))
/-! class: rows with their bytes -/
/-- what become() leaves -/
def BeP (g0 : CS) (r cap o A B : Nat) (t : CS) : Prop := Cf [r, r + 1] g0 t ∧ RowI t r cap ∧ (qI t r 1).toInt = (min (B - A) cap : Nat) ∧ ∀ j, j < min (B - A) cap → qI t (r + 1) j = qI g0 (o + 1) (A + j) &&& 255
theorem w_become6 (r cap o ocap A B : Nat) (g0 : CS) (l3 : Int32) (hl : l3.toInt = B) (hB : (B : Int) ≤ (qI g0 o 1).toInt) (hro : o ≠ r ∧ o ≠ r + 1 ∧ o + 1 ≠ r ∨ o = r) : ∀ (z k : Nat) (y x : Int32) (g : CS), y.toInt = k → x.toInt = (A + k : Nat) → A + k ≤ B → k ≤ cap → B - (A + k) < z → Cf [r, r + 1] g0 g → RowI g r cap → RowI g o ocap → qI g o 1 = qI g0 o 1 → (∀ j, j < k → qI g (r + 1) j = qI g0 (o + 1) (A + j) &&& 255) → (∀ j, k ≤ j → qI g (r + 1) j = qI g0 (r + 1) j) → Ok (fX5_become_6 r z (some o) l3 y x g) (BeP g0 r cap o A B) := by
  intro z
  induction z with
  | zero => intro k y x g a b c d e; omega
  | succ z ih =>
    intro k y x g hy hx hkB hkc hz hF h ho hs hC hD
    have hc := h.2.2.2.2.2.2
    have hc2 := ho.2.2.2.2.2
    rw [hs] at hc2
    have e := inc (x := x) (by omega) (by omega)
    have ey := inc (x := y) (by omega) (by omega)
    have xn : x.toNatClampNeg = A + k := by rw [t_nat]; omega
    have yn : y.toNatClampNeg = k := by rw [t_nat]; omega
    have fin : (A + k = B ∨ k = cap) → BeP g0 r cap o A B (wI g r 1 y) := fun hend => by
      have hm : min (B - A) cap = k := by omega
      refine ⟨hF.wI (by simp), h.wS (by omega) (by omega), ?_, fun j hj => ?_⟩
      · rw [qI_wI, if_pos rfl, if_pos rfl, hm]; exact hy
      · rw [hm] at hj
        rw [qI_wo (by omega)]
        exact hC j hj
    rw [fX5_become_6_s]
    unfold fX5_become_48
    generalize x + 1 = x' at e ⊢
    generalize y + 1 = y' at ey ⊢
    simp only [Ok_pif, Ok_some, Ok_gd, Ok_ono, Ok_nam]
    rw [t_le, hl, hx]
    refine ⟨fun c => ⟨h.1, fin (Or.inl (by omega))⟩, fun c => ⟨h.1, r + 1, h.2.1, h.2.2.1, fun d => ⟨h.1, fin (Or.inr ?_)⟩, fun d => ⟨o, rfl, ho.1, Ok.call (c_byteAt ho) (fun q t ht => ?_)⟩⟩⟩
    · rw [t_le, e_nI (by rw [h.2.2.2.1]; omega), h.2.2.2.1] at d
      omega
    have e2 : t = g := congrArg Prod.snd ht
    have e1 : q = bAt g o x := congrArg Prod.fst ht
    subst e2
    rw [t_le, e_nI (by rw [h.2.2.2.1]; omega), h.2.2.2.1] at d
    have eb : q = qI g0 (o + 1) (A + k) := by
      rw [e1]
      unfold bAt
      rw [pif_pos ⟨by omega, by rw [hs]; omega⟩, xn]
      rcases hro with w | w
      · rw [hF.i (show o + 1 ∉ [r, r + 1] by simp; omega)]
      · rw [w]; exact hD (A + k) (by omega)
    simp only [Ok_gd, Ok_nam, t_in, h.2.2.2.1, yn]
    refine ⟨by omega, ih (k + 1) y' x' _ (by omega) (by omega) (by omega) (by omega) (by omega) (hF.wI (by simp)) h.wB ?_ ?_ (fun j hj => ?_) (fun j hj => ?_)⟩
    · rcases hro with w | w
      · exact ho.fr (Cf.rf.wI (S := [r + 1]) (by simp)) (by simp; omega)
      · subst w
        exact ho.wB
    · rw [qI_wo (by omega)]; exact hs
    · rw [qI_wI, if_pos rfl]
      by_cases cj : j = k
      · rw [if_pos cj, cj, eb]
      · rw [if_neg cj]; exact hC j (by omega)
    · rw [qI_wI, if_pos rfl, if_neg (by omega)]
      exact hD j (by omega)
theorem w_become {r cap o ocap A B : Nat} {a b : Int32} {g : CS} (h : RowI g r cap) (ho : RowI g o ocap) (hro : o ≠ r ∧ o ≠ r + 1 ∧ o + 1 ≠ r ∨ o = r) (ha : a.toInt = A) (hb : b.toInt = B) (hAB : A ≤ B) (hB : (B : Int) ≤ (qI g o 1).toInt) : Ok (fX5_become r (some o) a b g) (BeP g r cap o A B) := by
  have hc2 := ho.2.2.2.2.2
  exact w_become6 r cap o ocap A B g b hb hB hro fuel 0 0 a g rfl (by rw [ha]; rfl) (by omega) (by omega) (by unfold fuel; omega) Cf.rf h ho rfl (fun j hj => absurd hj (by omega)) (fun j _ => rfl)
/-- what append() leaves: as much as there is room -/
theorem w_push {g : CS} {r cap : Nat} {b : Int32} (h : RowI g r cap) (hs : (qI g r 1).toInt < cap) : Ok (fX5_push r b g) (fun t => Cf [r, r + 1] g t ∧ RowI t r cap ∧ (qI t r 1).toInt = (qI g r 1).toInt + 1 ∧ qI t (r + 1) (qI g r 1).toNatClampNeg = b &&& 255 ∧ ∀ j, j ≠ (qI g r 1).toNatClampNeg → qI t (r + 1) j = qI g (r + 1) j) := by
  have hc := h.2.2.2.2
  have e := inc (x := qI g r 1) (by omega) (by omega)
  refine (c_push h).mono (fun t ht => ⟨ht.1, ht.2.1, ?_, ?_, fun j hj => ?_⟩)
  · rw [ht.2.2.1 hs, qI_wI, if_pos rfl, if_pos rfl]; exact e
  · rw [ht.2.2.1 hs, qI_wo (by omega), qI_wI, if_pos rfl, if_pos rfl]
  · rw [ht.2.2.1 hs, qI_wo (by omega), qI_wI, if_pos rfl, if_neg hj]

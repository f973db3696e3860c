theorem c00_n : qn c00 = 32 := rfl
theorem c00_s : qs c00 = 0 := rfl
theorem Ok_pifT {α : Type} {c : Prop} {a b : Option α} {P : α → Prop} (h : c) (k : Ok a P) : Ok (pif c a b) P := Ok_pif.mpr ⟨fun _ => k, fun n => absurd h n⟩
theorem Ok_pifF {α : Type} {c : Prop} {a b : Option α} {P : α → Prop} (h : ¬ c) (k : Ok b P) : Ok (pif c a b) P := Ok_pif.mpr ⟨fun n => absurd n h, fun _ => k⟩
theorem Ok_eqv {β σ : Type} {x : Option σ} {t : σ} {k : σ → Option β} {P : β → Prop} (h : x = some t) (hk : Ok (k t) P) : Ok (bnv x k) P := by rw [h]; exact hk
theorem Ok_eq {α : Type} {x y : Option α} {P : α → Prop} (h : x = y) (k : Ok y P) : Ok x P := by rw [h]; exact k
/-- a new StringBuilder -/
theorem n_sb {s : Nat} {st : CS} (h : qk st s = 2) (h1 : qI st s 1 = 0) (hs : s ≠ qn st) : fJ4_init_da8c8 s st = some (wP (wN st 22 16 16) s 0 (some (qn st))) := by
  unfold fJ4_init_da8c8 fJ4_init_da8c8_6 fJ5_init_d00df fJ5_init_d00df_4 fJ5_init_d00df_14
  rw [gd_pos h, pif_neg (by decide), gd_pos (by decide)]
  simp only [nam_x]
  rw [gd_pos (by rw [qk_wN, if_neg hs]; exact h)]
  simp only [bnv_S]
  congr 1
  refine wI_same ?_
  rw [qI_wP, qI_wN, if_neg hs]
  exact h1
/-- what the class's constructor leaves -/
def IC0 (g : CS) : Prop := qn g = 76 ∧ qs g ≤ 10000 ∧ CI (skip g 30) ∧ (∀ j, qP g 44 j = none) ∧ qI g 33 1 = 0 ∧ qI g 32 11 = 0 ∧ (∀ j, qI g 71 j = 0) ∧ qI g 36 1 = 0 ∧ qI g 38 1 = 0 ∧ qI g 40 1 = 0 ∧ qI g 42 1 = 0
set_option maxHeartbeats 4000000 in
set_option maxRecDepth 200000 in
theorem e_init : Ok (fX8_init 32 (wN c00 11 0 12)) IC0 := by
  unfold fX8_init
  repeat
    ((first
    | (rw [Ok_nam])
    | (rw [Ok_ono]; refine ⟨_, rfl, ?_⟩)
    | (rw [Ok_gd]; refine ⟨by rfl, ?_⟩)
    | (rw [Ok_gd]; refine ⟨by decide, ?_⟩)
    | (rw [Ok_gd]; refine ⟨by unfold vp_in; decide, ?_⟩)
    | (rw [Ok_pif]; refine ⟨fun h => absurd h (by decide), fun _ => ?_⟩)
    | (rw [Ok_pif]; refine ⟨fun _ => ?_, fun h => absurd (by decide) h⟩)
    | unfold fX8_init_4
    | unfold fX8_init_8
    | unfold fX8_init_15
    | unfold fX8_init_23
    | unfold fX8_init_41
    | unfold fX8_init_47
    | unfold fX8_init_60
    | unfold fX8_init_67
    | unfold fX8_init_79
    | unfold fX8_init_86
    | unfold fX8_init_94
    | unfold fX8_init_101
    | unfold fX8_init_109
    | unfold fX8_init_116
    | unfold fX8_init_124
    | unfold fX8_init_131
    | unfold fX8_init_138
    | unfold fX8_init_145
    | unfold fX8_init_152
    | unfold fX6_init
    | unfold fX6_init_4
    | unfold fX6_init_18
    | unfold fX6_init_22
    | unfold fX3_init
    | unfold fX3_init_4
    | unfold fX3_init_15
    | unfold fX3_init_34
    | unfold fX3_init_38
    | unfold fX4_init
    | unfold fX4_init_4
    | unfold fX4_init_15
    | unfold fX4_init_34
    | unfold fX4_init_38
    | unfold fX4_init_49
    | unfold fX4_init_54
    | unfold fX7_init
    | unfold fX7_init_4
    | unfold fX7_init_15
    | (rw [show fuel = 4999 + 1 from rfl, fX8_init_28_s])
    | (rw [show (5000 : Nat) = 4999 + 1 from rfl, fX8_init_28_s])
    | (rw [show (4999 : Nat) = 4998 + 1 from rfl, fX8_init_28_s])
    | (rw [show (4998 : Nat) = 4997 + 1 from rfl, fX8_init_28_s])
    | (rw [show (4997 : Nat) = 4996 + 1 from rfl, fX8_init_28_s])
    | (rw [show (4996 : Nat) = 4995 + 1 from rfl, fX8_init_28_s])
    | (rw [show fuel = 4999 + 1 from rfl, fX3_init_20_s])
    | (rw [show (5000 : Nat) = 4999 + 1 from rfl, fX3_init_20_s])
    | (rw [show (4999 : Nat) = 4998 + 1 from rfl, fX3_init_20_s])
    | (rw [show (4998 : Nat) = 4997 + 1 from rfl, fX3_init_20_s])
    | (rw [show (4997 : Nat) = 4996 + 1 from rfl, fX3_init_20_s])
    | (rw [show (4996 : Nat) = 4995 + 1 from rfl, fX3_init_20_s])
    | (rw [show (4995 : Nat) = 4994 + 1 from rfl, fX3_init_20_s])
    | (rw [show (4994 : Nat) = 4993 + 1 from rfl, fX3_init_20_s])
    | (rw [show (4993 : Nat) = 4992 + 1 from rfl, fX3_init_20_s])
    | (rw [show (4992 : Nat) = 4991 + 1 from rfl, fX3_init_20_s])
    | (rw [show fuel = 4999 + 1 from rfl, fX4_init_20_s])
    | (rw [show (5000 : Nat) = 4999 + 1 from rfl, fX4_init_20_s])
    | (rw [show (4999 : Nat) = 4998 + 1 from rfl, fX4_init_20_s])
    | (rw [show (4998 : Nat) = 4997 + 1 from rfl, fX4_init_20_s])
    | (rw [show (4997 : Nat) = 4996 + 1 from rfl, fX4_init_20_s])
    | (rw [show (4996 : Nat) = 4995 + 1 from rfl, fX4_init_20_s])
    | (rw [show (4995 : Nat) = 4994 + 1 from rfl, fX4_init_20_s])
    | (rw [show (4994 : Nat) = 4993 + 1 from rfl, fX4_init_20_s])
    | (rw [show (4993 : Nat) = 4992 + 1 from rfl, fX4_init_20_s])
    | (rw [show (4992 : Nat) = 4991 + 1 from rfl, fX4_init_20_s])
    | refine Ok_eqv (n_row (by rfl) (by rfl) (by decide) (by decide) (by decide)) ?_
    | refine Ok_eqv (n_piece (by rfl) (fun _ => rfl) (fun _ => rfl)) ?_
    | refine Ok_eqv (n_sb (by rfl) (by rfl) (by decide)) ?_
    | (rw [Ok_bnv])
    | (rw [Ok_some])) <;> (try simp only [qn_wN, qn_wP, qn_wI, qn_wJ, c00_n, qP_wP, qP_wN, qP_wI, qP_wJ, Nat.reduceEqDiff, if_true, if_false, Nat.reduceAdd, Int32.reduceAdd, Int32.reduceToNatClampNeg]))
  refine ⟨rfl, by decide, ⟨⟨rfl, rfl, rfl, rfl, rfl, rfl, rfl, rfl, rfl, rfl⟩, ⟨rfl, rfl, rfl, rfl, rfl, rfl⟩, ⟨rfl, rfl, fun j _ m hm => by cases (show (none : Option Nat) = some m from hm)⟩, ⟨rfl, rfl, rfl, rfl, rfl, fun j hj => ?_⟩, ⟨rfl, rfl, rfl, rfl, rfl, rfl, fun j hj => ?_⟩, ⟨rfl, rfl, rfl, rfl, rfl⟩, ⟨rfl, rfl, rfl, rfl, rfl, rfl, 47, rfl, rfl, by decide, by decide, by decide, by decide, Or.inl rfl, by decide, fun j => ⟨show (-128 : Int) ≤ (0 : Int32).toInt by decide, show (0 : Int32).toInt ≤ 127 by decide⟩⟩, ⟨by decide, fun i hi => ?_⟩, ⟨rfl, rfl, rfl, rfl, by decide, by decide, by decide⟩, ⟨rfl, rfl, rfl, rfl, by decide, by decide, by decide⟩, ⟨rfl, rfl, rfl, rfl, by decide, by decide, by decide⟩, ⟨rfl, rfl, rfl, rfl, by decide, by decide, by decide⟩, ⟨rfl, rfl, rfl, rfl, by decide, by decide, by decide⟩, ⟨rfl, rfl, rfl, rfl, by decide, by decide, by decide⟩, ⟨rfl, rfl, rfl, rfl, by decide, by decide, by decide⟩, ⟨rfl, rfl, rfl, rfl, by decide, by decide, by decide⟩⟩, fun _ => rfl, rfl, rfl, fun _ => rfl, rfl, rfl, rfl, rfl⟩
  · rcases (show j = 0 ∨ j = 1 ∨ j = 2 ∨ j = 3 ∨ j = 4 ∨ j = 5 ∨ j = 6 ∨ j = 7 by omega) with rfl | rfl | rfl | rfl | rfl | rfl | rfl | rfl <;> exact ⟨rfl, rfl⟩
  · rcases (show j = 0 ∨ j = 1 ∨ j = 2 ∨ j = 3 ∨ j = 4 ∨ j = 5 ∨ j = 6 ∨ j = 7 by omega) with rfl | rfl | rfl | rfl | rfl | rfl | rfl | rfl <;> exact ⟨rfl, rfl⟩
  · rcases (show i = 0 ∨ i = 1 ∨ i = 2 ∨ i = 3 ∨ i = 4 ∨ i = 5 ∨ i = 6 ∨ i = 7 ∨ i = 8 by omega) with rfl | rfl | rfl | rfl | rfl | rfl | rfl | rfl | rfl
    · exact ⟨rfl, rfl, rfl, rfl, rfl, fun _ => rfl⟩
    · exact ⟨rfl, rfl, rfl, rfl, rfl, fun _ => rfl⟩
    · exact ⟨rfl, rfl, rfl, rfl, rfl, fun _ => rfl⟩
    · exact ⟨rfl, rfl, rfl, rfl, rfl, fun _ => rfl⟩
    · exact ⟨rfl, rfl, rfl, rfl, rfl, fun _ => rfl⟩
    · exact ⟨rfl, rfl, rfl, rfl, rfl, fun _ => rfl⟩
    · exact ⟨rfl, rfl, rfl, rfl, rfl, fun _ => rfl⟩
    · exact ⟨rfl, rfl, rfl, rfl, rfl, fun _ => rfl⟩
    · exact ⟨rfl, rfl, rfl, rfl, rfl, fun _ => rfl⟩

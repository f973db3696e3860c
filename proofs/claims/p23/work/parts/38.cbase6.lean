theorem dvJ0 : ∀ j, j < 4 → defaultValue (tyJ0 j) = dv ((cfl 1).getD j 9) := fun j hj => by
  rcases (show j = 0 ∨ j = 1 ∨ j = 2 ∨ j = 3 by omega) with rfl | rfl | rfl | rfl <;> rfl
theorem dvJ4 : ∀ j, j < 4 → defaultValue (tyJ4 j) = dv ((cfl 2).getD j 9) := fun j hj => by
  rcases (show j = 0 ∨ j = 1 ∨ j = 2 ∨ j = 3 by omega) with rfl | rfl | rfl | rfl <;> rfl
theorem dvX0 : ∀ j, j < 7 → defaultValue (tyX0 j) = dv ((cfl 3).getD j 9) := fun j hj => by
  rcases (show j = 0 ∨ j = 1 ∨ j = 2 ∨ j = 3 ∨ j = 4 ∨ j = 5 ∨ j = 6 by omega) with rfl | rfl | rfl | rfl | rfl | rfl | rfl <;> rfl
theorem dvX1 : ∀ j, j < 2 → defaultValue (tyX1 j) = dv ((cfl 4).getD j 9) := fun j hj => by
  rcases (show j = 0 ∨ j = 1 by omega) with rfl | rfl <;> rfl
theorem dvX2 : ∀ j, j < 8 → defaultValue (tyX2 j) = dv ((cfl 5).getD j 9) := fun j hj => by
  rcases (show j = 0 ∨ j = 1 ∨ j = 2 ∨ j = 3 ∨ j = 4 ∨ j = 5 ∨ j = 6 ∨ j = 7 by omega) with rfl | rfl | rfl | rfl | rfl | rfl | rfl | rfl <;> rfl
theorem dvX3 : ∀ j, j < 4 → defaultValue (tyX3 j) = dv ((cfl 6).getD j 9) := fun j hj => by
  rcases (show j = 0 ∨ j = 1 ∨ j = 2 ∨ j = 3 by omega) with rfl | rfl | rfl | rfl <;> rfl
theorem dvX4 : ∀ j, j < 3 → defaultValue (tyX4 j) = dv ((cfl 7).getD j 9) := fun j hj => by
  rcases (show j = 0 ∨ j = 1 ∨ j = 2 by omega) with rfl | rfl | rfl <;> rfl
theorem dvX5 : ∀ j, j < 2 → defaultValue (tyX5 j) = dv ((cfl 8).getD j 9) := fun j hj => by
  rcases (show j = 0 ∨ j = 1 by omega) with rfl | rfl <;> rfl
theorem dvX6 : ∀ j, j < 6 → defaultValue (tyX6 j) = dv ((cfl 9).getD j 9) := fun j hj => by
  rcases (show j = 0 ∨ j = 1 ∨ j = 2 ∨ j = 3 ∨ j = 4 ∨ j = 5 by omega) with rfl | rfl | rfl | rfl | rfl | rfl <;> rfl
theorem dvX7 : ∀ j, j < 2 → defaultValue (tyX7 j) = dv ((cfl 10).getD j 9) := fun j hj => by
  rcases (show j = 0 ∨ j = 1 by omega) with rfl | rfl <;> rfl
theorem dvX8 : ∀ j, j < 12 → defaultValue (tyX8 j) = dv ((cfl 11).getD j 9) := fun j hj => by
  rcases (show j = 0 ∨ j = 1 ∨ j = 2 ∨ j = 3 ∨ j = 4 ∨ j = 5 ∨ j = 6 ∨ j = 7 ∨ j = 8 ∨ j = 9 ∨ j = 10 ∨ j = 11 by omega) with rfl | rfl | rfl | rfl | rfl | rfl | rfl | rfl | rfl | rfl | rfl | rfl <;> rfl
/-- a copy of a row of bytes -/
def wC (g : CS) (i : Nat) : CS := wF (wN g 22 (ql g i) (ql g i)) (qn g) (qI g i)
theorem Mo.wC {a b d : CS} {i : Nat} (h : Mo a b) (e : d = wC b i) : Mo a d := (h.wN (kd := 22) (n := ql b i) (sl := ql b i) rfl).wF e
theorem wC_n {b d : CS} {i : Nat} (e : d = wC b i) : qn d = qn b + 1 ∧ qs d = qs b + ql b i := by subst e; exact ⟨rfl, rfl⟩
theorem Cp.newC {D : va_G} {ka ad : Nat → Nat} {ct : Nat → ClassId} {A : Nat → Prop} {H0 H H1 : Heap} {g : CS} {locs : List Loc} {i : Nat} (hp : Cp D ka ad ct A H0 g H locs) (hA : ∀ q, H0.size ≤ q → A q) (e1 : va_at D vwCl (ad (qn g), ce ad ct (wC g i) (qn g)) H1) (z : H1.size = H.size + 1) (oq : ∀ q : Nat, q < H.size → H1[q]? = H[q]?) : Cp D ka ad ct A H0 (wC g i) H1 locs := by
  obtain ⟨h1, h2, h3, h4⟩ := hp
  have a0 : ad (qn g) = H.size := h4 0
  have hne : ∀ j, j ≠ qn g → qk (wC g i) j = qk g j ∧ ql (wC g i) j = ql g j ∧ qI (wC g i) j = qI g j ∧ qJ (wC g i) j = qJ g j ∧ qP (wC g i) j = qP g j := fun j hj => ⟨va_up_ne _ _ hj, va_up_ne _ _ hj, (va_up_ne _ _ hj).trans (va_up_ne _ _ hj), va_up_ne _ _ hj, va_up_ne _ _ hj⟩
  have hce : ∀ j, j ≠ qn g → ce ad ct (wC g i) j = ce ad ct g j := fun j hj => by
    obtain ⟨f1, f2, f3, f4, f5⟩ := hne j hj
    have hv : cv ad (wC g i) j = cv ad g j := by
      funext k
      unfold cv
      rw [f1, f3, f4, f5]
    unfold ce
    rw [f1, f2, hv, f3, f5]
  refine ⟨fun j hj hk => ?_, ⟨by rw [z]; exact Nat.le_succ_of_le h2.1, fun q g1 g2 => (oq q (Nat.lt_of_lt_of_le g1 h2.1)).trans (h2.2.1 q g1 g2), h2.2.2⟩, ?_, fun j => ?_⟩
  · by_cases hij : j = qn g
    · subst hij
      exact ⟨e1, by rw [a0]; exact hA _ h2.1⟩
    · rw [(hne j hij).1] at hk
      rw [hce j hij]
      exact ⟨(h1 j hj hk).1.kept (oq _ (h1 j hj hk).1.lt), (h1 j hj hk).2⟩
  · obtain ⟨w1, w2, w3, w4, w5, w6⟩ := h3
    refine ⟨Nat.le_succ_of_le w1, fun i hi => ?_, fun i hi => ?_, fun i ha hb => ?_, w5, w6⟩
    · have hi' : qn g + 1 ≤ i := hi
      rw [(hne i (by omega)).1]
      exact w2 i (by omega)
    · obtain ⟨f1, f2, f3, f4, f5⟩ := hne i (by omega)
      obtain ⟨g1, g2, g3, g4, g5⟩ := hne (9 + i) (by omega)
      rw [f1, f3, f5, g1, g2, g3]
      exact w3 i hi
    · rw [(hne i (by omega)).1]
      exact w4 i ha hb
  · show ad (qn g + 1 + j) = H1.size + j
    rw [show qn g + 1 + j = qn g + (j + 1) by omega, h4 (j + 1), z]
    omega
section QCL
variable {p : Program} {l : Launch} {e : Env} {R : Room} {s : State} {m : MethodId} {args : Array Value} {below : List Frame} {meth : Method} {c : Code} {H : Heap} {locs : List Loc} {cells slots : Nat} {Q : State → Prop}
variable {cc : ByteArray} {pc : Nat} {ls : Array Slot} {rest : List Value} {D : va_G} {A : Nat → Prop} {H0 : Heap} {ka ad : Nat → Nat} {ct : Nat → ClassId} {g : CS} {own : String} {index i : Nat}
theorem q_clone (hexec : p.tables.exec = Jvm.exec) (hb : c.code = cc) (hml : c.maxLocals = ls.size) (hown : s.vm.findClass own = some m.cls)
    (hlink : (Cond.methodLink own index ⟨"[B", "clone", "()Ljava/lang/Object;"⟩).before args s = true) (hsame : (Cond.sameMethod "[B" "java/lang/Object" "clone" "()Ljava/lang/Object;").before args s = true)
    (hnat : (Cond.native ⟨"java/lang/Object", "clone", "()Ljava/lang/Object;"⟩).before args s = true) (hinst : (Cond.instanceMethod ⟨"java/lang/Object", "clone", "()Ljava/lang/Object;"⟩).before args s = true)
    (hsel : (Cond.selects "[B" ⟨"[B", "clone", "()Ljava/lang/Object;"⟩ ⟨"java/lang/Object", "clone", "()Ljava/lang/Object;"⟩).before args s = true) (hcl : kL s)
    (hK : va_K D vwCl (cT ct) s) (hp : Cp D ka ad ct A H0 g H locs) (hA : ∀ q, H0.size ≤ q → A q) (hi : 32 ≤ i) (hq : qk g i = 22) (hfit : ∀ x, x < ql g i → fits .byte (.int (qI g i x)) = true)
    (hframes : 1 ≤ R.frames) (hlocals : (rest.map fun v => v.category).sum + 14 ≤ R.locals) (hcells : cells + 1 ≤ R.cells) (hslots : slots + ql g i ≤ R.slots) (hdg : decode cc pc = .ok (.invokevirtual index, 3))
    (kk : ∀ H1 : Heap, Cp D ka ad ct A H0 (wC g i) H1 locs → W p l e R s m args below meth c H1 locs (cells + 1) (slots + ql g i) Q (F0 m (pc + 3) ls (.ref (ad (qn g)) :: rest))) : W p l e R s m args below meth c H locs cells slots Q (F0 m pc ls (.ref (ad i) :: rest)) := by
  have hc0 : H[ad i]? = some (vp_cell (ct 22) (ql g i, .inl (qI g i))) := by
    have h0 := (hp.1 i hi (by omega)).1
    rw [ce_i hq (by decide) (by decide)] at h0
    exact h0
  have a0 : ad (qn g) = H.size := hp.2.2.2 0
  obtain ⟨x, hx⟩ : ∃ x : vp_A, x = (ql g i, .inl (qI g i)) := ⟨_, rfl⟩
  have hnm : s.vm.findClass "[B" = some (ct 22) := (hK.2 1 _ rfl).2
  have hsz : (vp_cell (ct 22) (ql g i, .inl (qI g i))).slots.size = ql g i := arrV_size _ _ _
  obtain ⟨c0, t0', f1, f2, f3⟩ := Cond.castable_spec (va_Nw.use (A := args) rfl hcl)
  cases hnm.symm.trans f1
  intro T hT X
  have hcellT : T.heap[ad i]? = some (vp_cell (ct 22) (ql g i, .inl (qI g i))) := by rw [hT]; exact hc0
  obtain ⟨-, kA, hkA, comp, hkind⟩ := State.isArrayOf_alike X.warmed.alike ((hK.2 1 _ rfl).1 0 (fun _ => .null))
  obtain ⟨-, kS, hkS, compS, hkindS⟩ := (hK.2 1 _ rfl).1 0 (fun _ => .null)
  obtain ⟨vm', X', st⟩ := X.cloneArray hexec hown hlink hsame hnat hinst hsel (a := ad i) (cell := vp_cell (ct 22) (ql g i, .inl (qI g i))) hcellT (fun k h => by cases h) (fun h => by cases h) hnm f2 f3
    (fun j v hv => by
      have hk' : T.vm.classes[ct 22]? = some kA := hkA
      have hv2 : fits .byte v = true := va_fit (cA := ct 22) (n := ql g i) (F := fun j => .int (qI g i j)) (fun j hj => hfit j hj) j v hv
      show T.fitsSlot (ct 22) .none j v = true
      simpa [State.fitsSlot, State.slotType?, hk', hkind] using hv2)
    (g := F0 m pc ls (.ref (ad i) :: rest)) rfl (by rw [hml]) rfl (by rw [hb]; exact hdg) hframes (by show 2 * 0 + _ + 14 ≤ _; omega) hcells (by rw [hsz]; exact hslots) (hloader := Vm.clonesLoader_of_array hkS hkindS)
  rw [hsz] at X'
  have hcellE : ({ cls := (vp_cell (ct 22) (ql g i, .inl (qI g i))).cls, slots := (vp_cell (ct 22) (ql g i, .inl (qI g i))).slots } : Cell) = vp_cell (ct 22) (ql g i, .inl (qI g i)) := rfl
  rw [hcellE] at X'
  generalize hH1 : H.push (vp_cell (ct 22) (ql g i, .inl (qI g i))) = H1
  have z1 : H1.size = H.size + 1 := by rw [← hH1, Array.size_push]
  have e1 : H1[H.size]? = some (vp_cell (ct 22) (ql g i, .inl (qI g i))) := by rw [← hH1, Array.getElem?_push_size]
  have o1 : ∀ q : Nat, q < H.size → H1[q]? = H[q]? := fun q hq => by rw [← hH1, Array.getElem?_push, if_neg (Nat.ne_of_lt hq)]
  obtain ⟨t, b1, b2⟩ := kk H1 (hp.newC hA (by
      rw [ce_i (show qk (wC g i) (qn g) = 22 from va_up_self _ _ _) (by decide) (by decide), a0]
      have e2 : qI (wC g i) (qn g) = qI g i := va_up_self _ _ _
      have e3 : ql (wC g i) (qn g) = ql g i := va_up_self _ _ _
      show H1[H.size]? = some (vp_cell _ _)
      rw [e2, e3]
      exact e1) z1 o1) ((T.setVm vm').pushCell (vp_cell (ct 22) (ql g i, .inl (qI g i)))) (by rw [← hH1, ← hT]; rfl) X'
  refine ⟨t, st t ?_, b2⟩
  rw [hcellE, hT, ← a0]
  exact b1
theorem q_castb (hexec : p.tables.exec = Jvm.exec) (hb : c.code = cc) (hown : s.vm.findClass own = some m.cls) (hlink : (Cond.classLink own index "[B").before args s = true) (hK : va_K D vwCl (cT ct) s) (hp : Cp D ka ad ct A H0 g H locs) (hi : 32 ≤ i) (hq : qk g i = 22) (hdg : decode cc pc = .ok (.checkcast index, 3))
    (k : W p l e R s m args below meth c H locs cells slots Q (F0 m (pc + 3) ls (.ref (ad i) :: rest))) : W p l e R s m args below meth c H locs cells slots Q (F0 m pc ls (.ref (ad i) :: rest)) := by
  have h0 := (hp.1 i hi (by omega)).1
  rw [ce_i hq (by decide) (by decide)] at h0
  have hP : va_P D vwCl [(ad i, .inl (ct 22, ql g i, .inl (qI g i)))] H := fun j q hj => by
    match j, hj with
    | 0, hj => cases hj; exact h0
    | j + 1, hj => simp at hj
  exact va_castA hexec hb hown hlink hP 0 rfl (hK.2 1 _ rfl).2 hdg k
end QCL

theorem pif_or {α : Type} {P : Prop} {a b r : α} (e : pif P a b = r) : (P ∧ a = r) ∨ (¬ P ∧ b = r) := by
  by_cases c : P
  · exact Or.inl ⟨c, pif_t c e⟩
  · exact Or.inr ⟨c, pif_f c e⟩
/-- a reference that is looked into: none of it without one -/
def ono {β : Type} (o : Option Nat) (k : Nat → Option β) : Option β := o.bind k
theorem ono_some {β : Type} {o : Option Nat} {k : Nat → Option β} {r : β} (h : ono o k = some r) : ∃ a, o = some a ∧ k a = some r := by
  cases o with
  | none => cases h
  | some a => exact ⟨a, rfl, h⟩
theorem ono_of {β : Type} {k : Nat → Option β} {a : Nat} : ono (some a) k = k a := rfl
/-- nothing new, and no kinds or lengths changed -/
def Ke (a b : CS) : Prop := qn b = qn a ∧ qs b = qs a ∧ qk b = qk a ∧ ql b = ql a
theorem Ke.rf {a : CS} : Ke a a := ⟨rfl, rfl, rfl, rfl⟩
theorem Ke.tr {a b d : CS} (h : Ke a b) (h2 : Ke b d) : Ke a d := ⟨h2.1.trans h.1, h2.2.1.trans h.2.1, h2.2.2.1.trans h.2.2.1, h2.2.2.2.trans h.2.2.2⟩
theorem Ke.wI {a b d : CS} {i k : Nat} {v : Int32} (h : Ke a b) (e : d = wI b i k v) : Ke a d := by subst e; exact h
theorem Ke.wJ {a b d : CS} {i k : Nat} {v : Int64} (h : Ke a b) (e : d = wJ b i k v) : Ke a d := by subst e; exact h
theorem Ke.wP {a b d : CS} {i k : Nat} {v : Option Nat} (h : Ke a b) (e : d = wP b i k v) : Ke a d := by subst e; exact h
theorem Ke.wF {a b d : CS} {i : Nat} {v : Nat → Int32} (h : Ke a b) (e : d = wF b i v) : Ke a d := by subst e; exact h
/-- something new may be there; what was there keeps its kind and its length -/
def Mo (a b : CS) : Prop := qn a ≤ qn b ∧ qs a ≤ qs b ∧ ∀ i, i < qn a → qk b i = qk a i ∧ ql b i = ql a i
theorem Mo.rf {a : CS} : Mo a a := ⟨Nat.le_refl _, Nat.le_refl _, fun _ _ => ⟨rfl, rfl⟩⟩
theorem Mo.tr {a b d : CS} (h : Mo a b) (h2 : Mo b d) : Mo a d := ⟨Nat.le_trans h.1 h2.1, Nat.le_trans h.2.1 h2.2.1, fun i hi => ⟨(h2.2.2 i (Nat.lt_of_lt_of_le hi h.1)).1.trans (h.2.2 i hi).1, (h2.2.2 i (Nat.lt_of_lt_of_le hi h.1)).2.trans (h.2.2 i hi).2⟩⟩
theorem Ke.mo {a b : CS} (h : Ke a b) : Mo a b := ⟨Nat.le_of_eq h.1.symm, Nat.le_of_eq h.2.1.symm, fun i _ => ⟨by rw [h.2.2.1], by rw [h.2.2.2]⟩⟩
theorem Mo.ke {a b d : CS} (h : Mo a b) (h2 : Ke b d) : Mo a d := h.tr h2.mo
theorem Mo.wI {a b d : CS} {i k : Nat} {v : Int32} (h : Mo a b) (e : d = wI b i k v) : Mo a d := by subst e; exact h
theorem Mo.wJ {a b d : CS} {i k : Nat} {v : Int64} (h : Mo a b) (e : d = wJ b i k v) : Mo a d := by subst e; exact h
theorem Mo.wP {a b d : CS} {i k : Nat} {v : Option Nat} (h : Mo a b) (e : d = wP b i k v) : Mo a d := by subst e; exact h
theorem Mo.wF {a b d : CS} {i : Nat} {v : Nat → Int32} (h : Mo a b) (e : d = wF b i v) : Mo a d := by subst e; exact h
theorem Mo.wN {a b d : CS} {kd n sl : Nat} (h : Mo a b) (e : d = wN b kd n sl) : Mo a d := by
  subst e
  refine h.tr ⟨Nat.le_succ _, Nat.le_add_right _ _, fun i hi => ⟨va_up_ne _ _ (Nat.ne_of_lt hi), va_up_ne _ _ (Nat.ne_of_lt hi)⟩⟩
theorem wN_n {b d : CS} {kd n sl : Nat} (e : d = wN b kd n sl) : qn d = qn b + 1 ∧ qs d = qs b + sl := by subst e; exact ⟨rfl, rfl⟩
/-- blocks and loops whose new cells are counted -/
theorem W_blkA {ι : Type} {p : Program} {l : Launch} {e : Env} {R : Room} {s : State} {m : MethodId} {args : Array Value} {below : List Frame} {meth : Method} {c : Code} {H : Heap} {locs : List Loc} {cells slots : Nat} {Q : State → Prop} {g : JFrame} (P : ι → Heap → List Loc → Array Slot → Prop) (fr : ι → Array Slot → JFrame) (cl sl : ι → Nat)
    (k : ∀ (u : ι) (H : Heap) (locs : List Loc) (ls : Array Slot), P u H locs ls → W p l e R s m args below meth c H locs (cl u) (sl u) Q (fr u ls))
    (b : (∀ (u : ι) (H : Heap) (locs : List Loc) (ls : Array Slot), P u H locs ls → W p l e R s m args below meth c H locs (cl u) (sl u) Q (fr u ls)) → W p l e R s m args below meth c H locs cells slots Q g) : W p l e R s m args below meth c H locs cells slots Q g := b k
theorem W_lpA {ι : Type} {p : Program} {l : Launch} {e : Env} {R : Room} {s : State} {m : MethodId} {args : Array Value} {below : List Frame} {meth : Method} {c : Code} {H : Heap} {locs : List Loc} {cells slots : Nat} {Q : State → Prop} {g : JFrame} (P : Nat → ι → Heap → List Loc → Array Slot → Prop) (fr : ι → Array Slot → JFrame) (cl sl : ι → Nat)
    (z : ∀ (u : ι) (H : Heap) (locs : List Loc) (ls : Array Slot), P 0 u H locs ls → False)
    (k : ∀ n : Nat, (∀ (u : ι) (H : Heap) (locs : List Loc) (ls : Array Slot), P n u H locs ls → W p l e R s m args below meth c H locs (cl u) (sl u) Q (fr u ls)) → ∀ (u : ι) (H : Heap) (locs : List Loc) (ls : Array Slot), P (n + 1) u H locs ls → W p l e R s m args below meth c H locs (cl u) (sl u) Q (fr u ls))
    (b : (∀ (n : Nat) (u : ι) (H : Heap) (locs : List Loc) (ls : Array Slot), P n u H locs ls → W p l e R s m args below meth c H locs (cl u) (sl u) Q (fr u ls)) → W p l e R s m args below meth c H locs cells slots Q g) : W p l e R s m args below meth c H locs cells slots Q g := by
  refine b (fun n => ?_)
  induction n with
  | zero => exact fun u H locs ls h => absurd h (z u H locs ls)
  | succ n ih => exact k n ih
/-- where the constants are named -/
def KRL : List (String × Nat × String × Nat) := [(RX0, 24, "", 0), (RX6, 118, "gone", 1), (RX6, 195, "flag", 2), (RX6, 197, "small", 3), (RX6, 199, "int", 4), (RX6, 201, "long", 5), (RX6, 203, "text", 6), (RX6, 204, "rec", 7), (RX6, 145, "in", 8)]
def kR (ka : Nat → Nat) (U : State) : Prop := ∀ q ∈ KRL, vk_R q.1 q.2.1 q.2.2.1 (ka q.2.2.2) U
def kL (U : State) : Prop := va_Nw (.castable "[B" "java/lang/Cloneable") U
/-- which cells a method of the class may change -/
def aC (ad : Nat → Nat) (g : CS) (sz : Nat) : Nat → Prop := fun q => (∃ i, 32 ≤ i ∧ qk g i ≠ 0 ∧ q = ad i) ∨ sz ≤ q
/-- a method's start -/
def PrC (D : va_G) (ct : Nat → ClassId) (ka ad : Nat → Nat) (g : CS) (sz : Nat) (U : State) : Prop := U.heap.size = sz ∧ (∀ i, 32 ≤ i → qk g i ≠ 0 → va_at D vwCl (ad i, ce ad ct g i) U.heap) ∧ va_K D vwCl (cT ct) U ∧ NX U ∧ cz (aC ad g sz) U U.heap ∧ kS ka (aC ad g sz) U U.heap ∧ kR ka U ∧ kL U ∧ cW ka ad g ∧ ∀ j, ad (qn g + j) = sz + j
theorem PrC.blind {D : va_G} {ct : Nat → ClassId} {ka ad : Nat → Nat} {g : CS} {sz : Nat} (av : List Value) : FrameBlind (va_Pc av (PrC D ct ka ad g sz)) := by
  intro a U fr mk q
  obtain ⟨q0, q1, q2, qK, qN, qZ, qC, qR, qL, qW, qA⟩ := q
  exact ⟨q0, q1, q2, va_K.moved (u := U) (U := U.calling fr mk a) (Vm.Alike.refl U.vm) qK, NX.same (s := U) (U := U.calling fr mk a) rfl qN, va_Z.moved (u := U) (U := U.calling fr mk a) (Vm.Alike.refl U.vm) qZ, vk_S.moved (u := U) (U := U.calling fr mk a) (Vm.Alike.refl U.vm) qC, fun x hx => vk_R.same (u := U) (U := U.calling fr mk a) rfl (qR x hx), va_Nw.same rfl (u := U) (U := U.calling fr mk a) rfl qL, qW, qA⟩
/-- a method's end -/
def CB (D : va_G) (ct : Nat → ClassId) (ka ad : Nat → Nat) (g : CS) (A : Nat → Prop) (t : State) : Prop := (∀ i, 32 ≤ i → qk g i ≠ 0 → va_at D vwCl (ad i, ce ad ct g i) t.heap ∧ A (ad i)) ∧ cW ka ad g ∧ ∀ j, ad (qn g + j) = t.heap.size + j
section QC
variable {p : Program} {l : Launch} {e : Env} {R : Room} {s : State} {m : MethodId} {args : Array Value} {below : List Frame} {meth : Method} {c : Code} {H : Heap} {locs : List Loc} {cells slots : Nat} {Q : State → Prop}
variable {cc : ByteArray} {pc : Nat} {ls : Array Slot} {rest : List Value} {D : va_G} {A : Nat → Prop} {H0 : Heap} {ka ad : Nat → Nat} {ct : Nat → ClassId} {g : CS}
theorem q_free (hp : Cp D ka ad ct A H0 g H locs) (hA : ∀ q, H0.size ≤ q → A q) : ∀ q, aC ad g H.size q → A q := by
  intro q h
  rcases h with ⟨i, h1, h2, rfl⟩ | h
  · exact (hp.1 i h1 h2).2
  · exact hA q (Nat.le_trans hp.2.1.1 h)
theorem q_pre (hp : Cp D ka ad ct A s.heap g H locs) (hK : va_K D vwCl (cT ct) s) (hN : NX s) (hZ : cz A s s.heap) (hC : kS ka A s s.heap) (hR : kR ka s) (hL : kL s) (hA : ∀ q, s.heap.size ≤ q → A q) {av : List Value} : ∀ U : State, U.heap = H → s.WarmedH U.vm → va_Pc av (PrC D ct ka ad g H.size) av.toArray U := by
  intro U hU hW
  have hF := q_free hp hA
  refine ⟨rfl, by rw [hU], fun i h1 h2 => by rw [hU]; exact (hp.1 i h1 h2).1, va_K.moved hW.alike hK, NX.warm hW hN, ?_, ?_, fun x hx => vk_R.warm hW (hR x hx), va_Nw.warmC hW hL, hp.2.2.1, hp.2.2.2⟩
  · rw [hU]
    exact va_Z.narrow (va_Z.kept (va_Z.moved hW.alike hZ) hp.2.1.2.1) hF
  · rw [hU]
    exact vk_S.narrow (vk_S.kept (vk_S.moved hW.alike hC) hp.2.1.2.1) hF
theorem Cp.back {g2 : CS} {t : State} {H1 : Heap} {locs1 : List Loc} (hA : ∀ q, H0.size ≤ q → A q) (hp : Cp D ka ad ct A H0 g H locs) (hB : CB D ct ka ad g2 (aC ad g H.size) t) (ht : t.heap = H1) (hS : va_S A H0 H1 locs1) : Cp D ka ad ct A H0 g2 H1 locs1 := by
  obtain ⟨h1, h2, h3⟩ := hB
  rw [ht] at h1 h3
  exact ⟨fun i a b => ⟨(h1 i a b).1, q_free hp hA _ (h1 i a b).2⟩, hS, h2, h3⟩
theorem q_ci {st0 : List Value} {av : Array Value} {r0 : Int32} {g2 : CS} {mc ms : Nat} (hp : Cp D ka ad ct A H0 g H locs) (hA : ∀ q, H0.size ≤ q → A q) (hr : va_Run p l e R s m args below meth c H locs cells slots mc ms (F0 m pc ls st0) rest (va_Qi (fun r (_ : Unit) => r = r0) (fun _ => CB D ct ka ad g2 (aC ad g H.size)) (aC ad g H.size) av) (aC ad g H.size))
    (kk : ∀ (H : Heap) (locs : List Loc), Cp D ka ad ct A H0 g2 H locs → W p l e R s m args below meth c H locs (cells + mc) (slots + ms) Q (F0 m (pc + 3) ls (.int r0 :: rest))) : W p l e R s m args below meth c H locs cells slots Q (F0 m pc ls st0) :=
  va_calli hr hp.2.1 (fun q _ hq => q_free hp hA q hq) (q_free hp hA) (fun r u t H1 locs ht hvm hw hB hz1 hk1 hS => by subst hw; exact kk H1 locs (Cp.back hA hp hB ht hS))
theorem q_cl {st0 : List Value} {av : Array Value} {r0 : Int64} {g2 : CS} {mc ms : Nat} (hp : Cp D ka ad ct A H0 g H locs) (hA : ∀ q, H0.size ≤ q → A q) (hr : va_Run p l e R s m args below meth c H locs cells slots mc ms (F0 m pc ls st0) rest (va_Ql (fun r (_ : Unit) => r = r0) (fun _ => CB D ct ka ad g2 (aC ad g H.size)) (aC ad g H.size) av) (aC ad g H.size))
    (kk : ∀ (H : Heap) (locs : List Loc), Cp D ka ad ct A H0 g2 H locs → W p l e R s m args below meth c H locs (cells + mc) (slots + ms) Q (F0 m (pc + 3) ls (.long r0 :: rest))) : W p l e R s m args below meth c H locs cells slots Q (F0 m pc ls st0) :=
  va_calll hr hp.2.1 (fun q _ hq => q_free hp hA q hq) (q_free hp hA) (fun r u t H1 locs ht hvm hw hB hz1 hk1 hS => by subst hw; exact kk H1 locs (Cp.back hA hp hB ht hS))
theorem q_cv {st0 : List Value} {av : Array Value} {g2 : CS} {mc ms : Nat} (hp : Cp D ka ad ct A H0 g H locs) (hA : ∀ q, H0.size ≤ q → A q) (hr : va_Run p l e R s m args below meth c H locs cells slots mc ms (F0 m pc ls st0) rest (va_Qv (fun (_ : Unit) => True) (fun _ => CB D ct ka ad g2 (aC ad g H.size)) (aC ad g H.size) av) (aC ad g H.size))
    (kk : ∀ (H : Heap) (locs : List Loc), Cp D ka ad ct A H0 g2 H locs → W p l e R s m args below meth c H locs (cells + mc) (slots + ms) Q (F0 m (pc + 3) ls rest)) : W p l e R s m args below meth c H locs cells slots Q (F0 m pc ls st0) :=
  va_callv hr hp.2.1 (fun q _ hq => q_free hp hA q hq) (q_free hp hA) (fun u t H1 locs ht hvm hw hB hz1 hk1 hS => kk H1 locs (Cp.back hA hp hB ht hS))
theorem q_cq {st0 : List Value} {av : Array Value} {r0 : Option Nat} {g2 : CS} {mc ms : Nat} (hp : Cp D ka ad ct A H0 g H locs) (hA : ∀ q, H0.size ≤ q → A q) (hr : va_Run p l e R s m args below meth c H locs cells slots mc ms (F0 m pc ls st0) rest (va_Qq (fun r (_ : Unit) => r = r0.map ad) (fun _ => CB D ct ka ad g2 (aC ad g H.size)) (aC ad g H.size) av) (aC ad g H.size))
    (kk : ∀ (H : Heap) (locs : List Loc), Cp D ka ad ct A H0 g2 H locs → W p l e R s m args below meth c H locs (cells + mc) (slots + ms) Q (F0 m (pc + 3) ls (va_rf (r0.map ad) :: rest))) : W p l e R s m args below meth c H locs cells slots Q (F0 m pc ls st0) :=
  va_callq hr hp.2.1 (fun q _ hq => q_free hp hA q hq) (q_free hp hA) (fun r u t H1 locs ht hvm hw hB hz1 hk1 hS => by subst hw; exact kk H1 locs (Cp.back hA hp hB ht hS))
theorem Cp.end {g1 g2 : CS} {t : State} (he : g1 = g2) (hp : Cp D ka ad ct A s.heap g1 H locs) (ht : t.heap = H) : CB D ct ka ad g2 A t := by
  subst he
  exact ⟨fun i a b => by rw [ht]; exact hp.1 i a b, hp.2.2.1, by rw [ht]; exact hp.2.2.2⟩
/-- references that may be null -/
theorem o_aload_n (hexec : p.tables.exec = Jvm.exec) (hb : c.code = cc) {k : Fin 4} {i : Nat} {o : Option Nat} (hdg : decode cc pc = .ok (.aload_n k, 1)) (hi : (k : Nat) = i) (hl : ls[i]? = some (.val (va_rf o))) (kk : W p l e R s m args below meth c H locs cells slots Q (F0 m (pc + 1) ls (va_rf o :: rest))) : W p l e R s m args below meth c H locs cells slots Q (F0 m pc ls rest) := by
  cases o with
  | none => exact lv_aload_nN hexec hb hdg hi hl kk
  | some a => exact lv_aload_n hexec hb hdg hi hl kk
theorem o_aload (hexec : p.tables.exec = Jvm.exec) (hb : c.code = cc) {i : Nat} {o : Option Nat} (hdg : decode cc pc = .ok (.aload i, 2)) (hl : ls[i]? = some (.val (va_rf o))) (kk : W p l e R s m args below meth c H locs cells slots Q (F0 m (pc + 2) ls (va_rf o :: rest))) : W p l e R s m args below meth c H locs cells slots Q (F0 m pc ls rest) := by
  cases o with
  | none => exact lv_aloadN hexec hb hdg hl kk
  | some a => exact lv_aload hexec hb hdg hl kk
theorem o_astore_n (hexec : p.tables.exec = Jvm.exec) (hb : c.code = cc) {k : Fin 4} {i nL : Nat} {o : Option Nat} {lv lv' : List (Nat × Value)} (hdg : decode cc pc = .ok (.astore_n k, 1)) (hi : (k : Nat) = i) (h : lv_has ls nL lv) (hn : i < nL) (hl : (i, va_rf o) :: lv.filter (fun q => !(q.1 == i) && !(q.1 + 1 == i && q.2.category == 2)) = lv') (kk : ∀ ls : Array Slot, lv_has ls nL lv' → W p l e R s m args below meth c H locs cells slots Q (F0 m (pc + 1) ls rest)) : W p l e R s m args below meth c H locs cells slots Q (F0 m pc ls (va_rf o :: rest)) := by
  cases o with
  | none => exact lv_astore_nN hexec hb hdg hi h hn hl kk
  | some a => exact lv_astore_n hexec hb hdg hi h hn hl kk
theorem o_astore (hexec : p.tables.exec = Jvm.exec) (hb : c.code = cc) {i nL : Nat} {o : Option Nat} {lv lv' : List (Nat × Value)} (hdg : decode cc pc = .ok (.astore i, 2)) (h : lv_has ls nL lv) (hn : i < nL) (hl : (i, va_rf o) :: lv.filter (fun q => !(q.1 == i) && !(q.1 + 1 == i && q.2.category == 2)) = lv') (kk : ∀ ls : Array Slot, lv_has ls nL lv' → W p l e R s m args below meth c H locs cells slots Q (F0 m (pc + 2) ls rest)) : W p l e R s m args below meth c H locs cells slots Q (F0 m pc ls (va_rf o :: rest)) := by
  cases o with
  | none => exact lv_astoreN hexec hb hdg h hn hl kk
  | some a => exact lv_astore hexec hb hdg h hn hl kk
theorem o_ifnull (hexec : p.tables.exec = Jvm.exec) (hb : c.code = cc) {o : Option Nat} {off : Int} {tgt : Nat} (hdg : decode cc pc = .ok (.ifnull off, 3)) (ht : (pc : Int) + off = (tgt : Int)) (kt : o = none → W p l e R s m args below meth c H locs cells slots Q (F0 m tgt ls rest)) (kf : ¬ o = none → W p l e R s m args below meth c H locs cells slots Q (F0 m (pc + 3) ls rest)) : W p l e R s m args below meth c H locs cells slots Q (F0 m pc ls (va_rf (o.map ad) :: rest)) := by
  cases o with
  | none => exact lv_ifnullN hexec hb hdg ht (kt rfl)
  | some a => exact lv_ifnull hexec hb hdg (kf (fun h => by cases h))
theorem o_ifnonnull (hexec : p.tables.exec = Jvm.exec) (hb : c.code = cc) {o : Option Nat} {off : Int} {tgt : Nat} (hdg : decode cc pc = .ok (.ifnonnull off, 3)) (ht : (pc : Int) + off = (tgt : Int)) (kt : ¬ o = none → W p l e R s m args below meth c H locs cells slots Q (F0 m tgt ls rest)) (kf : o = none → W p l e R s m args below meth c H locs cells slots Q (F0 m (pc + 3) ls rest)) : W p l e R s m args below meth c H locs cells slots Q (F0 m pc ls (va_rf (o.map ad) :: rest)) := by
  cases o with
  | none => exact lv_ifnonnullN hexec hb hdg (kf rfl)
  | some a => exact lv_ifnonnull hexec hb hdg ht (kt (fun h => by cases h))
theorem o_at {pcc : Nat} {ls : Array Slot} {o : Option Nat} {a : Nat} {st : List Value} (ho : o = some a) (kk : W p l e R s m args below meth c H locs cells slots Q (F0 m pcc ls (.ref (ad a) :: st))) : W p l e R s m args below meth c H locs cells slots Q (F0 m pcc ls (va_rf (o.map ad) :: st)) := by
  subst ho
  exact kk
theorem o_at1 {pcc : Nat} {ls : Array Slot} {o : Option Nat} {a : Nat} {v : Value} {st : List Value} (ho : o = some a) (kk : W p l e R s m args below meth c H locs cells slots Q (F0 m pcc ls (v :: .ref (ad a) :: st))) : W p l e R s m args below meth c H locs cells slots Q (F0 m pcc ls (v :: va_rf (o.map ad) :: st)) := by
  subst ho
  exact kk
theorem o_at2 {pcc : Nat} {ls : Array Slot} {o : Option Nat} {a : Nat} {v w : Value} {st : List Value} (ho : o = some a) (kk : W p l e R s m args below meth c H locs cells slots Q (F0 m pcc ls (v :: w :: .ref (ad a) :: st))) : W p l e R s m args below meth c H locs cells slots Q (F0 m pcc ls (v :: w :: va_rf (o.map ad) :: st)) := by
  subst ho
  exact kk
end QC
theorem rf_nar {ty : FieldType} {C : String} (h : ty = .object C) (o : Option Nat) : narrow ty (va_rf o) = va_rf o ∧ fits ty (va_rf o) = true := by
  subst h
  cases o with
  | none => exact ⟨rfl, rfl⟩
  | some a => exact ⟨rfl, rfl⟩
theorem rf_narA {ty t : FieldType} (h : ty = .array t) (o : Option Nat) : narrow ty (va_rf o) = va_rf o ∧ fits ty (va_rf o) = true := by
  subst h
  cases o with
  | none => exact ⟨rfl, rfl⟩
  | some a => exact ⟨rfl, rfl⟩

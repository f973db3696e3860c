/-- what is said of String's switch for compact texts -/
def cz (A : Nat → Prop) (U : State) (H : Heap) : Prop := va_Z "java/lang/String" "COMPACT_STRINGS" "Z" (.int 1) A U H
/-- links to nest mates, and the arrays of references that may be made -/
def NX (U : State) : Prop := va_Nw (.methodLinkNest RX3 21 yX2_init "RecordBench") U ∧ va_Nw (.methodLinkNest RX4 21 yX2_init "RecordBench") U ∧ va_Nw (.methodLinkNest RX6 38 yX1_init "RecordBench") U ∧ va_AO RX5 U ∧ va_AO RX1 U ∧ va_AO RX2 U ∧ va_AO RX0 U
theorem NX.warm {s U : State} (hW : s.WarmedH U.vm) (h : NX s) : NX U :=
  ⟨va_Nw.warmM hW h.1, va_Nw.warmM hW h.2.1, va_Nw.warmM hW h.2.2.1, va_AO.moved hW.alike h.2.2.2.1, va_AO.moved hW.alike h.2.2.2.2.1, va_AO.moved hW.alike h.2.2.2.2.2.1, va_AO.moved hW.alike h.2.2.2.2.2.2⟩
theorem NX.same {s U : State} (hv : s.vm = U.vm) (h : NX s) : NX U :=
  ⟨va_Nw.same rfl hv h.1, va_Nw.same rfl hv h.2.1, va_Nw.same rfl hv h.2.2.1, va_AO.moved (hv ▸ Vm.Alike.refl s.vm) h.2.2.2.1, va_AO.moved (hv ▸ Vm.Alike.refl s.vm) h.2.2.2.2.1, va_AO.moved (hv ▸ Vm.Alike.refl s.vm) h.2.2.2.2.2.1, va_AO.moved (hv ▸ Vm.Alike.refl s.vm) h.2.2.2.2.2.2⟩
/-- a method's start: the world, the tables, the links -/
def Pr (D : va_G) (tys : List (ClassId × FieldType)) (w0 : va_W) (sz : Nat) (U : State) : Prop := U.heap.size = sz ∧ va_P D vwCl w0 U.heap ∧ va_K D vwCl tys U ∧ va_D (fun _ => True) w0 ∧ NX U ∧ cz (va_A w0 sz) U U.heap
theorem Pr.blind {D : va_G} {tys : List (ClassId × FieldType)} {w0 : va_W} {sz : Nat} (av : List Value) : FrameBlind (va_Pc av (Pr D tys w0 sz)) := by
  intro a U g mk q
  obtain ⟨q0, q1, qP, qK, qD, qN, qZ⟩ := q
  exact ⟨q0, q1, qP, va_K.moved (u := U) (U := U.calling g mk a) (Vm.Alike.refl U.vm) qK, qD, NX.same (s := U) (U := U.calling g mk a) rfl qN, va_Z.moved (u := U) (U := U.calling g mk a) (Vm.Alike.refl U.vm) qZ⟩
theorem Pr.at {D : va_G} {tys : List (ClassId × FieldType)} {w0 : va_W} {s U : State} {H : Heap} {A A0 : Nat → Prop} {locs : List Loc} (hP : va_P D vwCl w0 H) (hK : va_K D vwCl tys s) (hD : va_D A w0) (hN : NX s) (hZ : cz A0 s s.heap) (hS : va_S A0 s.heap H locs) (hF : ∀ q, va_A w0 H.size q → A0 q) (hU : U.heap = H) (hW : s.WarmedH U.vm) : Pr D tys w0 H.size U := by
  refine ⟨by rw [hU], by rw [hU]; exact hP, va_K.moved hW.alike hK, hD.weaken (fun _ _ _ _ => trivial), NX.warm hW hN, ?_⟩
  rw [hU]
  exact va_Z.narrow (va_Z.kept (va_Z.moved hW.alike hZ) hS.2.1) hF
/-- a method's end: the world behind it -/
abbrev Bq {S : Type} (D : va_G) (w : S → va_W) (ty : S → List (ClassId × FieldType)) (A : Nat → Prop) (u : S) (t : State) : Prop := va_P D vwCl (w u) t.heap ∧ va_K D vwCl (ty u) t ∧ va_D A (w u)
theorem Bq.join {S : Type} {D : va_G} {w : S → va_W} {ty : S → List (ClassId × FieldType)} {u : S} {t s : State} {A0 : Nat → Prop} {ws wc wr : va_W} {tys : List (ClassId × FieldType)} {H H1 : Heap} (hB : Bq D w ty (va_A wc H.size) u t) (ht : t.heap = H1) (hvm : s.vm.Alike t.vm) (hP : va_P D vwCl ws H) (hD : va_D A0 ws) (isC isR : List Nat) (hC : isC.map (fun i => ws[i]?) = wc.map some) (hR : isR.map (fun i => ws[i]?) = wr.map some) (hn : va_nd isR = true) (hdis : ∀ i ∈ isR, i ∉ isC)
    (hk : ∀ q : Nat, q < H.size → ¬ va_A wc H.size q → H1[q]? = H[q]?) (hF : ∀ q, va_A wc H.size q → A0 q) (hK : va_K D vwCl tys s) : va_P D vwCl (wr ++ w u) H1 ∧ va_D A0 (wr ++ w u) ∧ va_K D vwCl (tys ++ ty u) s := by
  obtain ⟨hP1, hK1, hD1⟩ := hB
  rw [ht] at hP1
  obtain ⟨h1, h2⟩ := va_join hP hD isC isR hC hR hn hdis hk hF hP1 hD1
  exact ⟨h1, h2, hK.app (va_K.moved hvm.symm hK1)⟩
/-- two ways that come together: the rest is walked once -/
theorem W_join {α : Type} {p : Program} {l : Launch} {e : Env} {R : Room} {s : State} {m : MethodId} {args : Array Value} {below : List Frame} {meth : Method} {c : Code} {H : Heap} {locs : List Loc} {cells slots : Nat} {Q : State → Prop} {at' pc nL : Nat} {ls0 : Array Slot} {st st0 : List Value} (lv : α → List (Nat × Value))
    (k : ∀ (g : α) (ls : Array Slot), lv_has ls nL (lv g) → W p l e R s m args below meth c H locs cells slots Q (F0 m at' ls st))
    (b : (∀ (g : α) (ls : Array Slot), lv_has ls nL (lv g) → W p l e R s m args below meth c H locs cells slots Q (F0 m at' ls st)) → W p l e R s m args below meth c H locs cells slots Q (F0 m pc ls0 st0)) : W p l e R s m args below meth c H locs cells slots Q (F0 m pc ls0 st0) := b k
theorem W_toi {p : Program} {l : Launch} {e : Env} {R : Room} {s : State} {m : MethodId} {args : Array Value} {below : List Frame} {meth : Method} {c : Code} {H : Heap} {locs : List Loc} {cells slots : Nat} {Q : State → Prop} {pc : Nat} {ls : Array Slot} {rest : List Value} {x y : Int32} (h : x = y) (k : W p l e R s m args below meth c H locs cells slots Q (F0 m pc ls (.int y :: rest))) : W p l e R s m args below meth c H locs cells slots Q (F0 m pc ls (.int x :: rest)) := h ▸ k
theorem W_tol {p : Program} {l : Launch} {e : Env} {R : Room} {s : State} {m : MethodId} {args : Array Value} {below : List Frame} {meth : Method} {c : Code} {H : Heap} {locs : List Loc} {cells slots : Nat} {Q : State → Prop} {pc : Nat} {ls : Array Slot} {rest : List Value} {x y : Int64} (h : x = y) (k : W p l e R s m args below meth c H locs cells slots Q (F0 m pc ls (.long y :: rest))) : W p l e R s m args below meth c H locs cells slots Q (F0 m pc ls (.long x :: rest)) := h ▸ k
theorem nb4 {k : Nat} (h : k ≤ 400) : k * componentBytes .int ≤ 536870912 := by
  have e4 : componentBytes .int = 4 := rfl
  rw [e4]
  omega

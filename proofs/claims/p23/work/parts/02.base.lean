/-- what is said of String's switch for compact texts -/
def cz (A : Nat → Prop) (U : State) (H : Heap) : Prop := va_Z "java/lang/String" "COMPACT_STRINGS" "Z" (.int 1) A U H
def isNest : Cond → Bool
  | .fieldLinkNest _ _ _ _ _ _ => true
  | .methodLinkNest _ _ _ _ => true
  | _ => false
theorem nest_warm {w : Cond} (hw : isNest w = true) {s U : State} (hW : s.WarmedH U.vm) (h : va_Nw w s) : va_Nw w U := by
  cases w <;> first | exact va_Nw.warmF hW h | exact va_Nw.warmM hW h | (exact absurd hw (by simp [isNest]))
theorem nest_same {w : Cond} (hw : isNest w = true) {s U : State} (hv : s.vm = U.vm) (h : va_Nw w s) : va_Nw w U := by
  cases w <;> first | exact va_Nw.same rfl hv h | (exact absurd hw (by simp [isNest]))
/-- links to nest mates -/
def NWL : List Cond := [.fieldLinkNest RX4 47 "RecordBench$Piece" "number" "I" "RecordBench", .fieldLinkNest RX3 47 "RecordBench$Piece" "number" "I" "RecordBench", .fieldLinkNest RX3 84 "RecordBench$Piece" "withLength" "Z" "RecordBench", .fieldLinkNest RX4 92 "RecordBench$Piece" "raw" "J" "RecordBench", .fieldLinkNest RX4 99 "RecordBench$Piece" "body" "I" "RecordBench", .fieldLinkNest RX3 64 "RecordBench$Piece" "body" "I" "RecordBench", .fieldLinkNest RX8 199 "RecordBench$Piece" "body" "I" "RecordBench", .fieldLinkNest RX4 70 "RecordBench$Piece" "end" "I" "RecordBench", .fieldLinkNest RX3 67 "RecordBench$Piece" "end" "I" "RecordBench", .fieldLinkNest RX8 202 "RecordBench$Piece" "end" "I" "RecordBench", .fieldLinkNest RX3 83 "RecordBench$Piece" "fault" "I" "RecordBench", .fieldLinkNest RX4 60 "RecordBench$Field" "number" "I" "RecordBench", .fieldLinkNest RX1 38 "RecordBench$Field" "number" "I" "RecordBench", .fieldLinkNest RX7 66 "RecordBench$Field" "number" "I" "RecordBench", .fieldLinkNest RX6 105 "RecordBench$Field" "number" "I" "RecordBench", .fieldLinkNest RX5 39 "RecordBench$Field" "number" "I" "RecordBench", .fieldLinkNest RX1 25 "RecordBench$Field" "kind" "I" "RecordBench", .fieldLinkNest RX7 54 "RecordBench$Field" "kind" "I" "RecordBench", .fieldLinkNest RX4 89 "RecordBench$Field" "kind" "I" "RecordBench", .fieldLinkNest RX8 104 "RecordBench$Field" "kind" "I" "RecordBench", .fieldLinkNest RX3 107 "RecordBench$Field" "kind" "I" "RecordBench", .fieldLinkNest RX6 132 "RecordBench$Field" "kind" "I" "RecordBench", .fieldLinkNest RX4 63 "RecordBench$Field" "group" "I" "RecordBench", .fieldLinkNest RX8 109 "RecordBench$Field" "group" "I" "RecordBench", .fieldLinkNest RX3 113 "RecordBench$Field" "group" "I" "RecordBench", .fieldLinkNest RX6 147 "RecordBench$Field" "group" "I" "RecordBench", .fieldLinkNest RX4 105 "RecordBench$Field" "rec" "I" "RecordBench", .fieldLinkNest RX3 70 "RecordBench$Field" "rec" "I" "RecordBench", .fieldLinkNest RX8 112 "RecordBench$Field" "rec" "I" "RecordBench", .fieldLinkNest RX7 72 "RecordBench$Field" "rec" "I" "RecordBench", .fieldLinkNest RX6 142 "RecordBench$Field" "rec" "I" "RecordBench", .fieldLinkNest RX1 28 "RecordBench$Field" "name" "Ljava/lang/String;" "RecordBench", .fieldLinkNest RX6 66 "RecordBench$Field" "name" "Ljava/lang/String;" "RecordBench", .fieldLinkNest RX8 115 "RecordBench$Field" "name" "Ljava/lang/String;" "RecordBench", .fieldLinkNest RX6 185 "RecordBench$Field" "text" "Ljava/lang/String;" "RecordBench", .fieldLinkNest RX6 167 "RecordBench$Field" "value" "J" "RecordBench", .methodLinkNest RX3 21 yX2_init "RecordBench", .methodLinkNest RX4 21 yX2_init "RecordBench", .methodLinkNest RX6 38 yX1_init "RecordBench", .methodLinkNest RX6 58 yX0_init "RecordBench", .methodLinkNest RX6 138 yX8_makeOf "RecordBench", .methodLinkNest RX3 75 yX8_makeOf "RecordBench", .methodLinkNest RX4 108 yX8_makeOf "RecordBench", .methodLinkNest RX8 213 yX7_firstNumber "RecordBench", .methodLinkNest RX7 19 yX8_makeOf "RecordBench", .methodLinkNest RX8 217 yX7_whyBy "RecordBench", .methodLinkNest RX8 209 yX7_breaks "RecordBench"]
theorem NWL_nest : ∀ w ∈ NWL, isNest w = true := by decide +kernel
def AOL : List String := [RX5, RX1, RX2, RX0]
/-- links to nest mates, and the arrays of references that may be made -/
def NX (U : State) : Prop := (∀ w ∈ NWL, va_Nw w U) ∧ ∀ C ∈ AOL, va_AO C U
theorem NX.warm {s U : State} (hW : s.WarmedH U.vm) (h : NX s) : NX U := ⟨fun w hw => nest_warm (NWL_nest w hw) hW (h.1 w hw), fun C hC => va_AO.moved hW.alike (h.2 C hC)⟩
theorem NX.same {s U : State} (hv : s.vm = U.vm) (h : NX s) : NX U := ⟨fun w hw => nest_same (NWL_nest w hw) hv (h.1 w hw), fun C hC => va_AO.moved (hv ▸ Vm.Alike.refl s.vm) (h.2 C hC)⟩
/-- cells that are read alone: they lie outside of what a method may change -/
def RO (D : va_G) (P : va_W) (A : Nat → Prop) (H : Heap) : Prop := va_P D vwCl P H ∧ ∀ (k : Nat) (q : Nat × va_E), P[k]? = some q → ¬ A q.1
theorem RO.nil {D : va_G} {A : Nat → Prop} {H : Heap} : RO D [] A H := ⟨fun k q h => by simp at h, fun k q h => by simp at h⟩
theorem RO.now {D : va_G} {P : va_W} {A : Nat → Prop} {H0 H : Heap} {locs : List Loc} (h : RO D P A H0) (hS : va_S A H0 H locs) : va_P D vwCl P H := h.1.kept (fun k q hk => hS.2.1 q.1 (h.1 k q hk).lt (h.2 k q hk))
theorem RO.sub {D : va_G} {P : va_W} {A A1 : Nat → Prop} {H0 H : Heap} {locs : List Loc} (h : RO D P A H0) (hS : va_S A H0 H locs) (hF : ∀ q, A1 q → A q) : RO D P A1 H := ⟨h.now hS, fun k q hk h1 => h.2 k q hk (hF q.1 h1)⟩
/-- a method's start: the world, the tables, the links, what is read alone -/
def Pr (D : va_G) (tys : List (ClassId × FieldType)) (P : va_W) (w0 : va_W) (sz : Nat) (U : State) : Prop := U.heap.size = sz ∧ va_P D vwCl w0 U.heap ∧ va_K D vwCl tys U ∧ va_D (fun _ => True) w0 ∧ NX U ∧ cz (va_A w0 sz) U U.heap ∧ RO D P (va_A w0 sz) U.heap
theorem Pr.blind {D : va_G} {tys : List (ClassId × FieldType)} {P w0 : va_W} {sz : Nat} (av : List Value) : FrameBlind (va_Pc av (Pr D tys P w0 sz)) := by
  intro a U g mk q
  obtain ⟨q0, q1, qP, qK, qD, qN, qZ, qR⟩ := q
  exact ⟨q0, q1, qP, va_K.moved (u := U) (U := U.calling g mk a) (Vm.Alike.refl U.vm) qK, qD, NX.same (s := U) (U := U.calling g mk a) rfl qN, va_Z.moved (u := U) (U := U.calling g mk a) (Vm.Alike.refl U.vm) qZ, qR⟩
theorem Pr.at {D : va_G} {tys : List (ClassId × FieldType)} {P w0 : va_W} {s U : State} {H : Heap} {A A0 : Nat → Prop} {locs : List Loc} (hP : va_P D vwCl w0 H) (hK : va_K D vwCl tys s) (hD : va_D A w0) (hN : NX s) (hZ : cz A0 s s.heap) (hR : RO D P A0 s.heap) (hS : va_S A0 s.heap H locs) (hF : ∀ q, va_A w0 H.size q → A0 q) (hU : U.heap = H) (hW : s.WarmedH U.vm) : Pr D tys P w0 H.size U := by
  refine ⟨by rw [hU], by rw [hU]; exact hP, va_K.moved hW.alike hK, hD.weaken (fun _ _ _ _ => trivial), NX.warm hW hN, ?_, ?_⟩
  · rw [hU]
    exact va_Z.narrow (va_Z.kept (va_Z.moved hW.alike hZ) hS.2.1) hF
  · rw [hU]
    exact hR.sub hS hF
/-- a method's end: the world behind it -/
abbrev Bq {S : Type} (D : va_G) (w : S → va_W) (ty : S → List (ClassId × FieldType)) (A : Nat → Prop) (u : S) (t : State) : Prop := va_P D vwCl (w u) t.heap ∧ va_K D vwCl (ty u) t ∧ va_D A (w u)
theorem Bq.join {S : Type} {D : va_G} {w : S → va_W} {ty : S → List (ClassId × FieldType)} {u : S} {t s : State} {A0 : Nat → Prop} {ws wc wr : va_W} {tys : List (ClassId × FieldType)} {H H1 : Heap} (hB : Bq D w ty (va_A wc H.size) u t) (ht : t.heap = H1) (hvm : s.vm.Alike t.vm) (hP : va_P D vwCl ws H) (hD : va_D A0 ws) (isC isR : List Nat) (hC : isC.map (fun i => ws[i]?) = wc.map some) (hR : isR.map (fun i => ws[i]?) = wr.map some) (hn : va_nd isR = true) (hdis : ∀ i ∈ isR, i ∉ isC)
    (hk : ∀ q : Nat, q < H.size → ¬ va_A wc H.size q → H1[q]? = H[q]?) (hF : ∀ q, va_A wc H.size q → A0 q) (hK : va_K D vwCl tys s) : va_P D vwCl (wr ++ w u) H1 ∧ va_D A0 (wr ++ w u) ∧ va_K D vwCl (tys ++ ty u) s := by
  obtain ⟨hP1, hK1, hD1⟩ := hB
  rw [ht] at hP1
  obtain ⟨h1, h2⟩ := va_join hP hD isC isR hC hR hn hdis hk hF hP1 hD1
  exact ⟨h1, h2, hK.app (va_K.moved hvm.symm hK1)⟩
/-- two ways that come together: the rest is walked once -/
theorem W_join {α : Type} {p : Program} {l : Launch} {e : Env} {R : Room} {s : State} {m : MethodId} {args : Array Value} {below : List Frame} {meth : Method} {c : Code} {H : Heap} {locs : List Loc} {cells slots : Nat} {Q : State → Prop} {at' pc nL : Nat} {ls0 : Array Slot} {st st0 : List Value} (lv : α → List (Nat × Value))
    (k : ∀ (g : α) (ls : Array Slot), lv_has ls nL (lv g) → W p l e R s m args below meth c H locs cells slots Q (F0 m at' ls st))
    (b : (∀ (g : α) (ls : Array Slot), lv_has ls nL (lv g) → W p l e R s m args below meth c H locs cells slots Q (F0 m at' ls st)) → W p l e R s m args below meth c H locs cells slots Q (F0 m pc ls0 st0)) : W p l e R s m args below meth c H locs cells slots Q (F0 m pc ls0 st0) := b k
theorem W_toi {p : Program} {l : Launch} {e : Env} {R : Room} {s : State} {m : MethodId} {args : Array Value} {below : List Frame} {meth : Method} {c : Code} {H : Heap} {locs : List Loc} {cells slots : Nat} {Q : State → Prop} {pc : Nat} {ls : Array Slot} {rest : List Value} {x y : Int32} (h : x = y) (k : W p l e R s m args below meth c H locs cells slots Q (F0 m pc ls (.int y :: rest))) : W p l e R s m args below meth c H locs cells slots Q (F0 m pc ls (.int x :: rest)) := h ▸ k
theorem W_tol {p : Program} {l : Launch} {e : Env} {R : Room} {s : State} {m : MethodId} {args : Array Value} {below : List Frame} {meth : Method} {c : Code} {H : Heap} {locs : List Loc} {cells slots : Nat} {Q : State → Prop} {pc : Nat} {ls : Array Slot} {rest : List Value} {x y : Int64} (h : x = y) (k : W p l e R s m args below meth c H locs cells slots Q (F0 m pc ls (.long y :: rest))) : W p l e R s m args below meth c H locs cells slots Q (F0 m pc ls (.long x :: rest)) := h ▸ k
theorem nb4 {k : Nat} (h : k ≤ 400) : k * componentBytes .int ≤ 536870912 := by
  have e4 : componentBytes .int = 4 := rfl
  rw [e4]
  omega
theorem rf_or (o : Option Nat) : va_rf o = .null ∨ ∃ a, va_rf o = .ref a := by
  cases o with
  | none => exact Or.inl rfl
  | some a => exact Or.inr ⟨a, rfl⟩
theorem in_of {x : Int32} (n : Nat) {N : Int32} (hN : nI n = N) (hn : n < 2 ^ 31) (h1 : ¬ x < 0) (h2 : ¬ N ≤ x) : vp_in x n := by
  subst hN
  obtain ⟨j, hj, rfl⟩ := nI_of h1
  rcases Nat.lt_or_ge j n with h | h
  · exact vp_in_nI h hn
  · exact absurd (nI_le h hj) h2
theorem rec4 {x : Int32} {f : Nat → Option Nat} {a b c d : Nat} (h : vp_in x 4) (h0 : f 0 = some a) (h1 : f 1 = some b) (h2 : f 2 = some c) (h3 : f 3 = some d) : f x.toNatClampNeg = some a ∨ f x.toNatClampNeg = some b ∨ f x.toNatClampNeg = some c ∨ f x.toNatClampNeg = some d := by
  obtain ⟨j, hj, rfl⟩ := vp_in_of h (by decide)
  rw [nI_clamp (by omega)]
  rcases (show j = 0 ∨ j = 1 ∨ j = 2 ∨ j = 3 by omega) with rfl | rfl | rfl | rfl
  · exact Or.inl h0
  · exact Or.inr (Or.inl h1)
  · exact Or.inr (Or.inr (Or.inl h2))
  · exact Or.inr (Or.inr (Or.inr h3))
theorem nlt0 {x : Int32} (h : ¬ x < 0) : 0 ≤ x := Int32.not_lt.mp h
theorem in_mn {x : Int32} (h : vp_in x 8) (n : Nat) (hn : n < 31) : vp_in (31 * x + nI n) 248 := by
  obtain ⟨j, hj, rfl⟩ := vp_in_of h (by decide)
  show vp_in (nI 31 * nI j + nI n) 248
  rw [pk_mul, nI_add]
  exact vp_in_nI (by omega) (by decide)
set_option maxRecDepth 20000 in
theorem fsJ4_ok : ∀ j, j < 4 → defaultValue (tyJ4 j) = vp_V [.null, .int 0, .int 0, .int 0] j := fun j hj => by
  rcases (show j = 0 ∨ j = 1 ∨ j = 2 ∨ j = 3 by omega) with rfl | rfl | rfl | rfl <;> rfl
set_option maxRecDepth 20000 in
theorem fsX0_ok : ∀ j, j < 7 → defaultValue (tyX0 j) = vp_V [.int 0, .int 0, .int 0, .int 0, .null, .null, .long 0] j := fun j hj => by
  rcases (show j = 0 ∨ j = 1 ∨ j = 2 ∨ j = 3 ∨ j = 4 ∨ j = 5 ∨ j = 6 by omega) with rfl | rfl | rfl | rfl | rfl | rfl | rfl <;> rfl
set_option maxRecDepth 20000 in
theorem fsX1_ok : ∀ j, j < 2 → defaultValue (tyX1 j) = vp_V [.null, .int 0] j := fun j hj => by
  rcases (show j = 0 ∨ j = 1 by omega) with rfl | rfl <;> rfl
set_option maxRecDepth 20000 in
theorem fsX2_ok : ∀ j, j < 8 → defaultValue (tyX2 j) = vp_V [.int 0, .int 0, .long 0, .int 0, .int 0, .int 0, .int 0, .int 0] j := fun j hj => by
  rcases (show j = 0 ∨ j = 1 ∨ j = 2 ∨ j = 3 ∨ j = 4 ∨ j = 5 ∨ j = 6 ∨ j = 7 by omega) with rfl | rfl | rfl | rfl | rfl | rfl | rfl | rfl <;> rfl
set_option maxRecDepth 20000 in
theorem fsX3_ok : ∀ j, j < 4 → defaultValue (tyX3 j) = vp_V [.null, .null, .int 0, .int 0] j := fun j hj => by
  rcases (show j = 0 ∨ j = 1 ∨ j = 2 ∨ j = 3 by omega) with rfl | rfl | rfl | rfl <;> rfl
set_option maxRecDepth 20000 in
theorem fsX4_ok : ∀ j, j < 3 → defaultValue (tyX4 j) = vp_V [.null, .null, .null] j := fun j hj => by
  rcases (show j = 0 ∨ j = 1 ∨ j = 2 by omega) with rfl | rfl | rfl <;> rfl
set_option maxRecDepth 20000 in
theorem fsX5_ok : ∀ j, j < 2 → defaultValue (tyX5 j) = vp_V [.null, .int 0] j := fun j hj => by
  rcases (show j = 0 ∨ j = 1 by omega) with rfl | rfl <;> rfl
set_option maxRecDepth 20000 in
theorem fsX6_ok : ∀ j, j < 6 → defaultValue (tyX6 j) = vp_V [.null, .null, .null, .int 0, .int 0, .int 0] j := fun j hj => by
  rcases (show j = 0 ∨ j = 1 ∨ j = 2 ∨ j = 3 ∨ j = 4 ∨ j = 5 by omega) with rfl | rfl | rfl | rfl | rfl | rfl <;> rfl
set_option maxRecDepth 20000 in
theorem fsX7_ok : ∀ j, j < 2 → defaultValue (tyX7 j) = vp_V [.null, .null] j := fun j hj => by
  rcases (show j = 0 ∨ j = 1 by omega) with rfl | rfl <;> rfl
set_option maxRecDepth 20000 in
theorem fsX8_ok : ∀ j, j < 12 → defaultValue (tyX8 j) = vp_V [.null, .null, .null, .null, .null, .null, .null, .null, .null, .int 0, .int 0, .int 0] j := fun j hj => by
  rcases (show j = 0 ∨ j = 1 ∨ j = 2 ∨ j = 3 ∨ j = 4 ∨ j = 5 ∨ j = 6 ∨ j = 7 ∨ j = 8 ∨ j = 9 ∨ j = 10 ∨ j = 11 by omega) with rfl | rfl | rfl | rfl | rfl | rfl | rfl | rfl | rfl | rfl | rfl | rfl <;> rfl
set_option maxRecDepth 20000 in
theorem fsX9_ok : ∀ j, j < 60 → defaultValue (tyX9 j) = vp_V [.null, .null, .null, .null, .null, .null, .null, .null, .null, .null, .int 0, .int 0, .int 0, .int 0, .int 0, .int 0, .int 0, .int 0, .int 0, .long 0, .long 0, .long 0, .long 0, .long 0, .long 0, .long 0, .long 0, .int 0, .null, .null, .null, .long 0, .int 0, .int 0, .int 0, .int 0, .int 0, .long 0, .int 0, .int 0, .int 0, .int 0, .null, .null, .null, .null, .null, .null, .null, .null, .null, .null, .null, .null, .null, .null, .int 0, .null, .null, .int 0] j := fun j hj => by
  rcases (show j = 0 ∨ j = 1 ∨ j = 2 ∨ j = 3 ∨ j = 4 ∨ j = 5 ∨ j = 6 ∨ j = 7 ∨ j = 8 ∨ j = 9 ∨ j = 10 ∨ j = 11 ∨ j = 12 ∨ j = 13 ∨ j = 14 ∨ j = 15 ∨ j = 16 ∨ j = 17 ∨ j = 18 ∨ j = 19 ∨ j = 20 ∨ j = 21 ∨ j = 22 ∨ j = 23 ∨ j = 24 ∨ j = 25 ∨ j = 26 ∨ j = 27 ∨ j = 28 ∨ j = 29 ∨ j = 30 ∨ j = 31 ∨ j = 32 ∨ j = 33 ∨ j = 34 ∨ j = 35 ∨ j = 36 ∨ j = 37 ∨ j = 38 ∨ j = 39 ∨ j = 40 ∨ j = 41 ∨ j = 42 ∨ j = 43 ∨ j = 44 ∨ j = 45 ∨ j = 46 ∨ j = 47 ∨ j = 48 ∨ j = 49 ∨ j = 50 ∨ j = 51 ∨ j = 52 ∨ j = 53 ∨ j = 54 ∨ j = 55 ∨ j = 56 ∨ j = 57 ∨ j = 58 ∨ j = 59 by omega) with rfl | rfl | rfl | rfl | rfl | rfl | rfl | rfl | rfl | rfl | rfl | rfl | rfl | rfl | rfl | rfl | rfl | rfl | rfl | rfl | rfl | rfl | rfl | rfl | rfl | rfl | rfl | rfl | rfl | rfl | rfl | rfl | rfl | rfl | rfl | rfl | rfl | rfl | rfl | rfl | rfl | rfl | rfl | rfl | rfl | rfl | rfl | rfl | rfl | rfl | rfl | rfl | rfl | rfl | rfl | rfl | rfl | rfl | rfl | rfl <;> rfl
/-- an object's fields as a function -/
def mo (g : Nat → Value) : List Value := (List.range 60).map g
theorem mo_len (g : Nat → Value) : (mo g).length = 60 := by simp [mo]
theorem mo_get (g : Nat → Value) {k : Nat} (h : k < 60) : (mo g)[k]? = some (g k) := by simp [mo, h]
theorem mo_set (g : Nat → Value) {k : Nat} (h : k < 60) {v : Value} : (mo g).set k v = mo (va_up g k v) := by
  apply List.ext_getElem?
  intro i
  by_cases hi : i = k
  · subst hi
    rw [List.getElem?_set_self (by rw [mo_len]; exact h), mo_get _ h, va_up_self]
  · rw [List.getElem?_set_ne (Ne.symm hi)]
    by_cases h60 : i < 60
    · rw [mo_get _ h60, mo_get _ h60, va_up_ne _ _ hi]
    · rw [List.getElem?_eq_none (by rw [mo_len]; omega), List.getElem?_eq_none (by rw [mo_len]; omega)]
/-- a loop, by a measure that falls -/
theorem W_loop {σ : Type} {p : Program} {l : Launch} {e : Env} {R : Room} {s : State} {m : MethodId} {args : Array Value} {below : List Frame} {meth : Method} {c : Code} {cells slots pc nL : Nat} {Q : State → Prop} {D : va_G} {A : Nat → Prop} {H0 : Heap} (st : List Value) (lv : σ → List (Nat × Value)) (w : σ → va_W) (I : σ → Prop) (μ : σ → Nat)
    (step : ∀ (u : σ), I u → ∀ (H : Heap) (locs : List Loc) (ls : Array Slot), va_P D vwCl (w u) H → va_D A (w u) → va_S A H0 H locs → lv_has ls nL (lv u) → (∀ (v : σ), μ v < μ u → I v → ∀ (H : Heap) (locs : List Loc) (ls : Array Slot), va_P D vwCl (w v) H → va_D A (w v) → va_S A H0 H locs → lv_has ls nL (lv v) → W p l e R s m args below meth c H locs cells slots Q (F0 m pc ls st)) → W p l e R s m args below meth c H locs cells slots Q (F0 m pc ls st))
    (u : σ) (hI : I u) (H : Heap) (locs : List Loc) (ls : Array Slot) (hP : va_P D vwCl (w u) H) (hD : va_D A (w u)) (hS : va_S A H0 H locs) (hl : lv_has ls nL (lv u)) : W p l e R s m args below meth c H locs cells slots Q (F0 m pc ls st) := by
  generalize hn : μ u = n
  induction n using Nat.strongRecOn generalizing u H locs ls with
  | _ n ih => exact step u hI H locs ls hP hD hS hl (fun v hv hIv H locs ls a b c d => ih (μ v) (by omega) v hIv H locs ls a b c d rfl)

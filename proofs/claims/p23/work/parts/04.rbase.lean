/-- an if for any proposition -/
noncomputable def pif {α : Type} (P : Prop) (a b : α) : α := @ite α P (Classical.propDecidable P) a b
theorem pif_pos {α : Type} {P : Prop} {a b : α} (h : P) : pif P a b = a := @if_pos P (Classical.propDecidable P) h α a b
theorem pif_neg {α : Type} {P : Prop} {a b : α} (h : ¬ P) : pif P a b = b := @if_neg P (Classical.propDecidable P) h α a b
theorem pif_t {α : Type} {P : Prop} {a b r : α} (h : P) (e : pif P a b = r) : a = r := (pif_pos h).symm.trans e
theorem pif_f {α : Type} {P : Prop} {a b r : α} (h : ¬ P) (e : pif P a b = r) : b = r := (pif_neg h).symm.trans e
/-- a guard -/
noncomputable def gd {α : Type} (P : Prop) (a : Option α) : Option α := pif P a none
theorem gd_pos {α : Type} {P : Prop} {a : Option α} (h : P) : gd P a = a := pif_pos h
theorem gd_some {α : Type} {P : Prop} {a : Option α} {r : α} (h : gd P a = some r) : P ∧ a = some r := by
  by_cases c : P
  · exact ⟨c, pif_t c h⟩
  · have e := pif_f c h
    cases e
/-- a name for a value -/
def nam {α β : Type} (x : α) (k : α → Option β) : Option β := k x
theorem nam_some {α β : Type} {x : α} {k : α → Option β} {r : β} (h : nam x k = some r) : ∃ y, y = x ∧ k y = some r := ⟨x, rfl, h⟩
/-- what comes behind a call -/
def bnd {α β σ : Type} (x : Option (α × σ)) (k : α → σ → Option β) : Option β := x.bind (fun q => k q.1 q.2)
theorem bnd_some {α β σ : Type} {x : Option (α × σ)} {k : α → σ → Option β} {r : β} (h : bnd x k = some r) : ∃ y t, x = some (y, t) ∧ k y t = some r := by
  cases x with
  | none => cases h
  | some q => exact ⟨q.1, q.2, rfl, h⟩
theorem bnd_of {α β σ : Type} {k : α → σ → Option β} {y : α} {t : σ} : bnd (some (y, t)) k = k y t := rfl
def bnv {β σ : Type} (x : Option σ) (k : σ → Option β) : Option β := x.bind k
theorem bnv_some {β σ : Type} {x : Option σ} {k : σ → Option β} {r : β} (h : bnv x k = some r) : ∃ t, x = some t ∧ k t = some r := by
  cases x with
  | none => cases h
  | some q => exact ⟨q, rfl, h⟩
theorem bnv_of {β σ : Type} {k : σ → Option β} {t : σ} : bnv (some t) k = k t := rfl
theorem pr_some {α σ : Type} {x r : α} {y t : σ} (h : some (x, y) = some (r, t)) : x = r ∧ y = t := by
  cases h
  exact ⟨rfl, rfl⟩
/-- how often a loop may turn -/
def fuel : Nat := 5000
/-- blocks that several ways come to -/
theorem W_blk {ι : Type} {p : Program} {l : Launch} {e : Env} {R : Room} {s : State} {m : MethodId} {args : Array Value} {below : List Frame} {meth : Method} {c : Code} {H : Heap} {locs : List Loc} {cells slots : Nat} {Q : State → Prop} {g : JFrame} (P : ι → Heap → List Loc → Array Slot → Prop) (fr : ι → Array Slot → JFrame)
    (k : ∀ (u : ι) (H : Heap) (locs : List Loc) (ls : Array Slot), P u H locs ls → W p l e R s m args below meth c H locs cells slots Q (fr u ls))
    (b : (∀ (u : ι) (H : Heap) (locs : List Loc) (ls : Array Slot), P u H locs ls → W p l e R s m args below meth c H locs cells slots Q (fr u ls)) → W p l e R s m args below meth c H locs cells slots Q g) : W p l e R s m args below meth c H locs cells slots Q g := b k
/-- a loop, by its fuel -/
theorem W_lp {ι : Type} {p : Program} {l : Launch} {e : Env} {R : Room} {s : State} {m : MethodId} {args : Array Value} {below : List Frame} {meth : Method} {c : Code} {H : Heap} {locs : List Loc} {cells slots : Nat} {Q : State → Prop} {g : JFrame} (P : Nat → ι → Heap → List Loc → Array Slot → Prop) (fr : ι → Array Slot → JFrame)
    (z : ∀ (u : ι) (H : Heap) (locs : List Loc) (ls : Array Slot), P 0 u H locs ls → False)
    (k : ∀ n : Nat, (∀ (u : ι) (H : Heap) (locs : List Loc) (ls : Array Slot), P n u H locs ls → W p l e R s m args below meth c H locs cells slots Q (fr u ls)) → ∀ (u : ι) (H : Heap) (locs : List Loc) (ls : Array Slot), P (n + 1) u H locs ls → W p l e R s m args below meth c H locs cells slots Q (fr u ls))
    (b : (∀ (n : Nat) (u : ι) (H : Heap) (locs : List Loc) (ls : Array Slot), P n u H locs ls → W p l e R s m args below meth c H locs cells slots Q (fr u ls)) → W p l e R s m args below meth c H locs cells slots Q g) : W p l e R s m args below meth c H locs cells slots Q g := by
  refine b (fun n => ?_)
  induction n with
  | zero => exact fun u H locs ls h => absurd h (z u H locs ls)
  | succ n ih => exact k n ih
/-- the reference's state: int fields, long fields, int rows, long rows, by the fields' numbers -/
abbrev RS : Type := (Nat → Int32) × (Nat → Int64) × (Nat → Nat → Int32) × (Nat → Nat → Int64)
def gI (st : RS) (k : Nat) : Int32 := st.1 k
def gJ (st : RS) (k : Nat) : Int64 := st.2.1 k
def gF (st : RS) (k : Nat) : Nat → Int32 := st.2.2.1 k
def gL (st : RS) (k : Nat) : Nat → Int64 := st.2.2.2 k
def sI (st : RS) (k : Nat) (v : Int32) : RS := (va_up st.1 k v, st.2)
def sJ (st : RS) (k : Nat) (v : Int64) : RS := (st.1, va_up st.2.1 k v, st.2.2)
def sF (st : RS) (k : Nat) (f : Nat → Int32) : RS := (st.1, st.2.1, va_up st.2.2.1 k f, st.2.2.2)
def sL (st : RS) (k : Nat) (f : Nat → Int64) : RS := (st.1, st.2.1, st.2.2.1, va_up st.2.2.2 k f)
/-- its fields: 0 int, 1 long, 2 row of ints, 3 of booleans, 4 of longs -/
def rK : List Nat := [3, 2, 2, 2, 2, 4, 4, 2, 3, 2, 0, 0, 0, 0, 0, 0, 0, 0, 0, 1, 1, 1, 1, 1, 1, 1, 1, 0, 2, 2, 2, 1, 0, 0, 0, 0, 0, 1, 0, 0, 0, 0, 2, 2, 2, 2, 4, 2, 2, 2, 2, 2, 2, 2, 2, 2, 0, 2, 2, 0]
def rkd (k : Nat) : Nat := rK.getD k 9
def rArr : List Nat := [0, 1, 2, 3, 4, 5, 6, 7, 8, 9, 28, 29, 30, 42, 43, 44, 45, 46, 47, 48, 49, 50, 51, 52, 53, 54, 55, 57, 58]
theorem rArr_nd : rArr.Nodup := by decide +kernel
def rLn : List Nat := [8, 248, 248, 248, 248, 248, 248, 2976, 248, 400, 0, 0, 0, 0, 0, 0, 0, 0, 0, 0, 0, 0, 0, 0, 0, 0, 0, 0, 480, 4, 160, 0, 0, 0, 0, 0, 0, 0, 0, 0, 0, 0, 64, 64, 64, 64, 64, 9, 9, 9, 9, 9, 1440, 9, 9, 200, 0, 1024, 1024, 0]
def rln (k : Nat) : Nat := rLn.getD k 0
def rty (k : Nat) : FieldType := if rkd k = 2 then .int else if rkd k = 3 then .boolean else .long
def rv (a : Nat → Nat) (st : RS) (k : Nat) : Value := if rkd k = 0 then .int (gI st k) else if rkd k = 1 then .long (gJ st k) else .ref (a k)
def ac (a : Nat → Nat) (c : Nat → ClassId) (st : RS) (k : Nat) : Nat × va_E := (a k, .inl (c k, rln k, if rkd k = 4 then .inr (.inl (gL st k)) else .inl (gF st k)))
/-- the reference's cells -/
def RW (h : Nat) (a : Nat → Nat) (c : Nat → ClassId) (st : RS) : va_W := (h, .inr (11, mo (rv a st))) :: rArr.map (ac a c st)
def rT (c : Nat → ClassId) : List (ClassId × FieldType) := rArr.map (fun k => (c k, rty k))
theorem map_set1 {α β : Type} {L : List α} {f g : α → β} {q : Nat} {x : α} (hn : L.Nodup) (hq : L[q]? = some x) (hne : ∀ y, y ≠ x → f y = g y) : (L.map f).set q (g x) = L.map g := by
  apply List.ext_getElem?
  intro i
  by_cases hi : q = i
  · subst hi
    rw [List.getElem?_set_self (by rw [List.length_map]; exact (List.getElem?_eq_some_iff.mp hq).1), List.getElem?_map, hq]
    rfl
  · rw [List.getElem?_set_ne hi, List.getElem?_map, List.getElem?_map]
    cases hy : L[i]? with
    | none => rfl
    | some y =>
      show some (f y) = some (g y)
      rw [hne y (fun e => hi (by
        obtain ⟨h1, e1⟩ := List.getElem?_eq_some_iff.mp hq
        obtain ⟨h2, e2⟩ := List.getElem?_eq_some_iff.mp hy
        exact (List.getElem_inj hn).mp (by rw [e1, e2, e])))]
theorem RW_F {h : Nat} {a : Nat → Nat} {c : Nat → ClassId} {st : RS} {q k : Nat} (hq : rArr[q]? = some k) (h4 : ¬ rkd k = 4) : (RW h a c st)[q + 1]? = some (a k, .inl (c k, rln k, .inl (gF st k))) := by
  unfold RW
  rw [List.getElem?_cons_succ, List.getElem?_map, hq]
  show some (ac a c st k) = _
  unfold ac
  rw [if_neg h4]
theorem RW_L {h : Nat} {a : Nat → Nat} {c : Nat → ClassId} {st : RS} {q k : Nat} (hq : rArr[q]? = some k) (h4 : rkd k = 4) : (RW h a c st)[q + 1]? = some (a k, .inl (c k, rln k, .inr (.inl (gL st k)))) := by
  unfold RW
  rw [List.getElem?_cons_succ, List.getElem?_map, hq]
  show some (ac a c st k) = _
  unfold ac
  rw [if_pos h4]
theorem rT_at {c : Nat → ClassId} {q k : Nat} {ty : FieldType} (hq : rArr[q]? = some k) (ht : rty k = ty) : (rT c)[q]? = some (c k, ty) := by
  unfold rT
  rw [List.getElem?_map, hq, ← ht]
  rfl
theorem RW_sF {h : Nat} {a : Nat → Nat} {c : Nat → ClassId} {st : RS} {q k : Nat} {f : Nat → Int32} (hq : rArr[q]? = some k) (h4 : ¬ rkd k = 4) : (RW h a c st).set (q + 1) (a k, .inl (c k, rln k, .inl f)) = RW h a c (sF st k f) := by
  show (h, _) :: ((rArr.map (ac a c st)).set q _) = (h, _) :: rArr.map (ac a c (sF st k f))
  have e : ac a c (sF st k f) k = (a k, .inl (c k, rln k, .inl f)) := by
    unfold ac
    rw [if_neg h4]
    show (a k, Sum.inl (c k, rln k, Sum.inl (va_up st.2.2.1 k f k))) = _
    rw [va_up_self]
  rw [← e, map_set1 rArr_nd hq (g := ac a c (sF st k f))]
  · rfl
  · intro y hy
    unfold ac
    show (a y, Sum.inl (c y, rln y, if rkd y = 4 then Sum.inr (Sum.inl (gL st y)) else Sum.inl (st.2.2.1 y))) = (a y, Sum.inl (c y, rln y, if rkd y = 4 then Sum.inr (Sum.inl (gL st y)) else Sum.inl (va_up st.2.2.1 k f y)))
    rw [va_up_ne _ _ hy]
theorem RW_sL {h : Nat} {a : Nat → Nat} {c : Nat → ClassId} {st : RS} {q k : Nat} {f : Nat → Int64} (hq : rArr[q]? = some k) (h4 : rkd k = 4) : (RW h a c st).set (q + 1) (a k, .inl (c k, rln k, .inr (.inl f))) = RW h a c (sL st k f) := by
  show (h, _) :: ((rArr.map (ac a c st)).set q _) = (h, _) :: rArr.map (ac a c (sL st k f))
  have e : ac a c (sL st k f) k = (a k, .inl (c k, rln k, .inr (.inl f))) := by
    unfold ac
    rw [if_pos h4]
    show (a k, Sum.inl (c k, rln k, Sum.inr (Sum.inl (va_up st.2.2.2 k f k)))) = _
    rw [va_up_self]
  rw [← e, map_set1 rArr_nd hq (g := ac a c (sL st k f))]
  · rfl
  · intro y hy
    unfold ac
    show (a y, Sum.inl (c y, rln y, if rkd y = 4 then Sum.inr (Sum.inl (st.2.2.2 y)) else Sum.inl (gF st y))) = (a y, Sum.inl (c y, rln y, if rkd y = 4 then Sum.inr (Sum.inl (va_up st.2.2.2 k f y)) else Sum.inl (gF st y)))
    rw [va_up_ne _ _ hy]
theorem rv_sI {a : Nat → Nat} {st : RS} {k : Nat} {v : Int32} (hk : rkd k = 0) : va_up (rv a st) k (.int v) = rv a (sI st k v) := by
  funext j
  by_cases hj : j = k
  · subst hj
    rw [va_up_self]
    unfold rv
    rw [if_pos hk]
    show _ = Value.int (va_up st.1 j v j)
    rw [va_up_self]
  · rw [va_up_ne _ _ hj]
    unfold rv
    show _ = if rkd j = 0 then Value.int (va_up st.1 k v j) else if rkd j = 1 then Value.long (gJ st j) else Value.ref (a j)
    rw [va_up_ne _ _ hj]
    rfl
theorem rv_sJ {a : Nat → Nat} {st : RS} {k : Nat} {v : Int64} (hk : rkd k = 1) : va_up (rv a st) k (.long v) = rv a (sJ st k v) := by
  funext j
  by_cases hj : j = k
  · subst hj
    rw [va_up_self]
    unfold rv
    rw [if_neg (by rw [hk]; decide), if_pos hk]
    show _ = Value.long (va_up st.2.1 j v j)
    rw [va_up_self]
  · rw [va_up_ne _ _ hj]
    unfold rv
    show _ = if rkd j = 0 then Value.int (gI st j) else if rkd j = 1 then Value.long (va_up st.2.1 k v j) else Value.ref (a j)
    rw [va_up_ne _ _ hj]
    rfl
theorem RW_sI {h : Nat} {a : Nat → Nat} {c : Nat → ClassId} {st : RS} {k : Nat} {v : Int32} (hk : k < 60) (h0 : rkd k = 0) : (RW h a c st).set 0 (h, .inr (11, (mo (rv a st)).set k (.int v))) = RW h a c (sI st k v) := by
  rw [mo_set _ hk, rv_sI h0]
  rfl
theorem RW_sJ {h : Nat} {a : Nat → Nat} {c : Nat → ClassId} {st : RS} {k : Nat} {v : Int64} (hk : k < 60) (h0 : rkd k = 1) : (RW h a c st).set 0 (h, .inr (11, (mo (rv a st)).set k (.long v))) = RW h a c (sJ st k v) := by
  rw [mo_set _ hk, rv_sJ h0]
  rfl
/-- the reference's cells stand in the heap, and nothing else has changed -/
def Rp (D : va_G) (h : Nat) (a : Nat → Nat) (ca : Nat → ClassId) (A : Nat → Prop) (H0 : Heap) (st : RS) (H : Heap) (locs : List Loc) : Prop := va_P D vwCl (RW h a ca st) H ∧ va_D A (RW h a ca st) ∧ va_S A H0 H locs
theorem r_free {A : Nat → Prop} {ws : va_W} {H0 H : Heap} {locs : List Loc} (hD : va_D A ws) (hS : va_S A H0 H locs) (hA : ∀ q, H0.size ≤ q → A q) : ∀ q, va_A ws H.size q → A q := by
  intro q h
  rcases h with ⟨k, e, h⟩ | h
  · exact hD.2 k (q, e) h
  · exact hA q (Nat.le_trans hS.1 h)
section RR
variable {p : Program} {l : Launch} {e : Env} {R : Room} {s : State} {m : MethodId} {args : Array Value} {below : List Frame} {meth : Method} {c : Code} {H : Heap} {locs : List Loc} {cells slots : Nat} {Q : State → Prop}
variable {cc : ByteArray} {pc : Nat} {ls : Array Slot} {rest : List Value} {D : va_G} {A : Nat → Prop} {H0 : Heap} {h : Nat} {a : Nat → Nat} {ca : Nat → ClassId} {st : RS} {own : String} {index : Nat} {Ts : List Cond}
theorem r_gi (hexec : p.tables.exec = Jvm.exec) (hb : c.code = cc) (hts : ∀ w ∈ Ts, w.before args s = true) (hin : ∀ w ∈ u_ws RX9 TX9 60, w ∈ Ts) (hown : s.vm.findClass own = some m.cls) (hK : va_K D vwCl (rT ca) s) (hp : Rp D h a ca A H0 st H locs) (k : Nat) (hk : k < 60) (hkd : rkd k = 0) (hlink : (Cond.fieldLink own index (TX9 k).1 (TX9 k).2.1 (TX9 k).2.2.1).before args s = true) (hdg : decode cc pc = .ok (.getfield index, 3))
    (kk : W p l e R s m args below meth c H locs cells slots Q (F0 m (pc + 3) ls (.int (gI st k) :: rest))) : W p l e R s m args below meth c H locs cells slots Q (F0 m pc ls (.ref h :: rest)) :=
  va_get (D := D) (ci := 11) (C := RX9) (T := TX9) (N := 60) hexec hb hts hin hown hK hp.1 0 rfl rfl k hk hlink (fun _ h9 => h9) (by rw [mo_get _ hk, rv, if_pos hkd]) hdg kk
theorem r_gj (hexec : p.tables.exec = Jvm.exec) (hb : c.code = cc) (hts : ∀ w ∈ Ts, w.before args s = true) (hin : ∀ w ∈ u_ws RX9 TX9 60, w ∈ Ts) (hown : s.vm.findClass own = some m.cls) (hK : va_K D vwCl (rT ca) s) (hp : Rp D h a ca A H0 st H locs) (k : Nat) (hk : k < 60) (hkd : rkd k = 1) (hlink : (Cond.fieldLink own index (TX9 k).1 (TX9 k).2.1 (TX9 k).2.2.1).before args s = true) (hdg : decode cc pc = .ok (.getfield index, 3))
    (kk : W p l e R s m args below meth c H locs cells slots Q (F0 m (pc + 3) ls (.long (gJ st k) :: rest))) : W p l e R s m args below meth c H locs cells slots Q (F0 m pc ls (.ref h :: rest)) :=
  va_get (D := D) (ci := 11) (C := RX9) (T := TX9) (N := 60) hexec hb hts hin hown hK hp.1 0 rfl rfl k hk hlink (fun _ h9 => h9) (by rw [mo_get _ hk, rv, if_neg (by rw [hkd]; decide), if_pos hkd]) hdg kk
theorem r_ga (hexec : p.tables.exec = Jvm.exec) (hb : c.code = cc) (hts : ∀ w ∈ Ts, w.before args s = true) (hin : ∀ w ∈ u_ws RX9 TX9 60, w ∈ Ts) (hown : s.vm.findClass own = some m.cls) (hK : va_K D vwCl (rT ca) s) (hp : Rp D h a ca A H0 st H locs) (k : Nat) (hk : k < 60) (hkd : 2 ≤ rkd k) (hlink : (Cond.fieldLink own index (TX9 k).1 (TX9 k).2.1 (TX9 k).2.2.1).before args s = true) (hdg : decode cc pc = .ok (.getfield index, 3))
    (kk : W p l e R s m args below meth c H locs cells slots Q (F0 m (pc + 3) ls (.ref (a k) :: rest))) : W p l e R s m args below meth c H locs cells slots Q (F0 m pc ls (.ref h :: rest)) :=
  va_get (D := D) (ci := 11) (C := RX9) (T := TX9) (N := 60) hexec hb hts hin hown hK hp.1 0 rfl rfl k hk hlink (fun _ h9 => h9) (by rw [mo_get _ hk, rv, if_neg (by omega), if_neg (by omega)]) hdg kk
theorem r_pi (hexec : p.tables.exec = Jvm.exec) (hb : c.code = cc) (hts : ∀ w ∈ Ts, w.before args s = true) (hin : ∀ w ∈ u_ws RX9 TX9 60, w ∈ Ts) (hown : s.vm.findClass own = some m.cls) (hK : va_K D vwCl (rT ca) s) (hp : Rp D h a ca A H0 st H locs) (k : Nat) (hk : k < 60) (hkd : rkd k = 0) (hlink : (Cond.fieldLink own index (TX9 k).1 (TX9 k).2.1 (TX9 k).2.2.1).before args s = true) (hfin : (TX9 k).2.2.2 = false) {ty : FieldType} {v : Int32} (hd : parseFieldDescriptor (TX9 k).2.2.1 = some ty) (hn : narrow ty (.int v) = .int v) (hfit : fits ty (.int v) = true) (hdg : decode cc pc = .ok (.putfield index, 3))
    (kk : ∀ (H : Heap) (locs : List Loc), Rp D h a ca A H0 (sI st k v) H locs → W p l e R s m args below meth c H locs cells slots Q (F0 m (pc + 3) ls rest)) : W p l e R s m args below meth c H locs cells slots Q (F0 m pc ls (.int v :: .ref h :: rest)) := by
  refine va_put (D := D) (ci := 11) (C := RX9) (T := TX9) (N := 60) hexec hb hts hin tyX9 tyX9_ok nmX9 hown hK hp.1 hp.2.1 hp.2.2 0 rfl rfl k hk hlink (fun _ h9 => h9) hfin hd hn hfit (by rw [mo_len]; exact hk) hdg (fun H locs h1 h2 h3 => ?_)
  rw [RW_sI hk hkd] at h1 h2
  exact kk H locs ⟨h1, h2, h3⟩
theorem r_pj (hexec : p.tables.exec = Jvm.exec) (hb : c.code = cc) (hts : ∀ w ∈ Ts, w.before args s = true) (hin : ∀ w ∈ u_ws RX9 TX9 60, w ∈ Ts) (hown : s.vm.findClass own = some m.cls) (hK : va_K D vwCl (rT ca) s) (hp : Rp D h a ca A H0 st H locs) (k : Nat) (hk : k < 60) (hkd : rkd k = 1) (hlink : (Cond.fieldLink own index (TX9 k).1 (TX9 k).2.1 (TX9 k).2.2.1).before args s = true) (hfin : (TX9 k).2.2.2 = false) {ty : FieldType} {v : Int64} (hd : parseFieldDescriptor (TX9 k).2.2.1 = some ty) (hn : narrow ty (.long v) = .long v) (hfit : fits ty (.long v) = true) (hdg : decode cc pc = .ok (.putfield index, 3))
    (kk : ∀ (H : Heap) (locs : List Loc), Rp D h a ca A H0 (sJ st k v) H locs → W p l e R s m args below meth c H locs cells slots Q (F0 m (pc + 3) ls rest)) : W p l e R s m args below meth c H locs cells slots Q (F0 m pc ls (.long v :: .ref h :: rest)) := by
  refine va_put (D := D) (ci := 11) (C := RX9) (T := TX9) (N := 60) hexec hb hts hin tyX9 tyX9_ok nmX9 hown hK hp.1 hp.2.1 hp.2.2 0 rfl rfl k hk hlink (fun _ h9 => h9) hfin hd hn hfit (by rw [mo_len]; exact hk) hdg (fun H locs h1 h2 h3 => ?_)
  rw [RW_sJ hk hkd] at h1 h2
  exact kk H locs ⟨h1, h2, h3⟩
theorem r_ai (hexec : p.tables.exec = Jvm.exec) (hb : c.code = cc) (hK : va_K D vwCl (rT ca) s) (hp : Rp D h a ca A H0 st H locs) (q k : Nat) (hq : rArr[q]? = some k) (hkd : rkd k = 2) {i : Int32} {n : Nat} (hn : rln k = n) (hin : vp_in i n) (hdg : decode cc pc = .ok (.iaload, 1))
    (kk : W p l e R s m args below meth c H locs cells slots Q (F0 m (pc + 1) ls (.int (gF st k i.toNatClampNeg) :: rest))) : W p l e R s m args below meth c H locs cells slots Q (F0 m pc ls (.int i :: .ref (a k) :: rest)) :=
  va_iald hexec hb hK hp.1 (q + 1) q (RW_F hq (by rw [hkd]; decide)) (rT_at hq (by rw [rty, if_pos hkd])) (by rw [hn]; exact hin) hdg kk
theorem r_az (hexec : p.tables.exec = Jvm.exec) (hb : c.code = cc) (hK : va_K D vwCl (rT ca) s) (hp : Rp D h a ca A H0 st H locs) (q k : Nat) (hq : rArr[q]? = some k) (hkd : rkd k = 3) {i : Int32} {n : Nat} (hn : rln k = n) (hin : vp_in i n) (hdg : decode cc pc = .ok (.baload, 1))
    (kk : W p l e R s m args below meth c H locs cells slots Q (F0 m (pc + 1) ls (.int (gF st k i.toNatClampNeg) :: rest))) : W p l e R s m args below meth c H locs cells slots Q (F0 m pc ls (.int i :: .ref (a k) :: rest)) :=
  va_zald hexec hb hK hp.1 (q + 1) q (RW_F hq (by rw [hkd]; decide)) (rT_at hq (by rw [rty, if_neg (by rw [hkd]; decide), if_pos hkd])) (by rw [hn]; exact hin) hdg kk
theorem r_aj (hexec : p.tables.exec = Jvm.exec) (hb : c.code = cc) (hK : va_K D vwCl (rT ca) s) (hp : Rp D h a ca A H0 st H locs) (q k : Nat) (hq : rArr[q]? = some k) (hkd : rkd k = 4) {i : Int32} {n : Nat} (hn : rln k = n) (hin : vp_in i n) (hdg : decode cc pc = .ok (.laload, 1))
    (kk : W p l e R s m args below meth c H locs cells slots Q (F0 m (pc + 1) ls (.long (gL st k i.toNatClampNeg) :: rest))) : W p l e R s m args below meth c H locs cells slots Q (F0 m pc ls (.int i :: .ref (a k) :: rest)) :=
  va_lald hexec hb hK hp.1 (q + 1) q (RW_L hq hkd) (rT_at hq (by rw [rty, if_neg (by rw [hkd]; decide), if_neg (by rw [hkd]; decide)])) (by rw [hn]; exact hin) hdg kk
theorem r_si (hexec : p.tables.exec = Jvm.exec) (hb : c.code = cc) (hK : va_K D vwCl (rT ca) s) (hp : Rp D h a ca A H0 st H locs) (q k : Nat) (hq : rArr[q]? = some k) (hkd : rkd k = 2) {i x : Int32} {n : Nat} (hn : rln k = n) (hin : vp_in i n) (hdg : decode cc pc = .ok (.iastore, 1))
    (kk : ∀ (H : Heap) (locs : List Loc), Rp D h a ca A H0 (sF st k (upd (gF st k) i.toNatClampNeg x)) H locs → W p l e R s m args below meth c H locs cells slots Q (F0 m (pc + 1) ls rest)) : W p l e R s m args below meth c H locs cells slots Q (F0 m pc ls (.int x :: .int i :: .ref (a k) :: rest)) := by
  refine va_iast hexec hb hK hp.1 hp.2.1 hp.2.2 (q + 1) q (RW_F hq (by rw [hkd]; decide)) (rT_at hq (by rw [rty, if_pos hkd])) (by rw [hn]; exact hin) hdg (fun H locs h1 h2 h3 => ?_)
  rw [RW_sF hq (by rw [hkd]; decide)] at h1 h2
  exact kk H locs ⟨h1, h2, h3⟩
theorem r_sz (hexec : p.tables.exec = Jvm.exec) (hb : c.code = cc) (hK : va_K D vwCl (rT ca) s) (hp : Rp D h a ca A H0 st H locs) (q k : Nat) (hq : rArr[q]? = some k) (hkd : rkd k = 3) {i x : Int32} {n : Nat} (hn : rln k = n) (hin : vp_in i n) (hdg : decode cc pc = .ok (.bastore, 1))
    (kk : ∀ (H : Heap) (locs : List Loc), Rp D h a ca A H0 (sF st k (upd (gF st k) i.toNatClampNeg (vp_nar .boolean x))) H locs → W p l e R s m args below meth c H locs cells slots Q (F0 m (pc + 1) ls rest)) : W p l e R s m args below meth c H locs cells slots Q (F0 m pc ls (.int x :: .int i :: .ref (a k) :: rest)) := by
  refine va_zast hexec hb hK hp.1 hp.2.1 hp.2.2 (q + 1) q (RW_F hq (by rw [hkd]; decide)) (rT_at hq (by rw [rty, if_neg (by rw [hkd]; decide), if_pos hkd])) (by rw [hn]; exact hin) hdg (fun H locs h1 h2 h3 => ?_)
  rw [RW_sF hq (by rw [hkd]; decide)] at h1 h2
  exact kk H locs ⟨h1, h2, h3⟩
theorem r_sj (hexec : p.tables.exec = Jvm.exec) (hb : c.code = cc) (hK : va_K D vwCl (rT ca) s) (hp : Rp D h a ca A H0 st H locs) (q k : Nat) (hq : rArr[q]? = some k) (hkd : rkd k = 4) {i : Int32} {x : Int64} {n : Nat} (hn : rln k = n) (hin : vp_in i n) (hdg : decode cc pc = .ok (.lastore, 1))
    (kk : ∀ (H : Heap) (locs : List Loc), Rp D h a ca A H0 (sL st k (vp_updL (gL st k) i.toNatClampNeg x)) H locs → W p l e R s m args below meth c H locs cells slots Q (F0 m (pc + 1) ls rest)) : W p l e R s m args below meth c H locs cells slots Q (F0 m pc ls (.long x :: .int i :: .ref (a k) :: rest)) := by
  refine va_last hexec hb hK hp.1 hp.2.1 hp.2.2 (q + 1) q (RW_L hq hkd) (rT_at hq (by rw [rty, if_neg (by rw [hkd]; decide), if_neg (by rw [hkd]; decide)])) (by rw [hn]; exact hin) hdg (fun H locs h1 h2 h3 => ?_)
  rw [RW_sL hq hkd] at h1 h2
  exact kk H locs ⟨h1, h2, h3⟩
theorem r_pre (hp : Rp D h a ca A s.heap st H locs) (hK : va_K D vwCl (rT ca) s) (hN : NX s) (hZ : cz A s s.heap) (hA : ∀ q, s.heap.size ≤ q → A q) {av : List Value} : ∀ U : State, U.heap = H → s.WarmedH U.vm → va_Pc av (Pr D (rT ca) [] (RW h a ca st) H.size) av.toArray U := fun U hU hW => ⟨rfl, Pr.at hp.1 hK hp.2.1 hN hZ RO.nil hp.2.2 (r_free hp.2.1 hp.2.2 hA) hU hW⟩
theorem Rp.back {st2 : RS} {t : State} {H1 : Heap} {locs1 : List Loc} (hA : ∀ q, H0.size ≤ q → A q) (hp : Rp D h a ca A H0 st H locs) (hB : Bq D (fun _ : Unit => RW h a ca st2) (fun _ => []) (va_A (RW h a ca st) H.size) () t) (ht : t.heap = H1) (hS : va_S A H0 H1 locs1) : Rp D h a ca A H0 st2 H1 locs1 := by
  obtain ⟨h1, h2, h3⟩ := hB
  rw [ht] at h1
  exact ⟨h1, h3.weaken (fun k q _ hq => r_free hp.2.1 hp.2.2 hA q.1 hq), hS⟩
theorem r_ci {st0 : List Value} {av : Array Value} {r0 : Int32} {st2 : RS} (hp : Rp D h a ca A H0 st H locs) (hA : ∀ q, H0.size ≤ q → A q) (hr : va_Run p l e R s m args below meth c H locs cells slots 0 0 (F0 m pc ls st0) rest (va_Qi (fun r (_ : Unit) => r = r0) (Bq D (fun _ => RW h a ca st2) (fun _ => []) (va_A (RW h a ca st) H.size)) (va_A (RW h a ca st) H.size) av) (va_A (RW h a ca st) H.size))
    (kk : ∀ (H : Heap) (locs : List Loc), Rp D h a ca A H0 st2 H locs → W p l e R s m args below meth c H locs cells slots Q (F0 m (pc + 3) ls (.int r0 :: rest))) : W p l e R s m args below meth c H locs cells slots Q (F0 m pc ls st0) :=
  va_calli hr hp.2.2 (fun q _ hq => r_free hp.2.1 hp.2.2 hA q hq) (r_free hp.2.1 hp.2.2 hA) (fun r u t H1 locs ht hvm hw hB hz1 hk1 hS => by subst hw; exact kk H1 locs (Rp.back hA hp hB ht hS))
theorem r_cl {st0 : List Value} {av : Array Value} {r0 : Int64} {st2 : RS} (hp : Rp D h a ca A H0 st H locs) (hA : ∀ q, H0.size ≤ q → A q) (hr : va_Run p l e R s m args below meth c H locs cells slots 0 0 (F0 m pc ls st0) rest (va_Ql (fun r (_ : Unit) => r = r0) (Bq D (fun _ => RW h a ca st2) (fun _ => []) (va_A (RW h a ca st) H.size)) (va_A (RW h a ca st) H.size) av) (va_A (RW h a ca st) H.size))
    (kk : ∀ (H : Heap) (locs : List Loc), Rp D h a ca A H0 st2 H locs → W p l e R s m args below meth c H locs cells slots Q (F0 m (pc + 3) ls (.long r0 :: rest))) : W p l e R s m args below meth c H locs cells slots Q (F0 m pc ls st0) :=
  va_calll hr hp.2.2 (fun q _ hq => r_free hp.2.1 hp.2.2 hA q hq) (r_free hp.2.1 hp.2.2 hA) (fun r u t H1 locs ht hvm hw hB hz1 hk1 hS => by subst hw; exact kk H1 locs (Rp.back hA hp hB ht hS))
theorem r_cv {st0 : List Value} {av : Array Value} {st2 : RS} (hp : Rp D h a ca A H0 st H locs) (hA : ∀ q, H0.size ≤ q → A q) (hr : va_Run p l e R s m args below meth c H locs cells slots 0 0 (F0 m pc ls st0) rest (va_Qv (fun (_ : Unit) => True) (Bq D (fun _ => RW h a ca st2) (fun _ => []) (va_A (RW h a ca st) H.size)) (va_A (RW h a ca st) H.size) av) (va_A (RW h a ca st) H.size))
    (kk : ∀ (H : Heap) (locs : List Loc), Rp D h a ca A H0 st2 H locs → W p l e R s m args below meth c H locs cells slots Q (F0 m (pc + 3) ls rest)) : W p l e R s m args below meth c H locs cells slots Q (F0 m pc ls st0) :=
  va_callv hr hp.2.2 (fun q _ hq => r_free hp.2.1 hp.2.2 hA q hq) (r_free hp.2.1 hp.2.2 hA) (fun u t H1 locs ht hvm hw hB hz1 hk1 hS => kk H1 locs (Rp.back hA hp hB ht hS))
theorem Rp.end {st1 st2 : RS} {t : State} (he : st1 = st2) (hp : Rp D h a ca A s.heap st1 H locs) (hK : va_K D vwCl (rT ca) s) (ht : t.heap = H) (hW : s.WarmedH t.vm) : Bq D (fun _ : Unit => RW h a ca st2) (fun _ => []) A () t := by
  subst he
  exact ⟨by rw [ht]; exact hp.1, va_K.moved hW.alike (hK.sub [] rfl), hp.2.1⟩
end RR
theorem sw_out4 {x : Int32} (h0 : ¬ x = 0) (h1 : ¬ x = 1) (h2 : ¬ x = 2) (h3 : ¬ x = 3) : x.toInt < 0 ∨ 3 < x.toInt := by
  have e0 : x.toInt ≠ 0 := fun e => h0 (Int32.toInt_inj.mp (e.trans (by decide)))
  have e1 : x.toInt ≠ 1 := fun e => h1 (Int32.toInt_inj.mp (e.trans (by decide)))
  have e2 : x.toInt ≠ 2 := fun e => h2 (Int32.toInt_inj.mp (e.trans (by decide)))
  have e3 : x.toInt ≠ 3 := fun e => h3 (Int32.toInt_inj.mp (e.trans (by decide)))
  omega

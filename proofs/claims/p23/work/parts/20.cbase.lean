/-- the class's heap: how many ids, how many slots, each id's class, an array's length, ints, longs, references -/
abbrev CS : Type := (Nat × Nat) × (Nat → Nat) × (Nat → Nat) × (Nat → Nat → Int32) × (Nat → Nat → Int64) × (Nat → Nat → Option Nat)
def qn (g : CS) : Nat := g.1.1
def qs (g : CS) : Nat := g.1.2
def qk (g : CS) : Nat → Nat := g.2.1
def ql (g : CS) : Nat → Nat := g.2.2.1
def qI (g : CS) : Nat → Nat → Int32 := g.2.2.2.1
def qJ (g : CS) : Nat → Nat → Int64 := g.2.2.2.2.1
def qP (g : CS) : Nat → Nat → Option Nat := g.2.2.2.2.2
def wI (g : CS) (i k : Nat) (v : Int32) : CS := (g.1, g.2.1, g.2.2.1, va_up g.2.2.2.1 i (upd (g.2.2.2.1 i) k v), g.2.2.2.2)
def wJ (g : CS) (i k : Nat) (v : Int64) : CS := (g.1, g.2.1, g.2.2.1, g.2.2.2.1, va_up g.2.2.2.2.1 i (va_up (g.2.2.2.2.1 i) k v), g.2.2.2.2.2)
def wP (g : CS) (i k : Nat) (v : Option Nat) : CS := (g.1, g.2.1, g.2.2.1, g.2.2.2.1, g.2.2.2.2.1, va_up g.2.2.2.2.2 i (va_up (g.2.2.2.2.2 i) k v))
/-- a whole row of ints anew -/
def wF (g : CS) (i : Nat) (f : Nat → Int32) : CS := (g.1, g.2.1, g.2.2.1, va_up g.2.2.2.1 i f, g.2.2.2.2)
/-- a new id: its class, its length, its slots -/
def wN (g : CS) (kd n sl : Nat) : CS := ((g.1.1 + 1, g.1.2 + sl), va_up g.2.1 g.1.1 kd, va_up g.2.2.1 g.1.1 n, va_up g.2.2.2.1 g.1.1 (fun _ => 0), va_up g.2.2.2.2.1 g.1.1 (fun _ => 0), va_up g.2.2.2.2.2 g.1.1 (fun _ => none))
/-- fields of a class (its place among the classes and 1 more): 0 int, 1 long, 2 reference -/
def cfl (kd : Nat) : List Nat := ([[], [2, 0, 0, 0], [2, 0, 0, 0], [0, 0, 0, 0, 2, 2, 1], [2, 0], [0, 0, 1, 0, 0, 0, 0, 0], [2, 2, 0, 0], [2, 2, 2], [2, 0], [2, 2, 2, 0, 0, 0], [2, 2], [2, 2, 2, 2, 2, 2, 2, 2, 2, 0, 0, 0]] : List (List Nat)).getD kd []
def mon (n : Nat) (f : Nat → Value) : List Value := (List.range n).map f
theorem mon_len (n : Nat) (f : Nat → Value) : (mon n f).length = n := by simp [mon]
theorem mon_get {n : Nat} (f : Nat → Value) {k : Nat} (h : k < n) : (mon n f)[k]? = some (f k) := by simp [mon, h]
theorem mon_set {n : Nat} (f : Nat → Value) {k : Nat} {v : Value} : (mon n f).set k v = mon n (va_up f k v) := by
  apply List.ext_getElem?
  intro i
  by_cases hn : i < n
  · by_cases hi : i = k
    · subst hi
      rw [List.getElem?_set_self (by rw [mon_len]; exact hn), mon_get _ hn, va_up_self]
    · rw [List.getElem?_set_ne (Ne.symm hi), mon_get _ hn, mon_get _ hn, va_up_ne _ _ hi]
  · rw [List.getElem?_eq_none (by rw [List.length_set, mon_len]; omega), List.getElem?_eq_none (by rw [mon_len]; omega)]
def cv (ad : Nat → Nat) (g : CS) (i : Nat) (k : Nat) : Value := if (cfl (qk g i)).getD k 9 = 0 then .int (qI g i k) else if (cfl (qk g i)).getD k 9 = 1 then .long (qJ g i k) else va_rf ((qP g i k).map ad)
def ce (ad : Nat → Nat) (ct : Nat → ClassId) (g : CS) (i : Nat) : va_E := if qk g i < 20 then .inr (qk g i - 1, mon (cfl (qk g i)).length (cv ad g i)) else .inl (ct (qk g i), ql g i, if qk g i < 23 then .inl (qI g i) else .inr (.inr (.inr (.inr (fun k => (qP g i k).map ad)))))
/-- the array classes: 21 ints, 22 bytes, 23 Rows, 24 Makes, 25 Pieces, 26 Fields -/
def cT (ct : Nat → ClassId) : List (ClassId × FieldType) := [(ct 21, .int), (ct 22, .byte), (ct 23, .object RX5), (ct 24, .object RX1), (ct 25, .object RX2), (ct 26, .object RX0)]
/-- the constants: in the order of their ids -/
def kTx : List String := ["", "gone", "flag", "small", "int", "long", "text", "rec", "in"]
def kByt : List (List Int32) := [[], [103, 111, 110, 101], [102, 108, 97, 103], [115, 109, 97, 108, 108], [105, 110, 116], [108, 111, 110, 103], [116, 101, 120, 116], [114, 101, 99], [105, 110]]
def kLen : List Nat := [0, 4, 4, 5, 3, 4, 4, 3, 2]
/-- what holds of every state -/
def cW (ka ad : Nat → Nat) (g : CS) : Prop := 32 ≤ qn g ∧ (∀ i, qn g ≤ i → qk g i = 0) ∧ (∀ i, i < 9 → qk g i = 1 ∧ qP g i 0 = some (9 + i) ∧ qI g i 1 = 0 ∧ qk g (9 + i) = 22 ∧ ql g (9 + i) = kLen.getD i 0 ∧ ∀ j, qI g (9 + i) j = (kByt.getD i []).getD j 0) ∧ (∀ i, 18 ≤ i → i < 32 → qk g i = 0) ∧ (∀ i, i < 18 → ad i = ka i) ∧ (∀ i j, 32 ≤ i → 32 ≤ j → ad i = ad j → i = j)
/-- the class's cells stand in the heap, and nothing else has changed -/
def Cp (D : va_G) (ka ad : Nat → Nat) (ct : Nat → ClassId) (A : Nat → Prop) (H0 : Heap) (g : CS) (H : Heap) (locs : List Loc) : Prop := (∀ i, 32 ≤ i → qk g i ≠ 0 → va_at D vwCl (ad i, ce ad ct g i) H ∧ A (ad i)) ∧ va_S A H0 H locs ∧ cW ka ad g ∧ ∀ j, ad (qn g + j) = H.size + j
/-- only id i's contents differ -/
def Sm (g g' : CS) (i : Nat) : Prop := qn g' = qn g ∧ qk g' = qk g ∧ ql g' = ql g ∧ ∀ j, j ≠ i → qI g' j = qI g j ∧ qJ g' j = qJ g j ∧ qP g' j = qP g j
theorem Sm.wI {g : CS} {i k : Nat} {v : Int32} : Sm g (wI g i k v) i := ⟨rfl, rfl, rfl, fun j hj => ⟨va_up_ne _ _ hj, rfl, rfl⟩⟩
theorem Sm.wJ {g : CS} {i k : Nat} {v : Int64} : Sm g (wJ g i k v) i := ⟨rfl, rfl, rfl, fun j hj => ⟨rfl, va_up_ne _ _ hj, rfl⟩⟩
theorem Sm.wP {g : CS} {i k : Nat} {v : Option Nat} : Sm g (wP g i k v) i := ⟨rfl, rfl, rfl, fun j hj => ⟨rfl, rfl, va_up_ne _ _ hj⟩⟩
theorem Sm.wF {g : CS} {i : Nat} {f : Nat → Int32} : Sm g (wF g i f) i := ⟨rfl, rfl, rfl, fun j hj => ⟨va_up_ne _ _ hj, rfl, rfl⟩⟩
theorem Sm.cell {g g' : CS} {i : Nat} (h : Sm g g' i) {ad : Nat → Nat} {ct : Nat → ClassId} {j : Nat} (hj : j ≠ i) : ce ad ct g' j = ce ad ct g j := by
  obtain ⟨-, h1, h2, h3⟩ := h
  obtain ⟨e1, e2, e3⟩ := h3 j hj
  have hv : cv ad g' j = cv ad g j := by
    funext k
    unfold cv
    rw [h1, e1, e2, e3]
  unfold ce
  rw [h1, h2, hv, e1, e3]
theorem Sm.cW {ka ad : Nat → Nat} {g g' : CS} {i : Nat} (h : Sm g g' i) (hi : 32 ≤ i) (hw : cW ka ad g) : cW ka ad g' := by
  obtain ⟨h0, h1, h2, h3⟩ := h
  obtain ⟨w1, w2, w3, w4, w5, w6⟩ := hw
  refine ⟨by rw [h0]; exact w1, by rw [h0, h1]; exact w2, fun j hj => ?_, by rw [h1]; exact w4, w5, w6⟩
  rw [h1, h2, (h3 j (by omega)).1, (h3 j (by omega)).2.2, (h3 (9 + j) (by omega)).1]
  exact w3 j hj
theorem Cp.write {D : va_G} {ka ad : Nat → Nat} {ct : Nat → ClassId} {A : Nat → Prop} {H0 H H1 : Heap} {g g' : CS} {locs : List Loc} {i k : Nat} (hp : Cp D ka ad ct A H0 g H locs) (hi : 32 ≤ i) (hl : qk g i ≠ 0) (hs : Sm g g' i) (e1 : va_at D vwCl (ad i, ce ad ct g' i) H1) (z : H1.size = H.size) (oq : ∀ q : Nat, q ≠ ad i → H1[q]? = H[q]?) : Cp D ka ad ct A H0 g' H1 (locs ++ [⟨ad i, k⟩]) := by
  obtain ⟨h1, h2, h3, h4⟩ := hp
  refine ⟨fun j hj hk => ?_, h2.put z oq (h1 i hi hl).2, hs.cW hi h3, by rw [hs.1, z]; exact h4⟩
  rw [hs.2.1] at hk
  by_cases hij : j = i
  · subst hij
    exact ⟨e1, (h1 j hj hk).2⟩
  · rw [hs.cell hij]
    exact ⟨(h1 j hj hk).1.kept (oq _ (fun e => hij (h3.2.2.2.2.2 j i hj hi e))), (h1 j hj hk).2⟩
theorem cW.ge {ka ad : Nat → Nat} {g : CS} (h : cW ka ad g) {i c : Nat} (hk : qk g i = c) (h0 : c ≠ 0) (h1 : c ≠ 1) (h22 : c ≠ 22) : 32 ≤ i := by
  rcases Nat.lt_or_ge i 32 with hi | hi
  · exfalso
    rcases Nat.lt_or_ge i 9 with h9 | h9
    · exact h1 (hk.symm.trans (h.2.2.1 i h9).1)
    · rcases Nat.lt_or_ge i 18 with h18 | h18
      · have := (h.2.2.1 (i - 9) (by omega)).2.2.2.1
        rw [show 9 + (i - 9) = i by omega] at this
        exact h22 (hk.symm.trans this)
      · exact h0 (hk.symm.trans (h.2.2.2.1 i h18 hi))
  · exact hi
theorem cW.lt {ka ad : Nat → Nat} {g : CS} (h : cW ka ad g) {i : Nat} (hk : qk g i ≠ 0) : i < qn g := by
  rcases Nat.lt_or_ge i (qn g) with hi | hi
  · exact hi
  · exact absurd (h.2.1 i hi) hk
theorem ce_o {ad : Nat → Nat} {ct : Nat → ClassId} {g : CS} {i ci N : Nat} (hk : qk g i = ci + 1) (hc : ci < 19) (hN : (cfl (ci + 1)).length = N) : ce ad ct g i = .inr (ci, mon N (cv ad g i)) := by
  unfold ce
  rw [hk, if_pos (by omega), hN]
  rfl
theorem ce_i {ad : Nat → Nat} {ct : Nat → ClassId} {g : CS} {i kd : Nat} (hk : qk g i = kd) (h1 : 20 ≤ kd) (h2 : kd < 23) : ce ad ct g i = .inl (ct kd, ql g i, .inl (qI g i)) := by
  unfold ce
  rw [hk, if_neg (by omega), if_pos h2]
theorem ce_q {ad : Nat → Nat} {ct : Nat → ClassId} {g : CS} {i kd : Nat} (hk : qk g i = kd) (h1 : 23 ≤ kd) : ce ad ct g i = .inl (ct kd, ql g i, .inr (.inr (.inr (.inr (fun k => (qP g i k).map ad))))) := by
  unfold ce
  rw [hk, if_neg (by omega), if_neg (by omega)]
theorem cv_i {ad : Nat → Nat} {g : CS} {i kd k : Nat} (hk : qk g i = kd) (h : (cfl kd).getD k 9 = 0) : cv ad g i k = .int (qI g i k) := by unfold cv; rw [hk, if_pos h]
theorem cv_j {ad : Nat → Nat} {g : CS} {i kd k : Nat} (hk : qk g i = kd) (h : (cfl kd).getD k 9 = 1) : cv ad g i k = .long (qJ g i k) := by unfold cv; rw [hk, if_neg (by rw [h]; decide), if_pos h]
theorem cv_p {ad : Nat → Nat} {g : CS} {i kd k : Nat} (hk : qk g i = kd) (h : (cfl kd).getD k 9 = 2) : cv ad g i k = va_rf ((qP g i k).map ad) := by unfold cv; rw [hk, if_neg (by rw [h]; decide), if_neg (by rw [h]; decide)]
theorem cv_wI {ad : Nat → Nat} {g : CS} {i kd k : Nat} {v : Int32} (hk : qk g i = kd) (h : (cfl kd).getD k 9 = 0) : va_up (cv ad g i) k (.int v) = cv ad (wI g i k v) i := by
  funext j
  have ek : qk (wI g i k v) i = kd := hk
  by_cases hj : j = k
  · subst hj
    rw [va_up_self, cv_i ek h]
    show Value.int v = Value.int (va_up g.2.2.2.1 i (upd (g.2.2.2.1 i) j v) i j)
    rw [va_up_self, pk_us]
  · rw [va_up_ne _ _ hj]
    unfold cv
    rw [ek, hk]
    show _ = if _ then Value.int (va_up g.2.2.2.1 i (upd (g.2.2.2.1 i) k v) i j) else _
    rw [va_up_self, pk_un hj]
    rfl
theorem cv_wJ {ad : Nat → Nat} {g : CS} {i kd k : Nat} {v : Int64} (hk : qk g i = kd) (h : (cfl kd).getD k 9 = 1) : va_up (cv ad g i) k (.long v) = cv ad (wJ g i k v) i := by
  funext j
  have ek : qk (wJ g i k v) i = kd := hk
  by_cases hj : j = k
  · subst hj
    rw [va_up_self, cv_j ek h]
    show Value.long v = Value.long (va_up g.2.2.2.2.1 i (va_up (g.2.2.2.2.1 i) j v) i j)
    rw [va_up_self, va_up_self]
  · rw [va_up_ne _ _ hj]
    unfold cv
    rw [ek, hk]
    show _ = if _ then _ else if _ then Value.long (va_up g.2.2.2.2.1 i (va_up (g.2.2.2.2.1 i) k v) i j) else _
    rw [va_up_self, va_up_ne _ _ hj]
    rfl
theorem cv_wP {ad : Nat → Nat} {g : CS} {i kd k : Nat} {v : Option Nat} (hk : qk g i = kd) (h : (cfl kd).getD k 9 = 2) : va_up (cv ad g i) k (va_rf (v.map ad)) = cv ad (wP g i k v) i := by
  funext j
  have ek : qk (wP g i k v) i = kd := hk
  by_cases hj : j = k
  · subst hj
    rw [va_up_self, cv_p ek h]
    show va_rf (v.map ad) = va_rf ((va_up g.2.2.2.2.2 i (va_up (g.2.2.2.2.2 i) j v) i j).map ad)
    rw [va_up_self, va_up_self]
  · rw [va_up_ne _ _ hj]
    unfold cv
    rw [ek, hk]
    show _ = if _ then _ else if _ then _ else va_rf ((va_up g.2.2.2.2.2 i (va_up (g.2.2.2.2.2 i) k v) i j).map ad)
    rw [va_up_self, va_up_ne _ _ hj]
    rfl
/-- a field's link, plain or between nest mates -/
def FLk (own : String) (index : Nat) (ref n d : String) (args : Array Value) (s : State) : Prop := (Cond.fieldLink own index ref n d).before args s = true ∨ ∃ host, (Cond.fieldLinkNest own index ref n d host).before args s = true
/-- the constants' cells -/
def kS (ka : Nat → Nat) (A : Nat → Prop) (U : State) (H : Heap) : Prop := vk_S 9 kLen kByt ka (fun i => ka (9 + i)) A U H
section QR
variable {p : Program} {l : Launch} {e : Env} {R : Room} {s : State} {m : MethodId} {args : Array Value} {below : List Frame} {meth : Method} {c : Code} {H : Heap} {locs : List Loc} {cells slots : Nat} {Q : State → Prop}
variable {cc : ByteArray} {pc : Nat} {ls : Array Slot} {rest : List Value} {D : va_G} {A : Nat → Prop} {H0 : Heap} {ka ad : Nat → Nat} {ct : Nat → ClassId} {g : CS} {own ref C : String} {index : Nat} {Ts : List Cond} {T : u_T} {N ci i k : Nat}
theorem q_get (hexec : p.tables.exec = Jvm.exec) (hb : c.code = cc) (hts : ∀ w ∈ Ts, w.before args s = true) (hin : ∀ w ∈ u_ws C T N, w ∈ Ts) (hown : s.vm.findClass own = some m.cls) (hK : va_K D vwCl (cT ct) s) (hp : Cp D ka ad ct A H0 g H locs) (hi : 32 ≤ i) (hq : qk g i = ci + 1) (h19 : ci < 19) (hN : (cfl (ci + 1)).length = N) (hc : vwCl[ci]? = some (C, T, N)) (hk : k < N) (hlk : FLk own index ref (T k).2.1 (T k).2.2.1 args s) (hsame : ∀ x, s.fieldFound? (T k).1 (T k).2.1 (T k).2.2.1 = some x → s.fieldFound? ref (T k).2.1 (T k).2.2.1 = some x) (hdg : decode cc pc = .ok (.getfield index, 3))
    (kk : W p l e R s m args below meth c H locs cells slots Q (F0 m (pc + 3) ls (cv ad g i k :: rest))) : W p l e R s m args below meth c H locs cells slots Q (F0 m pc ls (.ref (ad i) :: rest)) := by
  have hP : va_P D vwCl [(ad i, ce ad ct g i)] H := fun j q hj => by
    match j, hj with
    | 0, hj => cases hj; exact (hp.1 i hi (by omega)).1
    | j + 1, hj => simp at hj
  rw [ce_o hq h19 hN] at hP
  rcases hlk with hlk | ⟨host, hlk⟩
  · exact va_get (D := D) (ci := ci) (C := C) (T := T) (N := N) hexec hb hts hin hown hK hP 0 rfl hc k hk hlk hsame (mon_get _ hk) hdg kk
  · exact va_getN (D := D) (ci := ci) (C := C) (T := T) (N := N) hexec hb hts hin hown hK hP 0 rfl hc k hk hlk hsame (mon_get _ hk) hdg kk
theorem q_put (hexec : p.tables.exec = Jvm.exec) (hb : c.code = cc) (hts : ∀ w ∈ Ts, w.before args s = true) (hin : ∀ w ∈ u_ws C T N, w ∈ Ts) (ty0 : Nat → FieldType) (hty : ∀ k, k < N → parseFieldDescriptor (T k).2.2.1 = some (ty0 k)) (hnm : ∀ a, a < N → ∀ b, b < N → a ≠ b → (T a).2.1 ≠ (T b).2.1) (hown : s.vm.findClass own = some m.cls) (hK : va_K D vwCl (cT ct) s) (hp : Cp D ka ad ct A H0 g H locs) (hi : 32 ≤ i) (hq : qk g i = ci + 1) (h19 : ci < 19) (hN : (cfl (ci + 1)).length = N) (hc : vwCl[ci]? = some (C, T, N)) (hk : k < N) (hlk : FLk own index ref (T k).2.1 (T k).2.2.1 args s) (hsame : ∀ x, s.fieldFound? (T k).1 (T k).2.1 (T k).2.2.1 = some x → s.fieldFound? ref (T k).2.1 (T k).2.2.1 = some x) (hfin : (T k).2.2.2 = false) {ty : FieldType} {v : Value} (hd : parseFieldDescriptor (T k).2.2.1 = some ty) (hn : narrow ty v = v) (hfit : fits ty v = true) {g' : CS} (hs : Sm g g' i) (hv : va_up (cv ad g i) k v = cv ad g' i) (hdg : decode cc pc = .ok (.putfield index, 3))
    (kk : ∀ (H : Heap) (locs : List Loc), Cp D ka ad ct A H0 g' H locs → W p l e R s m args below meth c H locs cells slots Q (F0 m (pc + 3) ls rest)) : W p l e R s m args below meth c H locs cells slots Q (F0 m pc ls (v :: .ref (ad i) :: rest)) := by
  have hap := va_apart (own := own) hts hin ty0 hty hnm hK hc
  have h0 := (hp.1 i hi (by omega)).1
  rw [ce_o hq h19 hN] at h0
  obtain ⟨r, h1, cell, q1, q2, q3, q4⟩ := h0
  have hr : r = (C, T, N) := Option.some.inj (h1.symm.trans hc)
  subst hr
  obtain ⟨hS, hfc, kC, hkC, hkind⟩ := hK.1 ci _ hc
  obtain ⟨cf, kf, fi, f, hii, hsl⟩ := hS k hk
  have hlay := hts _ (hin _ (u_in_lay hk))
  unfold u_lay at hlay
  rw [if_neg (by rw [hfin]; decide)] at hlay
  have hst := (u_facts hfc hkC (u_lays hts hin hk) hii).1
  have h6 := u_store hfc hkC hkind hlay hii hd hn hfit
  have fin : ∀ H' : Heap, H'[ad i]? = some (cell.setSlot f.slot v) → H'.size = H.size → (∀ q, q ≠ ad i → H'[q]? = H[q]?) → W p l e R s m args below meth c H' (locs ++ [⟨ad i, f.slot⟩]) cells slots Q (F0 m (pc + 3) ls rest) := by
    intro H' e1 e2 e3
    refine kk H' _ (hp.write hi (by omega) hs ?_ e2 e3)
    rw [ce_o (show qk g' i = ci + 1 by rw [hs.2.1]; exact hq) h19 hN, ← hv, ← mon_set]
    rw [hsl] at e1
    exact ⟨_, hc, t_OB.to (V := updV (vp_V (mon N (cv ad g i))) k v) ⟨_, e1, q2, q3, t_set q4 hap hk v⟩ (fun j _ => vp_updV_set (by rw [mon_len]; exact hk) v j)⟩
  rcases hlk with hlk | ⟨host, hlk⟩
  · exact W.putK hexec hb (f := f) ⟨hown, hlk, ⟨_, _, _, hsame _ hii⟩, hst⟩ (by rw [q2]; exact h6) q1 q3 (by rw [hsl]; exact k2_hasslot (q4 k hk)) rfl rfl hdg fin
  · exact va_WputK hexec hb (f := f) hown hlk (hsame _ hii) hst (by rw [q2]; exact h6) q1 q3 (by rw [hsl]; exact k2_hasslot (q4 k hk)) rfl rfl hdg fin
theorem q_putF (hexec : p.tables.exec = Jvm.exec) (hb : c.code = cc) (hts : ∀ w ∈ Ts, w.before args s = true) (hin : ∀ w ∈ u_ws C T N, w ∈ Ts) (ty0 : Nat → FieldType) (hty : ∀ k, k < N → parseFieldDescriptor (T k).2.2.1 = some (ty0 k)) (hnm : ∀ a, a < N → ∀ b, b < N → a ≠ b → (T a).2.1 ≠ (T b).2.1) (hown : s.vm.findClass own = some m.cls) (hK : va_K D vwCl (cT ct) s) (hp : Cp D ka ad ct A H0 g H locs) (hi : 32 ≤ i) (hq : qk g i = ci + 1) (h19 : ci < 19) (hN : (cfl (ci + 1)).length = N) (hc : vwCl[ci]? = some (C, T, N)) (hk : k < N) (hlk : (Cond.fieldLink own index ref (T k).2.1 (T k).2.2.1).before args s = true) (hsame : ∀ x, s.fieldFound? (T k).1 (T k).2.1 (T k).2.2.1 = some x → s.fieldFound? ref (T k).2.1 (T k).2.2.1 = some x) (hfin : (T k).2.2.2 = true) (hin2 : meth.name = "<init>") (hdecl : (T k).1 = own) {ty : FieldType} {v : Value} (hd : parseFieldDescriptor (T k).2.2.1 = some ty) (hn : narrow ty v = v) (hfit : fits ty v = true) {g' : CS} (hs : Sm g g' i) (hv : va_up (cv ad g i) k v = cv ad g' i) (hdg : decode cc pc = .ok (.putfield index, 3))
    (kk : ∀ (H : Heap) (locs : List Loc), Cp D ka ad ct A H0 g' H locs → W p l e R s m args below meth c H locs cells slots Q (F0 m (pc + 3) ls rest)) : W p l e R s m args below meth c H locs cells slots Q (F0 m pc ls (v :: .ref (ad i) :: rest)) := by
  have hap := va_apart (own := own) hts hin ty0 hty hnm hK hc
  have h0 := (hp.1 i hi (by omega)).1
  rw [ce_o hq h19 hN] at h0
  obtain ⟨r, h1, cell, q1, q2, q3, q4⟩ := h0
  have hr : r = (C, T, N) := Option.some.inj (h1.symm.trans hc)
  subst hr
  obtain ⟨hS, hfc, kC, hkC, hkind⟩ := hK.1 ci _ hc
  obtain ⟨cf, kf, fi, f, hii, hsl⟩ := hS k hk
  have hlay := hts _ (hin _ (u_in_lay hk))
  unfold u_lay at hlay
  rw [if_pos hfin] at hlay
  have hst := (u_facts hfc hkC (u_lays hts hin hk) hii).1
  have hcf : m.cls = cf := by
    obtain ⟨_, _, c', _, _, _, -, -, hf', -, -, -, hown2, -⟩ := Cond.laysFinal_spec hlay
    have e1 : c' = cf := by have := hii.symm.trans hf'; simp at this; exact this.1.symm
    rw [hdecl] at hown2
    rw [← e1]; exact Option.some.inj (hown.symm.trans hown2)
  have h6 := u_fits hfc hkC hkind (Or.inr hlay) hii hd hn hfit
  refine W.putFinK hexec hb hown hlk (hsame _ hii) hst hcf hin2 (by rw [q2]; exact h6) q1 q3 (by rw [hsl]; exact k2_hasslot (q4 k hk)) rfl rfl hdg fun H' e1 e2 e3 => ?_
  refine kk H' _ (hp.write hi (by omega) hs ?_ e2 e3)
  rw [ce_o (show qk g' i = ci + 1 by rw [hs.2.1]; exact hq) h19 hN, ← hv, ← mon_set]
  rw [hsl] at e1
  exact ⟨_, hc, t_OB.to (V := updV (vp_V (mon N (cv ad g i))) k v) ⟨_, e1, q2, q3, t_set q4 hap hk v⟩ (fun j _ => vp_updV_set (by rw [mon_len]; exact hk) v j)⟩
theorem q_ai (hexec : p.tables.exec = Jvm.exec) (hb : c.code = cc) (hK : va_K D vwCl (cT ct) s) (hp : Cp D ka ad ct A H0 g H locs) {x : Int32} (hq : qk g i = 21) (hin : vp_in x (ql g i)) (hdg : decode cc pc = .ok (.iaload, 1))
    (kk : W p l e R s m args below meth c H locs cells slots Q (F0 m (pc + 1) ls (.int (qI g i x.toNatClampNeg) :: rest))) : W p l e R s m args below meth c H locs cells slots Q (F0 m pc ls (.int x :: .ref (ad i) :: rest)) := by
  have h0 := (hp.1 i (hp.2.2.1.ge hq (by decide) (by decide) (by decide)) (by omega)).1
  rw [ce_i hq (by decide) (by decide)] at h0
  have hP : va_P D vwCl [(ad i, .inl (ct 21, ql g i, .inl (qI g i)))] H := fun j q hj => by
    match j, hj with
    | 0, hj => cases hj; exact h0
    | j + 1, hj => simp at hj
  exact va_iald hexec hb hK hP 0 0 rfl rfl hin hdg kk
theorem q_aq {E : String} {kd t0 : Nat} (hexec : p.tables.exec = Jvm.exec) (hb : c.code = cc) (hK : va_K D vwCl (cT ct) s) (hp : Cp D ka ad ct A H0 g H locs) {x : Int32} (hq : qk g i = kd) (h23 : 23 ≤ kd) (ht : (cT ct)[t0]? = some (ct kd, .object E)) (hin : vp_in x (ql g i)) (hdg : decode cc pc = .ok (.aaload, 1))
    (kk : W p l e R s m args below meth c H locs cells slots Q (F0 m (pc + 1) ls (va_rf ((qP g i x.toNatClampNeg).map ad) :: rest))) : W p l e R s m args below meth c H locs cells slots Q (F0 m pc ls (.int x :: .ref (ad i) :: rest)) := by
  have h0 := (hp.1 i (hp.2.2.1.ge hq (by omega) (by omega) (by omega)) (by omega)).1
  rw [ce_q hq h23] at h0
  have hP : va_P D vwCl [(ad i, .inl (ct kd, ql g i, .inr (.inr (.inr (.inr (fun k => (qP g i k).map ad))))))] H := fun j q hj => by
    match j, hj with
    | 0, hj => cases hj; exact h0
    | j + 1, hj => simp at hj
  exact va_aldq hexec hb hK hP 0 t0 rfl ht hin hdg kk
theorem q_len {kd t0 : Nat} {ty : FieldType} (hexec : p.tables.exec = Jvm.exec) (hb : c.code = cc) (hK : va_K D vwCl (cT ct) s) (hp : Cp D ka ad ct A H0 g H locs) (hi : 32 ≤ i) (hq : qk g i = kd) (h20 : 20 ≤ kd) (ht : (cT ct)[t0]? = some (ct kd, ty)) (hdg : decode cc pc = .ok (.arraylength, 1))
    (kk : W p l e R s m args below meth c H locs cells slots Q (F0 m (pc + 1) ls (.int (nI (ql g i)) :: rest))) : W p l e R s m args below meth c H locs cells slots Q (F0 m pc ls (.ref (ad i) :: rest)) := by
  have h0 := (hp.1 i hi (by omega)).1
  have hP : va_P D vwCl [(ad i, ce ad ct g i)] H := fun j q hj => by
    match j, hj with
    | 0, hj => cases hj; exact h0
    | j + 1, hj => simp at hj
  unfold ce at hP
  rw [hq, if_neg (by omega)] at hP
  exact va_alen (v := nI (ql g i)) hexec hb hK hP 0 t0 rfl ht rfl hdg kk
theorem q_si (hexec : p.tables.exec = Jvm.exec) (hb : c.code = cc) (hK : va_K D vwCl (cT ct) s) (hp : Cp D ka ad ct A H0 g H locs) {x y : Int32} (hq : qk g i = 21) (hin : vp_in x (ql g i)) (hdg : decode cc pc = .ok (.iastore, 1))
    (kk : ∀ (H : Heap) (locs : List Loc), Cp D ka ad ct A H0 (wI g i x.toNatClampNeg y) H locs → W p l e R s m args below meth c H locs cells slots Q (F0 m (pc + 1) ls rest)) : W p l e R s m args below meth c H locs cells slots Q (F0 m pc ls (.int y :: .int x :: .ref (ad i) :: rest)) := by
  have h32 := hp.2.2.1.ge hq (by decide) (by decide) (by decide)
  have h0 := (hp.1 i h32 (by omega)).1
  rw [ce_i hq (by decide) (by decide)] at h0
  refine W.iast hexec hb h0 ((hK.2 0 _ rfl).1 (ql g i) (fun j => .int (qI g i j))) (fun q => by cases q) (by show ¬ (x < 0 ∨ (arrV _ _ _).slots.size ≤ _); rw [arrV_size]; exact hin) rfl rfl hdg fun H1 e z oq => ?_
  refine kk H1 _ (hp.write h32 (by omega) Sm.wI ?_ z oq)
  rw [ce_i (show qk (wI g i x.toNatClampNeg y) i = 21 from hq) (by decide) (by decide)]
  show H1[ad i]? = some (vp_cell _ _)
  rw [e, vp_cell_i, vp_cell_i, arrV_store]
  congr 2
  funext q
  show _ = Value.int (va_up g.2.2.2.1 i (upd (g.2.2.2.1 i) x.toNatClampNeg y) i q)
  rw [va_up_self]
  by_cases hqq : q = x.toNatClampNeg
  · subst hqq
    simp [updV, upd]
  · simp [updV, upd, hqq]
    rfl
theorem q_sb (hexec : p.tables.exec = Jvm.exec) (hb : c.code = cc) (hK : va_K D vwCl (cT ct) s) (hp : Cp D ka ad ct A H0 g H locs) {x y : Int32} (h32 : 32 ≤ i) (hq : qk g i = 22) (hin : vp_in x (ql g i)) (hdg : decode cc pc = .ok (.bastore, 1))
    (kk : ∀ (H : Heap) (locs : List Loc), Cp D ka ad ct A H0 (wI g i x.toNatClampNeg (vp_nar .byte y)) H locs → W p l e R s m args below meth c H locs cells slots Q (F0 m (pc + 1) ls rest)) : W p l e R s m args below meth c H locs cells slots Q (F0 m pc ls (.int y :: .int x :: .ref (ad i) :: rest)) := by
  have h0 := (hp.1 i h32 (by omega)).1
  rw [ce_i hq (by decide) (by decide)] at h0
  refine W.bast hexec hb h0 ((hK.2 1 _ rfl).1 (ql g i) (fun j => .int (qI g i j))) (fun q => by cases q) (by show ¬ (x < 0 ∨ (arrV _ _ _).slots.size ≤ _); rw [arrV_size]; exact hin) rfl rfl hdg fun H1 e z oq => ?_
  refine kk H1 _ (hp.write h32 (by omega) Sm.wI ?_ z oq)
  rw [ce_i (show qk (wI g i x.toNatClampNeg (vp_nar .byte y)) i = 22 from hq) (by decide) (by decide)]
  show H1[ad i]? = some (vp_cell _ _)
  rw [e, vp_cell_i, vp_cell_i, arrV_store]
  congr 2
  funext q
  show _ = Value.int (va_up g.2.2.2.1 i (upd (g.2.2.2.1 i) x.toNatClampNeg (vp_nar .byte y)) i q)
  rw [va_up_self]
  by_cases hqq : q = x.toNatClampNeg
  · subst hqq
    simp [updV, upd]
    rfl
  · simp [updV, upd, hqq]
    rfl
theorem q_sq {kd t0 cj b : Nat} {r : vw_C} (hexec : p.tables.exec = Jvm.exec) (hb : c.code = cc) (hK : va_K D vwCl (cT ct) s) (hp : Cp D ka ad ct A H0 g H locs) {x : Int32} (hq : qk g i = kd) (h23 : 23 ≤ kd) (ht : (cT ct)[t0]? = some (ct kd, .object r.1)) (hbk : qk g b = cj + 1) (hj : cj < 19) (hj0 : cj ≠ 0) (hc : vwCl[cj]? = some r) (hin : vp_in x (ql g i)) (hdg : decode cc pc = .ok (.aastore, 1))
    (kk : ∀ (H : Heap) (locs : List Loc), Cp D ka ad ct A H0 (wP g i x.toNatClampNeg (some b)) H locs → W p l e R s m args below meth c H locs cells slots Q (F0 m (pc + 1) ls rest)) : W p l e R s m args below meth c H locs cells slots Q (F0 m pc ls (.ref (ad b) :: .int x :: .ref (ad i) :: rest)) := by
  have h32 := hp.2.2.1.ge hq (by omega) (by omega) (by omega)
  have hb32 := hp.2.2.1.ge hbk (by omega) (by omega) (by omega)
  have h0 := (hp.1 i h32 (by omega)).1
  rw [ce_q hq h23] at h0
  have hb0 := (hp.1 b hb32 (by omega)).1
  rw [ce_o hbk hj rfl] at hb0
  have hlt : x.toNatClampNeg < ql g i := Nat.not_le.mp fun q => hin (Or.inr q)
  have hx0 : ¬ x < 0 := fun q => hin (Or.inl q)
  obtain ⟨r', hr', cellV, g1, g2, g3, -⟩ := hb0
  have hcls := (hK.1 cj r hc).2
  obtain ⟨kA, comp, k1, k2, k3, -⟩ := (hK.2 t0 _ ht).2
  have hcomp : comp = D.1 cj := Option.some.inj (k3.symm.trans hcls.1)
  subst hcomp
  obtain ⟨kC, hkC, -⟩ := hcls.2
  refine W.aast hexec hb h0 (fun q h => by cases h) (fun h => by cases h) k1 k2 rfl hkC ⟨hx0, by show _ < (arrV _ _ _).slots.size; rw [arrV_size]; exact hlt⟩ g1 (fun q h => by rw [g3] at h; cases h) (by rw [g2]; exact hkC) (by rw [g2]; exact va_assign hcls) rfl rfl hdg fun H1 e z oq => ?_
  refine kk H1 _ (hp.write h32 (by omega) Sm.wP ?_ z oq)
  rw [ce_q (show qk (wP g i x.toNatClampNeg (some b)) i = kd from hq) h23]
  show H1[ad i]? = some (vp_cell _ _)
  rw [e, vp_cell_q, vp_cell_q, arrV_store]
  congr 2
  funext q
  show _ = va_rf ((va_up g.2.2.2.2.2 i (va_up (g.2.2.2.2.2 i) x.toNatClampNeg (some b)) i q).map ad)
  rw [va_up_self]
  by_cases hqq : q = x.toNatClampNeg
  · subst hqq
    simp [updV, va_up, va_rf]
  · simp [updV, va_up, hqq]
    rfl
end QR

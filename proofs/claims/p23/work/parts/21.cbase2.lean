/-- what an unset field holds -/
def dv (k : Nat) : Value := if k = 0 then .int 0 else if k = 1 then .long 0 else .null
theorem Cp.new {D : va_G} {ka ad : Nat → Nat} {ct : Nat → ClassId} {A : Nat → Prop} {H0 H H1 : Heap} {g : CS} {locs : List Loc} {kd n sl : Nat} (hp : Cp D ka ad ct A H0 g H locs) (hA : ∀ q, H0.size ≤ q → A q) (e1 : va_at D vwCl (ad (qn g), ce ad ct (wN g kd n sl) (qn g)) H1) (z : H1.size = H.size + 1) (oq : ∀ q : Nat, q < H.size → H1[q]? = H[q]?) : Cp D ka ad ct A H0 (wN g kd n sl) H1 locs := by
  obtain ⟨h1, h2, h3, h4⟩ := hp
  have a0 : ad (qn g) = H.size := h4 0
  have hne : ∀ j, j ≠ qn g → qk (wN g kd n sl) j = qk g j ∧ ql (wN g kd n sl) j = ql g j ∧ qI (wN g kd n sl) j = qI g j ∧ qJ (wN g kd n sl) j = qJ g j ∧ qP (wN g kd n sl) j = qP g j := fun j hj => ⟨va_up_ne _ _ hj, va_up_ne _ _ hj, va_up_ne _ _ hj, va_up_ne _ _ hj, va_up_ne _ _ hj⟩
  have hce : ∀ j, j ≠ qn g → ce ad ct (wN g kd n sl) j = ce ad ct g j := fun j hj => by
    obtain ⟨f1, f2, f3, f4, f5⟩ := hne j hj
    have hv : cv ad (wN g kd n sl) j = cv ad g j := by
      funext k
      unfold cv
      rw [f1, f3, f4, f5]
    unfold ce
    rw [f1, f2, hv, f3, f5]
  refine ⟨fun j hj hk => ?_, ⟨by rw [z]; exact Nat.le_succ_of_le h2.1, fun q g1 g2 => (oq q (Nat.lt_of_lt_of_le g1 h2.1)).trans (h2.2.1 q g1 g2), h2.2.2⟩, ?_, fun j => ?_⟩
  · by_cases hij : j = qn g
    · subst hij
      exact ⟨e1, by rw [a0]; exact hA _ h2.1⟩
    · rw [(hne j hij).1] at hk
      rw [hce j hij]
      exact ⟨(h1 j hj hk).1.kept (oq _ (h1 j hj hk).1.lt), (h1 j hj hk).2⟩
  · obtain ⟨w1, w2, w3, w4, w5, w6⟩ := h3
    refine ⟨Nat.le_succ_of_le w1, fun i hi => ?_, fun i hi => ?_, fun i ha hb => ?_, w5, w6⟩
    · have hi' : qn g + 1 ≤ i := hi
      rw [(hne i (by omega)).1]
      exact w2 i (by omega)
    · obtain ⟨f1, f2, f3, f4, f5⟩ := hne i (by omega)
      obtain ⟨g1, g2, g3, g4, g5⟩ := hne (9 + i) (by omega)
      rw [f1, f3, f5, g1, g2, g3]
      exact w3 i hi
    · rw [(hne i (by omega)).1]
      exact w4 i ha hb
  · show ad (qn g + 1 + j) = H1.size + j
    rw [show qn g + 1 + j = qn g + (j + 1) by omega, h4 (j + 1), z]
    omega
section QN
variable {p : Program} {l : Launch} {e : Env} {R : Room} {s : State} {m : MethodId} {args : Array Value} {below : List Frame} {meth : Method} {c : Code} {H : Heap} {locs : List Loc} {cells slots : Nat} {Q : State → Prop}
variable {cc : ByteArray} {pc : Nat} {ls : Array Slot} {rest : List Value} {D : va_G} {A : Nat → Prop} {H0 : Heap} {ka ad : Nat → Nat} {ct : Nat → ClassId} {g : CS} {own ref C : String} {index : Nat} {Ts : List Cond} {T : u_T} {N ci i k : Nat}
theorem q_new (hexec : p.tables.exec = Jvm.exec) (hb : c.code = cc) (hts : ∀ w ∈ Ts, w.before args s = true) (hin : ∀ w ∈ u_ws C T N, w ∈ Ts) (ty : Nat → FieldType) (hty : ∀ k, k < N → parseFieldDescriptor (T k).2.2.1 = some (ty k)) (hown : s.vm.findClass own = some m.cls) (hcl : (Cond.classLink own index C).before args s = true) (hinst : (Cond.instantiable C N).before args s = true) (hini : (Cond.initialized C).before args s = true)
    (hK : va_K D vwCl (cT ct) s) (hp : Cp D ka ad ct A H0 g H locs) (hA : ∀ q, H0.size ≤ q → A q) (h19 : ci < 19) (hN : (cfl (ci + 1)).length = N) (hc : vwCl[ci]? = some (C, T, N)) (hdv : ∀ j, j < N → defaultValue (ty j) = dv ((cfl (ci + 1)).getD j 9)) (hcells : cells + 1 ≤ R.cells) (hslots : slots + N ≤ R.slots) (hdg : decode cc pc = .ok (.new index, 3))
    (kk : ∀ H1 : Heap, Cp D ka ad ct A H0 (wN g (ci + 1) 0 N) H1 locs → W p l e R s m args below meth c H1 locs (cells + 1) (slots + N) Q (F0 m (pc + 3) ls (.ref (ad (qn g)) :: rest))) : W p l e R s m args below meth c H locs cells slots Q (F0 m pc ls rest) := by
  have hKn := hK.1 ci _ hc
  have a0 : ad (qn g) = H.size := hp.2.2.2 0
  refine W.newcK hexec hb hown hcl hinst hini rfl hdg hcells hslots hKn.2.1 rfl fun H1 kC hkC e1 z1 o1 => ?_
  rw [← a0]
  have ek : qk (wN g (ci + 1) 0 N) (qn g) = ci + 1 := va_up_self _ _ _
  refine kk H1 (hp.new hA ?_ z1 o1)
  rw [ce_o ek h19 hN, a0]
  refine ⟨_, hc, (u_born ty hts hin hKn hkC e1 hty).to (fun j hj => ?_)⟩
  rw [hdv j hj]
  show _ = vp_V (mon N (cv ad (wN g (ci + 1) 0 N) (qn g))) j
  have e9 : vp_V (mon N (cv ad (wN g (ci + 1) 0 N) (qn g))) j = cv ad (wN g (ci + 1) 0 N) (qn g) j := by simp [vp_V, mon_get _ hj]
  rw [e9]
  unfold cv dv
  rw [ek]
  have e2 : qI (wN g (ci + 1) 0 N) (qn g) j = 0 := congrFun (va_up_self _ _ _) j
  have e3 : qJ (wN g (ci + 1) 0 N) (qn g) j = 0 := congrFun (va_up_self _ _ _) j
  have e4 : qP (wN g (ci + 1) 0 N) (qn g) j = none := congrFun (va_up_self _ _ _) j
  rw [e2, e3, e4]
  rfl
theorem q_newa {kd t0 : Nat} {ty : FieldType} (hexec : p.tables.exec = Jvm.exec) (hb : c.code = cc) {atype : ArrayType} (harr : (Cond.arrayClass (newarray.typeOf atype)).before args s = true) (hty : newarray.typeOf atype = ty) (hK : va_K D vwCl (cT ct) s) (hp : Cp D ka ad ct A H0 g H locs) (hA : ∀ q, H0.size ≤ q → A q) (h20 : 20 ≤ kd) (h23 : kd < 23) (ht : (cT ct)[t0]? = some (ct kd, ty)) (hra : ∀ cA : ClassId, va_RA s cA ty = (s.vm.findClass ("[" ++ ty.toString) = some cA)) (hdef : defaultValue ty = .int 0)
    {n : Int32} (hn : ¬ n < 0) (hbytes : n.toNatClampNeg * componentBytes ty ≤ 536870912) (hcells : cells + 1 ≤ R.cells) (hslots : slots + n.toNatClampNeg ≤ R.slots) (hdg : decode cc pc = .ok (.newarray atype, 2))
    (kk : ∀ H1 : Heap, Cp D ka ad ct A H0 (wN g kd n.toNatClampNeg n.toNatClampNeg) H1 locs → W p l e R s m args below meth c H1 locs (cells + 1) (slots + n.toNatClampNeg) Q (F0 m (pc + 2) ls (.ref (ad (qn g)) :: rest))) : W p l e R s m args below meth c H locs cells slots Q (F0 m pc ls (.int n :: rest)) := by
  subst hty
  have a0 : ad (qn g) = H.size := hp.2.2.2 0
  refine va_newaK hexec hb harr rfl hdg rfl hn rfl hbytes hcells hslots rfl fun H1 cA e1 z1 o1 hAr hNm => ?_
  have hcA : cA = ct kd := by
    have h := (hK.2 t0 _ ht).2
    rw [hra] at h
    exact Option.some.inj (hNm.symm.trans h)
  subst hcA
  have ek : qk (wN g kd n.toNatClampNeg n.toNatClampNeg) (qn g) = kd := va_up_self _ _ _
  show W p l e R s m args below meth c H1 locs (cells + 1) (slots + n.toNatClampNeg) Q (F0 m (pc + 2) ls (.ref H.size :: rest))
  rw [← a0]
  refine kk H1 (hp.new hA ?_ z1 o1)
  rw [ce_i ek h20 h23, a0]
  show H1[H.size]? = some (vp_cell _ _)
  rw [e1, vp_cell_i]
  have e2 : qI (wN g kd n.toNatClampNeg n.toNatClampNeg) (qn g) = fun _ => 0 := va_up_self _ _ _
  have e3 : ql (wN g kd n.toNatClampNeg n.toNatClampNeg) (qn g) = n.toNatClampNeg := va_up_self _ _ _
  rw [e2, e3, hdef]
theorem q_newq {kd t0 : Nat} {E : String} (hexec : p.tables.exec = Jvm.exec) (hb : c.code = cc) (hown : s.vm.findClass own = some m.cls) (hclink : (Cond.classLink own index E).before args s = true) (hover : va_AO E s) (hK : va_K D vwCl (cT ct) s) (hp : Cp D ka ad ct A H0 g H locs) (hA : ∀ q, H0.size ≤ q → A q) (h23 : 23 ≤ kd) (ht : (cT ct)[t0]? = some (ct kd, .object E))
    {n : Int32} (hn : ¬ n < 0) (hbytes : n.toNatClampNeg * 4 ≤ 536870912) (hcells : cells + 1 ≤ R.cells) (hslots : slots + n.toNatClampNeg ≤ R.slots) (hdg : decode cc pc = .ok (.anewarray index, 3))
    (kk : ∀ H1 : Heap, Cp D ka ad ct A H0 (wN g kd n.toNatClampNeg n.toNatClampNeg) H1 locs → W p l e R s m args below meth c H1 locs (cells + 1) (slots + n.toNatClampNeg) Q (F0 m (pc + 3) ls (.ref (ad (qn g)) :: rest))) : W p l e R s m args below meth c H locs cells slots Q (F0 m pc ls (.int n :: rest)) := by
  have a0 : ad (qn g) = H.size := hp.2.2.2 0
  refine W.anew hexec hb hown hclink (va_AO.use hover) rfl hdg rfl hn hbytes hcells hslots fun cA kA comp f1 f2 f3 f4 => ?_
  generalize hH1 : H.push ({ cls := cA, slots := Array.replicate n.toNatClampNeg .null, vm := .none } : Cell) = H1
  have z1 : H1.size = H.size + 1 := by rw [← hH1, Array.size_push]
  have e1 : H1[H.size]? = some (arrV cA n.toNatClampNeg (fun _ => .null)) := by rw [← hH1, Array.getElem?_push_size, ← arrV_new]
  have o1 : ∀ q : Nat, q < H.size → H1[q]? = H[q]? := fun q hq => by rw [← hH1, Array.getElem?_push, if_neg (Nat.ne_of_lt hq)]
  have hcA : cA = ct kd := by
    obtain ⟨kA2, comp2, k1, k2, k3, k4⟩ := (hK.2 t0 _ ht).2
    exact Option.some.inj (f1.symm.trans k4)
  subst hcA
  have ek : qk (wN g kd n.toNatClampNeg n.toNatClampNeg) (qn g) = kd := va_up_self _ _ _
  show W p l e R s m args below meth c H1 locs (cells + 1) (slots + n.toNatClampNeg) Q (F0 m (pc + 3) ls (.ref H.size :: rest))
  rw [← a0]
  refine kk H1 (hp.new hA ?_ z1 o1)
  rw [ce_q ek h23, a0]
  show H1[H.size]? = some (vp_cell _ _)
  rw [e1, vp_cell_q]
  have e2 : qP (wN g kd n.toNatClampNeg n.toNatClampNeg) (qn g) = fun _ => none := va_up_self _ _ _
  have e3 : ql (wN g kd n.toNatClampNeg n.toNatClampNeg) (qn g) = n.toNatClampNeg := va_up_self _ _ _
  rw [e2, e3]
  rfl
/-- a String's fields, of a constant too -/
theorem q_gs (hexec : p.tables.exec = Jvm.exec) (hb : c.code = cc) (hts : ∀ w ∈ Ts, w.before args s = true) (hin : ∀ w ∈ u_ws RJ0 TJ0 4, w ∈ Ts) (hown : s.vm.findClass own = some m.cls) (hK : va_K D vwCl (cT ct) s) (hp : Cp D ka ad ct A s.heap g H locs) (hC : kS ka A s s.heap) (hq : qk g i = 1) (hk : k = 0 ∨ k = 1) (hlk : (Cond.fieldLink own index "java/lang/String" (TJ0 k).2.1 (TJ0 k).2.2.1).before args s = true) (hdg : decode cc pc = .ok (.getfield index, 3))
    (kk : W p l e R s m args below meth c H locs cells slots Q (F0 m (pc + 3) ls (cv ad g i k :: rest))) : W p l e R s m args below meth c H locs cells slots Q (F0 m pc ls (.ref (ad i) :: rest)) := by
  rcases Nat.lt_or_ge i 32 with h32 | h32
  · have h9 : i < 9 := by
      rcases Nat.lt_or_ge i 9 with h9 | h9
      · exact h9
      · exfalso
        rcases Nat.lt_or_ge i 18 with h18 | h18
        · have := (hp.2.2.1.2.2.1 (i - 9) (by omega)).2.2.2.1
          rw [show 9 + (i - 9) = i by omega] at this
          omega
        · have := hp.2.2.1.2.2.2.1 i h18 h32
          omega
    obtain ⟨w1, w2, w3, w4, w5, w6⟩ := hp.2.2.1.2.2.1 i h9
    have ea : ad i = ka i := hp.2.2.1.2.2.2.2.1 i (by omega)
    have eb : ad (9 + i) = ka (9 + i) := hp.2.2.1.2.2.2.2.1 (9 + i) (by omega)
    obtain ⟨c1, c2, c3, c4⟩ := hC.1 i h9
    rw [ea]
    rcases hk with rfl | rfl
    · refine vk_getf (o := "java/lang/String") (n := "value") (d := "[B") hexec hb c3 hp.2.1 hown hlk (fun _ h9 => h9) hdg ?_
      rw [cv_p hq rfl, w2] at kk
      show W p l e R s m args below meth c H locs cells slots Q (F0 m (pc + 3) ls (Value.ref (ka (9 + i)) :: rest))
      rw [← eb]
      exact kk
    · refine vk_getf (o := "java/lang/String") (n := "coder") (d := "B") hexec hb c2 hp.2.1 hown hlk (fun _ h9 => h9) hdg ?_
      rw [cv_i hq rfl, w3] at kk
      exact kk
  · rcases hk with rfl | rfl
    · exact q_get (ci := 0) (C := RJ0) (T := TJ0) (N := 4) hexec hb hts hin hown hK hp h32 hq (by decide) rfl rfl (by decide) (Or.inl hlk) (fun _ h9 => h9) hdg kk
    · exact q_get (ci := 0) (C := RJ0) (T := TJ0) (N := 4) hexec hb hts hin hown hK hp h32 hq (by decide) rfl rfl (by decide) (Or.inl hlk) (fun _ h9 => h9) hdg kk
/-- a row of bytes, of a constant too -/
theorem q_bytes (hK : va_K D vwCl (cT ct) s) (hp : Cp D ka ad ct A s.heap g H locs) (hC : kS ka A s s.heap) (hq : qk g i = 22) : ∃ cell : Cell, H[ad i]? = some cell ∧ s.isArrayOf cell .byte ∧ cell.vm ≠ .unknown ∧ ql g i ≤ cell.slots.size ∧ cell.slots.size.toInt32 = nI (ql g i) ∧ ∀ j, j < ql g i → cell.slots[j]? = some (.int (qI g i j)) := by
  rcases Nat.lt_or_ge i 32 with h32 | h32
  · have h9 : ∃ j, j < 9 ∧ i = 9 + j := by
      rcases Nat.lt_or_ge i 9 with h9 | h9
      · exfalso
        have := (hp.2.2.1.2.2.1 i h9).1
        omega
      · rcases Nat.lt_or_ge i 18 with h18 | h18
        · exact ⟨i - 9, by omega, by omega⟩
        · exfalso
          have := hp.2.2.1.2.2.2.1 i h18 h32
          omega
    obtain ⟨j, hj, rfl⟩ := h9
    obtain ⟨w1, w2, w3, w4, w5, w6⟩ := hp.2.2.1.2.2.1 j hj
    have eb : ad (9 + j) = ka (9 + j) := hp.2.2.1.2.2.2.2.1 (9 + j) (by omega)
    obtain ⟨scr, s1, s2, s3, s4, s5, s6, s7⟩ := (hC.1 j hj).2.2.2.kept hp.2.1.2.1
    refine ⟨scr, by rw [eb]; exact s1, s2, s3, by rw [w5]; exact s4, by rw [w5]; exact s5, fun x hx => ?_⟩
    rw [w6 x]
    exact s6 x (by rw [w5] at hx; exact hx)
  · have h0 := (hp.1 i h32 (by omega)).1
    rw [ce_i hq (by decide) (by decide)] at h0
    refine ⟨_, h0, (hK.2 1 _ rfl).1 (ql g i) (fun j => .int (qI g i j)), (fun q => by cases q), ?_, ?_, fun j hj => ?_⟩
    · show _ ≤ (arrV _ _ _).slots.size
      rw [arrV_size]
      exact Nat.le_refl _
    · show (arrV _ _ _).slots.size.toInt32 = _
      rw [arrV_size]
      rfl
    · show (arrV _ _ _).slots[j]? = _
      rw [arrV_read _ _ hj]
theorem q_ab (hexec : p.tables.exec = Jvm.exec) (hb : c.code = cc) (hK : va_K D vwCl (cT ct) s) (hp : Cp D ka ad ct A s.heap g H locs) (hC : kS ka A s s.heap) {x : Int32} (hq : qk g i = 22) (hin : vp_in x (ql g i)) (hl31 : ql g i < 2 ^ 31) (hdg : decode cc pc = .ok (.baload, 1))
    (kk : W p l e R s m args below meth c H locs cells slots Q (F0 m (pc + 1) ls (.int (qI g i x.toNatClampNeg) :: rest))) : W p l e R s m args below meth c H locs cells slots Q (F0 m pc ls (.int x :: .ref (ad i) :: rest)) := by
  obtain ⟨cell, h1, h2, h3, h4, h5, h6⟩ := q_bytes hK hp hC hq
  have hlt : x.toNatClampNeg < ql g i := Nat.not_le.mp fun q => hin (Or.inr q)
  exact W.bald (v := .int (qI g i x.toNatClampNeg)) hexec hb h1 h2 h3 (fun h => h.elim (fun h => hin (Or.inl h)) (fun h => by omega)) (h6 _ hlt) rfl rfl hdg kk
theorem q_lenb (hexec : p.tables.exec = Jvm.exec) (hb : c.code = cc) (hK : va_K D vwCl (cT ct) s) (hp : Cp D ka ad ct A s.heap g H locs) (hC : kS ka A s s.heap) (hq : qk g i = 22) (hdg : decode cc pc = .ok (.arraylength, 1))
    (kk : W p l e R s m args below meth c H locs cells slots Q (F0 m (pc + 1) ls (.int (nI (ql g i)) :: rest))) : W p l e R s m args below meth c H locs cells slots Q (F0 m pc ls (.ref (ad i) :: rest)) := by
  obtain ⟨cell, h1, h2, h3, h4, h5, h6⟩ := q_bytes hK hp hC hq
  exact W.alen (n := nI (ql g i)) hexec hb h1 h2 h5 rfl rfl hdg kk
/-- the receiver of a call -/
theorem q_recv {q : vw_C} (hK : va_K D vwCl (cT ct) s) (hp : Cp D ka ad ct A s.heap g H locs) (hC : kS ka A s s.heap) (hq : qk g i = ci + 1) (h19 : ci < 19) (hc : vwCl[ci]? = some q) (h0 : ci = 0 → q.1 = "java/lang/String") : ∃ cell : Cell, H[ad i]? = some cell ∧ cell.vm.isStatics = false ∧ s.vm.findClass q.1 = some cell.cls := by
  rcases Nat.lt_or_ge i 32 with h32 | h32
  · have h9 : i < 9 ∧ ci = 0 := by
      rcases Nat.lt_or_ge i 9 with h9 | h9
      · have := (hp.2.2.1.2.2.1 i h9).1
        exact ⟨h9, by omega⟩
      · exfalso
        rcases Nat.lt_or_ge i 18 with h18 | h18
        · have := (hp.2.2.1.2.2.1 (i - 9) (by omega)).2.2.2.1
          rw [show 9 + (i - 9) = i by omega] at this
          omega
        · have := hp.2.2.1.2.2.2.1 i h18 h32
          omega
    have ea : ad i = ka i := hp.2.2.1.2.2.2.2.1 i (by omega)
    rw [ea, h0 h9.2]
    exact vk_recv hC h9.1 hp.2.1
  · have hw := (hp.1 i h32 (by omega)).1
    rw [ce_o hq h19 rfl] at hw
    obtain ⟨q', g1, cell, g2, g3, g4, -⟩ := hw
    exact ⟨cell, g2, by rw [g4]; rfl, by rw [g3]; exact (hK.1 ci q hc).2.1⟩
/-- System.arraycopy between rows of bytes -/
theorem q_copy {i j : Nat} (hexec : p.tables.exec = Jvm.exec) (hb : c.code = cc) (hml : c.maxLocals = ls.size) (hown : s.vm.findClass own = some m.cls) (hlink : (Cond.methodLink own index arraycopyName).before args s = true) (hnat : (Cond.native arraycopyName).before args s = true) (hstat : (Cond.static arraycopyName).before args s = true) (hini : (Cond.initialized "java/lang/System").before args s = true)
    (hK : va_K D vwCl (cT ct) s) (hp : Cp D ka ad ct A H0 g H locs) (hi : 32 ≤ i) (hj : 32 ≤ j) (hqi : qk g i = 22) (hqj : qk g j = 22)
    {sp dp n : Int32} (h1 : ¬ sp < 0) (h2 : ¬ dp < 0) (h3 : ¬ n < 0) (h4 : sp.toNatClampNeg + n.toNatClampNeg ≤ ql g i) (h5 : dp.toNatClampNeg + n.toNatClampNeg ≤ ql g j) (hfit : ∀ x, x < n.toNatClampNeg → fits .byte (.int (qI g i (sp.toNatClampNeg + x))) = true)
    (hframes : 1 ≤ R.frames) (hlocals : (rest.map fun v => v.category).sum + (nativeFrameWords "java/lang/System" "arraycopy" 5 + 11) ≤ R.locals) (hdg : decode cc pc = .ok (.invokestatic index, 3))
    (kk : ∀ (H1 : Heap) (locs1 : List Loc), Cp D ka ad ct A H0 (wF g j (va_cpy (qI g i) (qI g j) sp.toNatClampNeg dp.toNatClampNeg n.toNatClampNeg)) H1 locs1 → W p l e R s m args below meth c H1 locs1 cells slots Q (F0 m (pc + 3) ls rest)) : W p l e R s m args below meth c H locs cells slots Q (F0 m pc ls (.int n :: .int dp :: .ref (ad j) :: .int sp :: .ref (ad i) :: rest)) := by
  have nn : ∀ z : Int32, ¬ z < 0 → z.toInt = (z.toNatClampNeg : Int) := by
    intro z hz
    have hz0 : (0 : Int) ≤ z.toInt := by
      have := Int32.not_lt.mp hz
      simpa using Int32.le_iff_toInt_le.mp this
    show z.toInt = ((z.toInt.toNat : Nat) : Int)
    omega
  intro T hT X
  have hc0 : H[ad i]? = some (vp_cell (ct 22) (ql g i, .inl (qI g i))) := by
    have h0 := (hp.1 i hi (by omega)).1
    rw [ce_i hqi (by decide) (by decide)] at h0
    exact h0
  have hc1 : H[ad j]? = some (vp_cell (ct 22) (ql g j, .inl (qI g j))) := by
    have h0 := (hp.1 j hj (by omega)).1
    rw [ce_i hqj (by decide) (by decide)] at h0
    exact h0
  obtain ⟨-, k0, hk0, cm0, hkk0⟩ := (hK.2 1 _ rfl).1 (ql g i) (fun x => .int (qI g i x))
  obtain ⟨vm', X', step⟩ := X.arraycopy hexec hown hlink hnat hstat hini (src := ad i) (dst := ad j) (cs := vp_cell (ct 22) (ql g i, .inl (qI g i))) (cd := vp_cell (ct 22) (ql g j, .inl (qI g j))) (srcPos := sp) (destPos := dp) (n := n) (by rw [hT]; exact hc0) (by rw [hT]; exact hc1)
    (fun _ h => by cases h) (fun _ h => by cases h) (fun h => by cases h) (fun h => by cases h) hk0 hk0 hkk0 hkk0 (by simp [refKind]) h1 h2 h3
    (by rw [nn sp h1, nn n h3]; show ¬ _ > ((arrV (ct 22) (ql g i) (fun x => .int (qI g i x))).slots.size : Int); rw [arrV_size]; omega)
    (by rw [nn dp h2, nn n h3]; show ¬ _ > ((arrV (ct 22) (ql g j) (fun x => .int (qI g j x))).slots.size : Int); rw [arrV_size]; omega)
    (fun vm₁ _ x hx => by
      have e : (vp_cell (ct 22) (ql g i, .inl (qI g i))).slots.getD (sp.toNatClampNeg + x) .null = .int (qI g i (sp.toNatClampNeg + x)) := by
        show (arrV (ct 22) (ql g i) (fun x => .int (qI g i x))).slots.getD _ _ = _
        rw [Array.getD_eq_getD_getElem?, arrV_read _ _ (by omega)]
        rfl
      refine ⟨?_, ?_⟩
      · rw [e]
        exact hfit x hx
      · rw [e]
        exact trivial)
    (g := F0 m pc ls (.int n :: .int dp :: .ref (ad j) :: .int sp :: .ref (ad i) :: rest)) rfl (by rw [hml]) (rest := rest) rfl (by rw [hb]; exact hdg) hframes (by show 2 * 0 + _ + _ ≤ _; omega)
  have e1 : copied (vp_cell (ct 22) (ql g i, .inl (qI g i))) (vp_cell (ct 22) (ql g j, .inl (qI g j))) sp dp n = vp_cell (ct 22) (ql g j, .inl (va_cpy (qI g i) (qI g j) sp.toNatClampNeg dp.toNatClampNeg n.toNatClampNeg)) := va_copied (fun z => .int z) (ct 22) (ct 22) (qI g i) (qI g j) h4
  rw [e1] at X' step
  have hl : ad j < H.size := (Array.getElem?_eq_some_iff.mp hc1).1
  have hheap : ((T.setVm vm').setCell (ad j) (vp_cell (ct 22) (ql g j, .inl (va_cpy (qI g i) (qI g j) sp.toNatClampNeg dp.toNatClampNeg n.toNatClampNeg)))).heap = H.setIfInBounds (ad j) (vp_cell (ct 22) (ql g j, .inl (va_cpy (qI g i) (qI g j) sp.toNatClampNeg dp.toNatClampNeg n.toNatClampNeg))) := by rw [← hT]; rfl
  have oq : ∀ q : Nat, q ≠ ad j → (H.setIfInBounds (ad j) (vp_cell (ct 22) (ql g j, .inl (va_cpy (qI g i) (qI g j) sp.toNatClampNeg dp.toNatClampNeg n.toNatClampNeg))))[q]? = H[q]? := fun q hq => by simp [Array.getElem?_setIfInBounds, Ne.symm hq]
  have hw := hp.write (k := 0) hj (by omega) (Sm.wF (f := va_cpy (qI g i) (qI g j) sp.toNatClampNeg dp.toNatClampNeg n.toNatClampNeg)) (H1 := H.setIfInBounds (ad j) (vp_cell (ct 22) (ql g j, .inl (va_cpy (qI g i) (qI g j) sp.toNatClampNeg dp.toNatClampNeg n.toNatClampNeg)))) (by
      rw [ce_i (show qk (wF g j _) j = 22 from hqj) (by decide) (by decide)]
      show (H.setIfInBounds (ad j) _)[ad j]? = some (vp_cell _ (_, .inl (va_up g.2.2.2.1 j _ j)))
      rw [va_up_self]
      simp [Array.getElem?_setIfInBounds, hl]
      rfl) (by simp) oq
  obtain ⟨t, a1, b1⟩ := kk _ _ ⟨hw.1, ⟨hw.2.1.1, hw.2.1.2.1, fun q hq => by
      rcases List.mem_append.mp hq with h | h
      · exact hp.2.1.2.2 q h
      · obtain ⟨z, -, hz⟩ := List.mem_map.mp h
        rw [← hz]
        exact (hp.1 j hj (by omega)).2⟩, hw.2.2⟩ _ hheap X'
  exact ⟨t, step t a1, b1⟩
end QN

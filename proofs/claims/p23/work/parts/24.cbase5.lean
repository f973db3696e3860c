section QL
variable {p : Program} {l : Launch} {e : Env} {R : Room} {s : State} {m : MethodId} {args : Array Value} {below : List Frame} {meth : Method} {c : Code} {H : Heap} {locs : List Loc} {cells slots : Nat} {Q : State → Prop}
variable {cc : ByteArray} {pc : Nat} {ls : Array Slot} {rest : List Value} {D : va_G} {A : Nat → Prop} {H0 : Heap} {ka ad : Nat → Nat} {ct : Nat → ClassId} {g : CS} {own tx : String} {index i j : Nat}
theorem q_ldc (hexec : p.tables.exec = Jvm.exec) (hb : c.code = cc) (hown : s.vm.findClass own = some m.cls) (hZ : vk_R own index tx (ka i) s) (hp : Cp D ka ad ct A H0 g H locs) (hi : i < 18) (hdg : decode cc pc = .ok (.ldc index, 2))
    (k : W p l e R s m args below meth c H locs cells slots Q (F0 m (pc + 2) ls (.ref (ad i) :: rest))) : W p l e R s m args below meth c H locs cells slots Q (F0 m pc ls rest) := by
  have ea : ad i = ka i := hp.2.2.1.2.2.2.2.1 i hi
  rw [ea] at k
  exact va_ldcS hexec hb hown hZ hdg k
theorem str_inj (hp : Cp D ka ad ct A s.heap g H locs) (hC : kS ka A s s.heap) (hi : qk g i = 1) (hj : qk g j = 1) (h : ad i = ad j) : i = j := by
  have small : ∀ x, qk g x = 1 → x < 32 → x < 9 := fun x hx h32 => by
    rcases Nat.lt_or_ge x 9 with h9 | h9
    · exact h9
    · exfalso
      rcases Nat.lt_or_ge x 18 with h18 | h18
      · have := (hp.2.2.1.2.2.1 (x - 9) (by omega)).2.2.2.1
        rw [show 9 + (x - 9) = x by omega] at this
        omega
      · have := hp.2.2.1.2.2.2.1 x h18 h32
        omega
  have out : ∀ x, x < 9 → ¬ A (ad x) := fun x hx => by
    have ea : ad x = ka x := hp.2.2.1.2.2.2.2.1 x (by omega)
    rw [ea]
    obtain ⟨cell, -, -, -, h4⟩ := (hC.1 x hx).1
    exact h4
  rcases Nat.lt_or_ge i 32 with hi32 | hi32
  · have hi9 := small i hi hi32
    rcases Nat.lt_or_ge j 32 with hj32 | hj32
    · have hj9 := small j hj hj32
      refine hC.2 i j hi9 hj9 ?_
      rw [← hp.2.2.1.2.2.2.2.1 i (by omega), ← hp.2.2.1.2.2.2.2.1 j (by omega)]
      exact h
    · exact absurd (by rw [h]; exact (hp.1 j hj32 (by omega)).2) (out i hi9)
  · rcases Nat.lt_or_ge j 32 with hj32 | hj32
    · exact absurd (by rw [← h]; exact (hp.1 i hi32 (by omega)).2) (out j (small j hj hj32))
    · exact hp.2.2.1.2.2.2.2.2 i j hi32 hj32 h
theorem q_acmp_ne (hexec : p.tables.exec = Jvm.exec) (hb : c.code = cc) (hp : Cp D ka ad ct A s.heap g H locs) (hC : kS ka A s s.heap) (hi : qk g i = 1) (hj : qk g j = 1) {off : Int} {tgt : Nat} (hdg : decode cc pc = .ok (.if_acmp .ne off, 3)) (ht : (pc : Int) + off = (tgt : Int))
    (kt : ¬ i = j → W p l e R s m args below meth c H locs cells slots Q (F0 m tgt ls rest)) (kf : i = j → W p l e R s m args below meth c H locs cells slots Q (F0 m (pc + 3) ls rest)) : W p l e R s m args below meth c H locs cells slots Q (F0 m pc ls (.ref (ad j) :: .ref (ad i) :: rest)) :=
  lv_acmp_ne (rx := some (ad i)) (ry := some (ad j)) hexec hb hdg ht (fun h => kt (fun e => h (by rw [e]))) (fun h => kf (str_inj hp hC hi hj (Option.some.inj h)))
end QL

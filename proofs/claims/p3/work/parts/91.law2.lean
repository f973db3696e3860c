theorem vL {i k : Int32} {L : Nat} (hi : 0 ≤ i.toInt) (hiL : i.toInt + 6 ≤ L) (hL : L ≤ 3072) (k1 : 0 ≤ k.toInt) (k2 : k.toInt ≤ 5) : vp_in (i + k) L := by
  rw [t_in, t_add (by omega) (by omega)]
  omega
theorem r_fault {w : Int32} {st : RS} : Ok (x9_fault w st) (fun q => q.2 = st) := by
  unfold x9_fault
  simp only [Ok_pif, Ok_some]
  exact ⟨fun _ => trivial, fun _ => ⟨fun _ => trivial, fun _ => trivial⟩⟩
theorem r_by {st : RS} : Ok (x9_by st) (fun q => q.2 = st) := by
  unfold x9_by
  rw [Ok_some]
/-- make on both sides: the text readers take the same texts -/
def MkH : Prop := ∀ (m : Int32) (g : CS) (r : RS), IN g r → Ok (fX8_make 32 m g) (fun q => Ok (x9_make m r) (fun p => IN q.2 p.2) ∧ qn q.2 ≤ qn g + 1000 ∧ qs q.2 ≤ qs g + 13000)
theorem s_feed (L : Nat) (xs : Nat → Int32) (K : Int32 → CS → RS → Option Int32) (i : Int32) (c0 : CS) (r0 : RS) (h : IN c0 r0) (hi : 0 ≤ i.toInt) (hiL : i.toInt + 6 ≤ L) (hL : L ≤ 3072) (hK : ∀ c r, IN c r → qn c ≤ qn c0 + 1000 → qs c ≤ qs c0 + 13000 → Ok (K (i + 6) c r) (fun x => x = 1)) : Ok (lawF_0 L xs K i c0 r0) (fun x => x = 1) := by
  unfold lawF_0
  simp only [Ok_gd]
  refine ⟨vL hi hiL hL (by decide) (by decide), vL hi hiL hL (by decide) (by decide), vL hi hiL hL (by decide) (by decide), vL hi hiL hL (by decide) (by decide), vL hi hiL hL (by decide) (by decide), h.1.1.1, Ok.call (b_feed h) (fun q t ht => ?_)⟩
  obtain ⟨x, u, hx, e1, hI, hn, hs⟩ := ht
  simp only [Ok_gd]
  refine ⟨vL hi hiL hL (by decide) (by decide), vL hi hiL hL (by decide) (by decide), vL hi hiL hL (by decide) (by decide), vL hi hiL hL (by decide) (by decide), vL hi hiL hL (by decide) (by decide), ?_⟩
  rw [hx]
  show Ok (K (i + 6) t u) _
  exact hK t u hI (by rw [show qn t = qn c0 from hn]; omega) (by rw [show qs t = qs c0 from hs]; omega)
theorem s_end (L : Nat) (xs : Nat → Int32) (K : Int32 → CS → RS → Option Int32) (i : Int32) (c0 : CS) (r0 : RS) (h : IN c0 r0) (hi : 0 ≤ i.toInt) (hiL : i.toInt + 6 ≤ L) (hL : L ≤ 3072) (hK : ∀ c r, IN c r → qn c ≤ qn c0 + 1000 → qs c ≤ qs c0 + 13000 → Ok (K (i + 6) c r) (fun x => x = 1)) : Ok (lawF_1 L xs K i c0 r0) (fun x => x = 1) := by
  unfold lawF_1
  simp only [Ok_gd]
  refine ⟨vL hi hiL hL (by decide) (by decide), h.1.1.1, Ok.call (b_end h) (fun q t ht => ?_)⟩
  obtain ⟨x, u, hx, e1, hI, hn, hs⟩ := ht
  simp only [Ok_gd]
  refine ⟨vL hi hiL hL (by decide) (by decide), ?_⟩
  rw [hx]
  show Ok (pif (q = x) (nam (i + 6) (fun v => K v t u)) (some 0)) _
  refine Ok_pif.mpr ⟨fun _ => hK t u hI (by rw [show qn t = qn c0 from hn]; omega) (by rw [show qs t = qs c0 from hs]; omega), fun n => absurd e1 n⟩
theorem s_make (L : Nat) (xs : Nat → Int32) (K : Int32 → CS → RS → Option Int32) (i : Int32) (c0 : CS) (r0 : RS) (h : IN c0 r0) (hi : 0 ≤ i.toInt) (hiL : i.toInt + 6 ≤ L) (hL : L ≤ 3072) (hK : ∀ c r, IN c r → qn c ≤ qn c0 + 1000 → qs c ≤ qs c0 + 13000 → Ok (K (i + 6) c r) (fun x => x = 1)) (hM : MkH) (hb : qn c0 ≤ 590000 ∧ qs c0 ≤ 6900000) : Ok (lawF_2 L xs K i c0 r0) (fun x => x = 1) := by
  unfold lawF_2
  simp only [Ok_gd]
  refine ⟨vL hi hiL hL (by decide) (by decide), h.1.1.1, Ok.call (hM _ c0 r0 h) (fun q t ht => ?_)⟩
  obtain ⟨hR, hn, hs⟩ := ht
  have hn : qn t ≤ qn c0 + 1000 := hn
  have hs : qs t ≤ qs c0 + 13000 := hs
  simp only [Ok_gd]
  refine ⟨⟨by omega, by omega⟩, vL hi hiL hL (by decide) (by decide), Ok.call hR (fun p u hu => ?_)⟩
  rw [Ok_nam]
  exact hK t u hu hn hs
theorem s_fault (L : Nat) (xs : Nat → Int32) (K : Int32 → CS → RS → Option Int32) (i : Int32) (c0 : CS) (r0 : RS) (h : IN c0 r0) (hi : 0 ≤ i.toInt) (hiL : i.toInt + 6 ≤ L) (hL : L ≤ 3072) (hK : ∀ c r, IN c r → qn c ≤ qn c0 + 1000 → qs c ≤ qs c0 + 13000 → Ok (K (i + 6) c r) (fun x => x = 1)) : Ok (lawF_3 L xs K i c0 r0) (fun x => x = 1) := by
  unfold lawF_3
  simp only [Ok_gd]
  refine ⟨vL hi hiL hL (by decide) (by decide), h.1.1.1, Ok.call (c_fault h.1) (fun q t ht => ?_)⟩
  have ht : t = c0 := ht
  subst ht
  simp only [Ok_gd]
  refine ⟨vL hi hiL hL (by decide) (by decide), Ok.call (r_fault) (fun p u hu => ?_)⟩
  have hu : u = r0 := hu
  subst hu
  rw [Ok_nam]
  exact hK _ _ h (by omega) (by omega)
theorem s_field (L : Nat) (xs : Nat → Int32) (K : Int32 → CS → RS → Option Int32) (i : Int32) (c0 : CS) (r0 : RS) (h : IN c0 r0) (hi : 0 ≤ i.toInt) (hiL : i.toInt + 6 ≤ L) (hL : L ≤ 3072) (hK : ∀ c r, IN c r → qn c ≤ qn c0 + 1000 → qs c ≤ qs c0 + 13000 → Ok (K (i + 6) c r) (fun x => x = 1)) : Ok (lawF_4 L xs K i c0 r0) (fun x => x = 1) := by
  unfold lawF_4
  simp only [Ok_gd]
  refine ⟨vL hi hiL hL (by decide) (by decide), vL hi hiL hL (by decide) (by decide), vL hi hiL hL (by decide) (by decide), h.1.1.1, Ok.call (c_field h.1) (fun q t ht => ?_)⟩
  have ht : t = c0 := ht
  subst ht
  simp only [Ok_gd]
  refine ⟨vL hi hiL hL (by decide) (by decide), vL hi hiL hL (by decide) (by decide), vL hi hiL hL (by decide) (by decide), Ok.call (r_field) (fun p u hu => ?_)⟩
  have hu : u = r0 := hu
  subst hu
  rw [Ok_nam]
  exact hK _ _ h (by omega) (by omega)
theorem s_plain (L : Nat) (xs : Nat → Int32) (K : Int32 → CS → RS → Option Int32) (i : Int32) (c0 : CS) (r0 : RS) (h : IN c0 r0) (hi : 0 ≤ i.toInt) (hiL : i.toInt + 6 ≤ L) (hL : L ≤ 3072) (hK : ∀ c r, IN c r → qn c ≤ qn c0 + 1000 → qs c ≤ qs c0 + 13000 → Ok (K (i + 6) c r) (fun x => x = 1)) : Ok (lawF_5 L xs K i c0 r0) (fun x => x = 1) := by
  unfold lawF_5
  simp only [Ok_gd]
  refine ⟨vL hi hiL hL (by decide) (by decide), vL hi hiL hL (by decide) (by decide), h.1.1.1, Ok.call (c_plain h.1) (fun q t ht => ?_)⟩
  have ht : t = c0 := ht
  subst ht
  simp only [Ok_gd]
  refine ⟨vL hi hiL hL (by decide) (by decide), vL hi hiL hL (by decide) (by decide), Ok.call (r_plain) (fun p u hu => ?_)⟩
  have hu : u = r0 := hu
  subst hu
  rw [Ok_nam]
  exact hK _ _ h (by omega) (by omega)
theorem s_clear (L : Nat) (xs : Nat → Int32) (K : Int32 → CS → RS → Option Int32) (i : Int32) (c0 : CS) (r0 : RS) (h : IN c0 r0) (hi : 0 ≤ i.toInt) (hiL : i.toInt + 6 ≤ L) (hL : L ≤ 3072) (hK : ∀ c r, IN c r → qn c ≤ qn c0 + 1000 → qs c ≤ qs c0 + 13000 → Ok (K (i + 6) c r) (fun x => x = 1)) : Ok (lawF_6 L xs K i c0 r0) (fun x => x = 1) := by
  unfold lawF_6
  simp only [Ok_gd]
  refine ⟨vL hi hiL hL (by decide) (by decide), h.1.1.1, Ok.call (c_clear h.1) (fun q t ht => ?_)⟩
  have ht : Sf c0 t := ht
  simp only [Ok_gd]
  refine ⟨vL hi hiL hL (by decide) (by decide), Ok.call (r_clear h.2.1) (fun p u hu => ?_)⟩
  have hu : Kp r0 u := hu
  rw [Ok_nam]
  exact hK _ _ ((h.c ht).r hu) (by rw [ht.2.1]; omega) (by rw [ht.2.2.1]; omega)
theorem s_load (L : Nat) (xs : Nat → Int32) (K : Int32 → CS → RS → Option Int32) (i : Int32) (c0 : CS) (r0 : RS) (h : IN c0 r0) (hi : 0 ≤ i.toInt) (hiL : i.toInt + 6 ≤ L) (hL : L ≤ 3072) (hK : ∀ c r, IN c r → qn c ≤ qn c0 + 1000 → qs c ≤ qs c0 + 13000 → Ok (K (i + 6) c r) (fun x => x = 1)) : Ok (lawF_7 L xs K i c0 r0) (fun x => x = 1) := by
  unfold lawF_7
  simp only [Ok_gd]
  refine ⟨vL hi hiL hL (by decide) (by decide), h.1.1.1, Ok.call (b_load h) (fun q t ht => ?_)⟩
  obtain ⟨hR, hn, hs⟩ := ht
  simp only [Ok_gd]
  refine ⟨vL hi hiL hL (by decide) (by decide), Ok.call hR (fun p u hu => ?_)⟩
  rw [Ok_nam]
  exact hK t u hu (by rw [show qn t = qn c0 from hn]; omega) (by rw [show qs t = qs c0 from hs]; omega)
theorem s_set (L : Nat) (xs : Nat → Int32) (K : Int32 → CS → RS → Option Int32) (i : Int32) (c0 : CS) (r0 : RS) (h : IN c0 r0) (hi : 0 ≤ i.toInt) (hiL : i.toInt + 6 ≤ L) (hL : L ≤ 3072) (hK : ∀ c r, IN c r → qn c ≤ qn c0 + 1000 → qs c ≤ qs c0 + 13000 → Ok (K (i + 6) c r) (fun x => x = 1)) : Ok (lawF_8 L xs K i c0 r0) (fun x => x = 1) := by
  unfold lawF_8
  simp only [Ok_gd]
  refine ⟨vL hi hiL hL (by decide) (by decide), vL hi hiL hL (by decide) (by decide), vL hi hiL hL (by decide) (by decide), vL hi hiL hL (by decide) (by decide), vL hi hiL hL (by decide) (by decide), h.1.1.1, Ok.call (c_set h.1) (fun q t ht => ?_)⟩
  have ht : Sf c0 t := ht
  simp only [Ok_gd]
  refine ⟨vL hi hiL hL (by decide) (by decide), vL hi hiL hL (by decide) (by decide), vL hi hiL hL (by decide) (by decide), vL hi hiL hL (by decide) (by decide), vL hi hiL hL (by decide) (by decide), Ok.call (r_set h.2.1) (fun p u hu => ?_)⟩
  have hu : Kp r0 u := hu
  rw [Ok_nam]
  exact hK _ _ ((h.c ht).r hu) (by rw [ht.2.1]; omega) (by rw [ht.2.2.1]; omega)
theorem s_say (L : Nat) (xs : Nat → Int32) (K : Int32 → CS → RS → Option Int32) (i : Int32) (c0 : CS) (r0 : RS) (h : IN c0 r0) (hi : 0 ≤ i.toInt) (hiL : i.toInt + 6 ≤ L) (hL : L ≤ 3072) (hK : ∀ c r, IN c r → qn c ≤ qn c0 + 1000 → qs c ≤ qs c0 + 13000 → Ok (K (i + 6) c r) (fun x => x = 1)) : Ok (lawF_9 L xs K i c0 r0) (fun x => x = 1) := by
  unfold lawF_9
  simp only [Ok_gd]
  refine ⟨vL hi hiL hL (by decide) (by decide), vL hi hiL hL (by decide) (by decide), vL hi hiL hL (by decide) (by decide), h.1.1.1, Ok.call (b_say h) (fun q t ht => ?_)⟩
  obtain ⟨hR, hn, hs⟩ := ht
  simp only [Ok_gd]
  refine ⟨vL hi hiL hL (by decide) (by decide), vL hi hiL hL (by decide) (by decide), vL hi hiL hL (by decide) (by decide), Ok.call hR (fun p u hu => ?_)⟩
  rw [Ok_nam]
  exact hK t u hu (by rw [show qn t = qn c0 from hn]; omega) (by rw [show qs t = qs c0 from hs]; omega)
theorem s_nest (L : Nat) (xs : Nat → Int32) (K : Int32 → CS → RS → Option Int32) (i : Int32) (c0 : CS) (r0 : RS) (h : IN c0 r0) (hi : 0 ≤ i.toInt) (hiL : i.toInt + 6 ≤ L) (hL : L ≤ 3072) (hK : ∀ c r, IN c r → qn c ≤ qn c0 + 1000 → qs c ≤ qs c0 + 13000 → Ok (K (i + 6) c r) (fun x => x = 1)) : Ok (lawF_10 L xs K i c0 r0) (fun x => x = 1) := by
  unfold lawF_10
  simp only [Ok_gd]
  refine ⟨vL hi hiL hL (by decide) (by decide), vL hi hiL hL (by decide) (by decide), vL hi hiL hL (by decide) (by decide), vL hi hiL hL (by decide) (by decide), h.1.1.1, Ok.call (c_nest h.1) (fun q t ht => ?_)⟩
  have ht : Sf c0 t := ht
  simp only [Ok_gd]
  refine ⟨vL hi hiL hL (by decide) (by decide), vL hi hiL hL (by decide) (by decide), vL hi hiL hL (by decide) (by decide), vL hi hiL hL (by decide) (by decide), Ok.call (r_nest h.2.1) (fun p u hu => ?_)⟩
  have hu : Kp r0 u := hu
  rw [Ok_nam]
  exact hK _ _ ((h.c ht).r hu) (by rw [ht.2.1]; omega) (by rw [ht.2.2.1]; omega)
theorem s_drop (L : Nat) (xs : Nat → Int32) (K : Int32 → CS → RS → Option Int32) (i : Int32) (c0 : CS) (r0 : RS) (h : IN c0 r0) (hi : 0 ≤ i.toInt) (hiL : i.toInt + 6 ≤ L) (hL : L ≤ 3072) (hK : ∀ c r, IN c r → qn c ≤ qn c0 + 1000 → qs c ≤ qs c0 + 13000 → Ok (K (i + 6) c r) (fun x => x = 1)) : Ok (lawF_11 L xs K i c0 r0) (fun x => x = 1) := by
  unfold lawF_11
  simp only [Ok_gd]
  refine ⟨vL hi hiL hL (by decide) (by decide), vL hi hiL hL (by decide) (by decide), vL hi hiL hL (by decide) (by decide), h.1.1.1, Ok.call (c_drop h.1) (fun q t ht => ?_)⟩
  have ht : Sf c0 t := ht
  simp only [Ok_gd]
  refine ⟨vL hi hiL hL (by decide) (by decide), vL hi hiL hL (by decide) (by decide), vL hi hiL hL (by decide) (by decide), Ok.call (r_drop h.2.1) (fun p u hu => ?_)⟩
  have hu : Kp r0 u := hu
  rw [Ok_nam]
  exact hK _ _ ((h.c ht).r hu) (by rw [ht.2.1]; omega) (by rw [ht.2.2.1]; omega)
theorem s_read (L : Nat) (xs : Nat → Int32) (K : Int32 → CS → RS → Option Int32) (i : Int32) (c0 : CS) (r0 : RS) (h : IN c0 r0) (hi : 0 ≤ i.toInt) (hiL : i.toInt + 6 ≤ L) (hL : L ≤ 3072) (hK : ∀ c r, IN c r → qn c ≤ qn c0 + 1000 → qs c ≤ qs c0 + 13000 → Ok (K (i + 6) c r) (fun x => x = 1)) : Ok (lawF_12 L xs K i c0 r0) (fun x => x = 1) := by
  unfold lawF_12
  simp only [Ok_gd]
  refine ⟨vL hi hiL hL (by decide) (by decide), vL hi hiL hL (by decide) (by decide), h.1.1.1, Ok.call (c_read h.1) (fun q t ht => ?_)⟩
  have ht : Sf c0 t := ht
  simp only [Ok_gd]
  refine ⟨vL hi hiL hL (by decide) (by decide), vL hi hiL hL (by decide) (by decide), Ok.call (r_read h.2.1) (fun p u hu => ?_)⟩
  have hu : Kp r0 u := hu
  rw [Ok_nam]
  exact hK _ _ ((h.c ht).r hu) (by rw [ht.2.1]; omega) (by rw [ht.2.2.1]; omega)
theorem s_get (L : Nat) (xs : Nat → Int32) (K : Int32 → CS → RS → Option Int32) (i : Int32) (c0 : CS) (r0 : RS) (h : IN c0 r0) (hi : 0 ≤ i.toInt) (hiL : i.toInt + 6 ≤ L) (hL : L ≤ 3072) (hK : ∀ c r, IN c r → qn c ≤ qn c0 + 1000 → qs c ≤ qs c0 + 13000 → Ok (K (i + 6) c r) (fun x => x = 1)) : Ok (lawF_13 L xs K i c0 r0) (fun x => x = 1) := by
  unfold lawF_13
  simp only [Ok_gd]
  refine ⟨vL hi hiL hL (by decide) (by decide), vL hi hiL hL (by decide) (by decide), vL hi hiL hL (by decide) (by decide), vL hi hiL hL (by decide) (by decide), h.1.1.1, Ok.call (c_get h.1) (fun q t ht => ?_)⟩
  have ht : Sf c0 t := ht
  simp only [Ok_gd]
  refine ⟨vL hi hiL hL (by decide) (by decide), vL hi hiL hL (by decide) (by decide), vL hi hiL hL (by decide) (by decide), vL hi hiL hL (by decide) (by decide), Ok.call (r_get h.2.1) (fun p u hu => ?_)⟩
  have hu : Kp r0 u := hu
  rw [Ok_nam]
  exact hK _ _ ((h.c ht).r hu) (by rw [ht.2.1]; omega) (by rw [ht.2.2.1]; omega)
theorem s_kept (L : Nat) (xs : Nat → Int32) (K : Int32 → CS → RS → Option Int32) (i : Int32) (c0 : CS) (r0 : RS) (h : IN c0 r0) (hi : 0 ≤ i.toInt) (hiL : i.toInt + 6 ≤ L) (hL : L ≤ 3072) (hK : ∀ c r, IN c r → qn c ≤ qn c0 + 1000 → qs c ≤ qs c0 + 13000 → Ok (K (i + 6) c r) (fun x => x = 1)) : Ok (lawF_14 L xs K i c0 r0) (fun x => x = 1) := by
  unfold lawF_14
  simp only [Ok_gd]
  refine ⟨vL hi hiL hL (by decide) (by decide), vL hi hiL hL (by decide) (by decide), h.1.1.1, Ok.call (c_kept h.1) (fun q t ht => ?_)⟩
  have ht : Sf c0 t := ht
  simp only [Ok_gd]
  refine ⟨vL hi hiL hL (by decide) (by decide), vL hi hiL hL (by decide) (by decide), Ok.call (r_kept h.2.1) (fun p u hu => ?_)⟩
  have hu : Kp r0 u := hu
  rw [Ok_nam]
  exact hK _ _ ((h.c ht).r hu) (by rw [ht.2.1]; omega) (by rw [ht.2.2.1]; omega)
theorem s_write (L : Nat) (xs : Nat → Int32) (K : Int32 → CS → RS → Option Int32) (i : Int32) (c0 : CS) (r0 : RS) (h : IN c0 r0) (hi : 0 ≤ i.toInt) (hiL : i.toInt + 6 ≤ L) (hL : L ≤ 3072) (hK : ∀ c r, IN c r → qn c ≤ qn c0 + 1000 → qs c ≤ qs c0 + 13000 → Ok (K (i + 6) c r) (fun x => x = 1)) : Ok (lawF_15 L xs K i c0 r0) (fun x => x = 1) := by
  unfold lawF_15
  simp only [Ok_gd]
  refine ⟨vL hi hiL hL (by decide) (by decide), vL hi hiL hL (by decide) (by decide), vL hi hiL hL (by decide) (by decide), h.1.1.1, Ok.call (c_write h.1) (fun q t ht => ?_)⟩
  have ht : Sf c0 t := ht
  simp only [Ok_gd]
  refine ⟨vL hi hiL hL (by decide) (by decide), vL hi hiL hL (by decide) (by decide), vL hi hiL hL (by decide) (by decide), Ok.call (r_write h.2.1) (fun p u hu => ?_)⟩
  have hu : Kp r0 u := hu
  rw [Ok_nam]
  exact hK _ _ ((h.c ht).r hu) (by rw [ht.2.1]; omega) (by rw [ht.2.2.1]; omega)
theorem s_at (L : Nat) (xs : Nat → Int32) (K : Int32 → CS → RS → Option Int32) (i : Int32) (c0 : CS) (r0 : RS) (h : IN c0 r0) (hi : 0 ≤ i.toInt) (hiL : i.toInt + 6 ≤ L) (hL : L ≤ 3072) (hK : ∀ c r, IN c r → qn c ≤ qn c0 + 1000 → qs c ≤ qs c0 + 13000 → Ok (K (i + 6) c r) (fun x => x = 1)) : Ok (lawF_16 L xs K i c0 r0) (fun x => x = 1) := by
  unfold lawF_16
  simp only [Ok_gd]
  refine ⟨vL hi hiL hL (by decide) (by decide), vL hi hiL hL (by decide) (by decide), h.1.1.1, Ok.call (c_at h.1) (fun q t ht => ?_)⟩
  have ht : t = c0 := ht
  subst ht
  simp only [Ok_gd]
  refine ⟨vL hi hiL hL (by decide) (by decide), vL hi hiL hL (by decide) (by decide), Ok.call (r_at h.2.1) (fun p u hu => ?_)⟩
  have hu : u = r0 := hu
  subst hu
  rw [Ok_nam]
  exact hK _ _ h (by omega) (by omega)
theorem s_open (L : Nat) (xs : Nat → Int32) (K : Int32 → CS → RS → Option Int32) (i : Int32) (c0 : CS) (r0 : RS) (h : IN c0 r0) (hi : 0 ≤ i.toInt) (hiL : i.toInt + 6 ≤ L) (hL : L ≤ 3072) (hK : ∀ c r, IN c r → qn c ≤ qn c0 + 1000 → qs c ≤ qs c0 + 13000 → Ok (K (i + 6) c r) (fun x => x = 1)) : Ok (lawF_17 L xs K i c0 r0) (fun x => x = 1) := by
  unfold lawF_17
  simp only [Ok_gd]
  refine ⟨vL hi hiL hL (by decide) (by decide), vL hi hiL hL (by decide) (by decide), vL hi hiL hL (by decide) (by decide), vL hi hiL hL (by decide) (by decide), h.1.1.1, Ok.call (c_open h.1) (fun q t ht => ?_)⟩
  have ht : Sf c0 t := ht
  simp only [Ok_gd]
  refine ⟨vL hi hiL hL (by decide) (by decide), vL hi hiL hL (by decide) (by decide), vL hi hiL hL (by decide) (by decide), vL hi hiL hL (by decide) (by decide), Ok.call (r_open h.2.1) (fun p u hu => ?_)⟩
  have hu : Kp r0 u := hu
  rw [Ok_nam]
  exact hK _ _ ((h.c ht).r hu) (by rw [ht.2.1]; omega) (by rw [ht.2.2.1]; omega)
theorem s_step (L : Nat) (xs : Nat → Int32) (K : Int32 → CS → RS → Option Int32) (i : Int32) (c0 : CS) (r0 : RS) (h : IN c0 r0) (hi : 0 ≤ i.toInt) (hiL : i.toInt + 6 ≤ L) (hL : L ≤ 3072) (hK : ∀ c r, IN c r → qn c ≤ qn c0 + 1000 → qs c ≤ qs c0 + 13000 → Ok (K (i + 6) c r) (fun x => x = 1)) : Ok (lawF_18 L xs K i c0 r0) (fun x => x = 1) := by
  unfold lawF_18
  simp only [Ok_gd]
  refine ⟨vL hi hiL hL (by decide) (by decide), vL hi hiL hL (by decide) (by decide), h.1.1.1, Ok.call (c_step h.1) (fun q t ht => ?_)⟩
  have ht : Sf c0 t := ht
  simp only [Ok_gd]
  refine ⟨vL hi hiL hL (by decide) (by decide), vL hi hiL hL (by decide) (by decide), Ok.call (r_step h.2.1) (fun p u hu => ?_)⟩
  have hu : Kp r0 u := hu
  rw [Ok_nam]
  exact hK _ _ ((h.c ht).r hu) (by rw [ht.2.1]; omega) (by rw [ht.2.2.1]; omega)
theorem s_walk (L : Nat) (xs : Nat → Int32) (K : Int32 → CS → RS → Option Int32) (i : Int32) (c0 : CS) (r0 : RS) (h : IN c0 r0) (hi : 0 ≤ i.toInt) (hiL : i.toInt + 6 ≤ L) (hL : L ≤ 3072) (hK : ∀ c r, IN c r → qn c ≤ qn c0 + 1000 → qs c ≤ qs c0 + 13000 → Ok (K (i + 6) c r) (fun x => x = 1)) : Ok (lawF_19 L xs K i c0 r0) (fun x => x = 1) := by
  unfold lawF_19
  simp only [Ok_gd]
  refine ⟨vL hi hiL hL (by decide) (by decide), vL hi hiL hL (by decide) (by decide), vL hi hiL hL (by decide) (by decide), h.1.1.1, Ok.call (c_walk h.1) (fun q t ht => ?_)⟩
  have ht : Sf c0 t := ht
  simp only [Ok_gd]
  refine ⟨vL hi hiL hL (by decide) (by decide), vL hi hiL hL (by decide) (by decide), vL hi hiL hL (by decide) (by decide), Ok.call (r_walk h.2.1) (fun p u hu => ?_)⟩
  have hu : Kp r0 u := hu
  rw [Ok_nam]
  exact hK _ _ ((h.c ht).r hu) (by rw [ht.2.1]; omega) (by rw [ht.2.2.1]; omega)
theorem s_by (L : Nat) (xs : Nat → Int32) (K : Int32 → CS → RS → Option Int32) (i : Int32) (c0 : CS) (r0 : RS) (h : IN c0 r0) (hi : 0 ≤ i.toInt) (hiL : i.toInt + 6 ≤ L) (hL : L ≤ 3072) (hK : ∀ c r, IN c r → qn c ≤ qn c0 + 1000 → qs c ≤ qs c0 + 13000 → Ok (K (i + 6) c r) (fun x => x = 1)) : Ok (lawF_20 L xs K i c0 r0) (fun x => x = 1) := by
  unfold lawF_20
  simp only [Ok_gd]
  refine ⟨h.1.1.1, Ok.call (c_by h.1) (fun q t ht => ?_)⟩
  have ht : t = c0 := ht
  subst ht
  refine Ok.call (r_by) (fun p u hu => ?_)
  have hu : u = r0 := hu
  subst hu
  rw [Ok_nam]
  exact hK _ _ h (by omega) (by omega)
theorem s_readers (L : Nat) (xs : Nat → Int32) (K : Int32 → CS → RS → Option Int32) (i : Int32) (c0 : CS) (r0 : RS) (h : IN c0 r0) (hi : 0 ≤ i.toInt) (hiL : i.toInt + 6 ≤ L) (hL : L ≤ 3072) (hK : ∀ c r, IN c r → qn c ≤ qn c0 + 1000 → qs c ≤ qs c0 + 13000 → Ok (K (i + 6) c r) (fun x => x = 1)) : Ok (lawF_21 L xs K i c0 r0) (fun x => x = 1) := by
  unfold lawF_21
  simp only [Ok_gd]
  refine ⟨vL hi hiL hL (by decide) (by decide), h.1.1.1, Ok.call (c_readers h.1) (fun q t ht => ?_)⟩
  have ht : Sf c0 t := ht
  simp only [Ok_gd]
  refine ⟨vL hi hiL hL (by decide) (by decide), Ok.call (r_readers h.2.1) (fun p u hu => ?_)⟩
  have hu : Kp r0 u := hu
  rw [Ok_nam]
  exact hK _ _ ((h.c ht).r hu) (by rw [ht.2.1]; omega) (by rw [ht.2.2.1]; omega)
theorem s_none (L : Nat) (xs : Nat → Int32) (K : Int32 → CS → RS → Option Int32) (i : Int32) (c0 : CS) (r0 : RS) (h : IN c0 r0) (hi : 0 ≤ i.toInt) (hiL : i.toInt + 6 ≤ L) (hL : L ≤ 3072) (hK : ∀ c r, IN c r → qn c ≤ qn c0 + 1000 → qs c ≤ qs c0 + 13000 → Ok (K (i + 6) c r) (fun x => x = 1)) : Ok (lawF_22 L xs K i c0 r0) (fun x => x = 1) := by
  unfold lawF_22
  rw [Ok_nam]
  exact hK c0 r0 h (by omega) (by omega)
theorem ar (A B : Nat) {a b n : Nat} (h1 : a ≤ b + A) (h2 : b ≤ B + A * n) : a ≤ B + A * (n + 1) := by
  rw [Nat.mul_succ]
  generalize A * n = y at h2 ⊢
  omega
set_option maxRecDepth 8000 in
theorem law_all (hM : MkH) (L : Nat) (hL : L ≤ 3072) (xs : Nat → Int32) : ∀ (z n : Nat) (i : Int32) (c : CS) (r : RS), i.toInt = 6 * n → n ≤ 512 → 513 - n < z → IN c r → qn c ≤ 1000 + 1000 * n → qs c ≤ 10000 + 13000 * n → Ok (lawF L xs z i c r) (fun x => x = 1) := by
  intro z
  induction z with
  | zero => intro n i c r h1 h2 h3; omega
  | succ z ih =>
    intro n i c r hi hn hz hI hq hs
    have h0 : 0 ≤ i.toInt := by omega
    rw [lawF_s]
    have eL : (Int32.ofNat L - 6).toInt = L - 6 := by
      rw [t_sub (by rw [t_nI (by omega)]; show -2147483648 ≤ (L : Int) - 6; omega) (by rw [t_nI (by omega)]; show (L : Int) - 6 < 2147483648; omega), t_nI (by omega)]
      rfl
    rw [Ok_pif, t_lt, eL]
    refine ⟨fun _ => Ok_some.mpr rfl, fun cL => ?_⟩
    rw [Ok_gd, t_in]
    refine ⟨by omega, ?_⟩
    have e6 : (i + 6).toInt = i.toInt + 6 := by
      rw [t_add (by show -2147483648 ≤ i.toInt + 6; omega) (by show i.toInt + 6 < 2147483648; omega)]
      rfl
    have hN : ∀ c' r', IN c' r' → qn c' ≤ qn c + 1000 → qs c' ≤ qs c + 13000 → Ok (lawF L xs z (i + 6) c' r') (fun x => x = 1) := fun c' r' h1 h2 h3 => ih (n + 1) (i + 6) c' r' (by omega) (by omega) (by omega) h1 (ar 1000 1000 h2 hq) (ar 13000 10000 h3 hs)
    rw [Ok_pif]
    refine ⟨fun _ => s_feed L xs (lawF L xs z) i c r hI h0 (by omega) hL hN, fun _ => ?_⟩
    rw [Ok_pif]
    refine ⟨fun _ => s_end L xs (lawF L xs z) i c r hI h0 (by omega) hL hN, fun _ => ?_⟩
    rw [Ok_pif]
    refine ⟨fun _ => s_make L xs (lawF L xs z) i c r hI h0 (by omega) hL hN hM (by omega), fun _ => ?_⟩
    rw [Ok_pif]
    refine ⟨fun _ => s_fault L xs (lawF L xs z) i c r hI h0 (by omega) hL hN, fun _ => ?_⟩
    rw [Ok_pif]
    refine ⟨fun _ => s_field L xs (lawF L xs z) i c r hI h0 (by omega) hL hN, fun _ => ?_⟩
    rw [Ok_pif]
    refine ⟨fun _ => s_plain L xs (lawF L xs z) i c r hI h0 (by omega) hL hN, fun _ => ?_⟩
    rw [Ok_pif]
    refine ⟨fun _ => s_clear L xs (lawF L xs z) i c r hI h0 (by omega) hL hN, fun _ => ?_⟩
    rw [Ok_pif]
    refine ⟨fun _ => s_load L xs (lawF L xs z) i c r hI h0 (by omega) hL hN, fun _ => ?_⟩
    rw [Ok_pif]
    refine ⟨fun _ => s_set L xs (lawF L xs z) i c r hI h0 (by omega) hL hN, fun _ => ?_⟩
    rw [Ok_pif]
    refine ⟨fun _ => s_say L xs (lawF L xs z) i c r hI h0 (by omega) hL hN, fun _ => ?_⟩
    rw [Ok_pif]
    refine ⟨fun _ => s_nest L xs (lawF L xs z) i c r hI h0 (by omega) hL hN, fun _ => ?_⟩
    rw [Ok_pif]
    refine ⟨fun _ => s_drop L xs (lawF L xs z) i c r hI h0 (by omega) hL hN, fun _ => ?_⟩
    rw [Ok_pif]
    refine ⟨fun _ => s_read L xs (lawF L xs z) i c r hI h0 (by omega) hL hN, fun _ => ?_⟩
    rw [Ok_pif]
    refine ⟨fun _ => s_get L xs (lawF L xs z) i c r hI h0 (by omega) hL hN, fun _ => ?_⟩
    rw [Ok_pif]
    refine ⟨fun _ => s_kept L xs (lawF L xs z) i c r hI h0 (by omega) hL hN, fun _ => ?_⟩
    rw [Ok_pif]
    refine ⟨fun _ => s_write L xs (lawF L xs z) i c r hI h0 (by omega) hL hN, fun _ => ?_⟩
    rw [Ok_pif]
    refine ⟨fun _ => s_at L xs (lawF L xs z) i c r hI h0 (by omega) hL hN, fun _ => ?_⟩
    rw [Ok_pif]
    refine ⟨fun _ => s_open L xs (lawF L xs z) i c r hI h0 (by omega) hL hN, fun _ => ?_⟩
    rw [Ok_pif]
    refine ⟨fun _ => s_step L xs (lawF L xs z) i c r hI h0 (by omega) hL hN, fun _ => ?_⟩
    rw [Ok_pif]
    refine ⟨fun _ => s_walk L xs (lawF L xs z) i c r hI h0 (by omega) hL hN, fun _ => ?_⟩
    rw [Ok_pif]
    refine ⟨fun _ => s_by L xs (lawF L xs z) i c r hI h0 (by omega) hL hN, fun _ => ?_⟩
    rw [Ok_pif]
    refine ⟨fun _ => s_readers L xs (lawF L xs z) i c r hI h0 (by omega) hL hN, fun _ => ?_⟩
    exact s_none L xs (lawF L xs z) i c r hI h0 (by omega) hL hN


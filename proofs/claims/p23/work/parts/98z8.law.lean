theorem vL {i k : Int32} {L : Nat} (hi : 0 ≤ i.toInt) (hiL : i.toInt + 6 ≤ L) (hL : L ≤ 3072) (k1 : 0 ≤ k.toInt) (k2 : k.toInt ≤ 5) : vp_in (i + k) L := by
  rw [t_in, t_add (by omega) (by omega)]
  omega
theorem s_feed (L : Nat) (xs : Nat → Int32) (K : Int32 → CS → RS → Option Int32) (i : Int32) (c0 : CS) (r0 : RS) (h : IJ c0 r0) (hi : 0 ≤ i.toInt) (hiL : i.toInt + 6 ≤ L) (hL : L ≤ 3072) (hb : qn c0 ≤ 590000 ∧ qs c0 ≤ 6900000) (hK : ∀ c r, IJ c r → qn c ≤ qn c0 + 1000 → qs c ≤ qs c0 + 13000 → Ok (K (i + 6) c r) (fun x => x = 1)) : Ok (lawF_0 L xs K i c0 r0) (fun x => x = 1) := by
  unfold lawF_0
  simp only [Ok_gd]
  refine ⟨vL hi hiL hL (by decide) (by decide), vL hi hiL hL (by decide) (by decide), vL hi hiL hL (by decide) (by decide), vL hi hiL hL (by decide) (by decide), vL hi hiL hL (by decide) (by decide), h.k32, Ok.call (j_feed h) (fun q t ht => ?_)⟩
  obtain ⟨hR, hn, hs⟩ := ht
  have hn : qn t ≤ qn c0 + 1000 := hn
  have hs : qs t ≤ qs c0 + 13000 := hs
  simp only [Ok_gd]
  refine ⟨vL hi hiL hL (by decide) (by decide), vL hi hiL hL (by decide) (by decide), vL hi hiL hL (by decide) (by decide), vL hi hiL hL (by decide) (by decide), vL hi hiL hL (by decide) (by decide), Ok.call hR (fun p u hu => ?_)⟩
  obtain ⟨hu1, hu2⟩ := hu
  have hu1 : IJ t u := hu1
  rw [Ok_nam]
  exact hK t u hu1 hn hs
theorem s_end (L : Nat) (xs : Nat → Int32) (K : Int32 → CS → RS → Option Int32) (i : Int32) (c0 : CS) (r0 : RS) (h : IJ c0 r0) (hi : 0 ≤ i.toInt) (hiL : i.toInt + 6 ≤ L) (hL : L ≤ 3072) (hb : qn c0 ≤ 590000 ∧ qs c0 ≤ 6900000) (hK : ∀ c r, IJ c r → qn c ≤ qn c0 + 1000 → qs c ≤ qs c0 + 13000 → Ok (K (i + 6) c r) (fun x => x = 1)) : Ok (lawF_1 L xs K i c0 r0) (fun x => x = 1) := by
  unfold lawF_1
  simp only [Ok_gd]
  refine ⟨vL hi hiL hL (by decide) (by decide), h.k32, Ok.call (j_end h) (fun q t ht => ?_)⟩
  obtain ⟨hR, hn, hs⟩ := ht
  have hn : qn t ≤ qn c0 + 1000 := hn
  have hs : qs t ≤ qs c0 + 13000 := hs
  simp only [Ok_gd]
  refine ⟨vL hi hiL hL (by decide) (by decide), Ok.call hR (fun p u hu => ?_)⟩
  obtain ⟨hu1, hu2⟩ := hu
  have hu1 : IJ t u := hu1
  rw [Ok_nam]
  exact hK t u hu1 hn hs
theorem s_make (L : Nat) (xs : Nat → Int32) (K : Int32 → CS → RS → Option Int32) (i : Int32) (c0 : CS) (r0 : RS) (h : IJ c0 r0) (hi : 0 ≤ i.toInt) (hiL : i.toInt + 6 ≤ L) (hL : L ≤ 3072) (hb : qn c0 ≤ 590000 ∧ qs c0 ≤ 6900000) (hK : ∀ c r, IJ c r → qn c ≤ qn c0 + 1000 → qs c ≤ qs c0 + 13000 → Ok (K (i + 6) c r) (fun x => x = 1)) : Ok (lawF_2 L xs K i c0 r0) (fun x => x = 1) := by
  unfold lawF_2
  simp only [Ok_gd]
  refine ⟨vL hi hiL hL (by decide) (by decide), h.k32, Ok.call (j_make h) (fun q t ht => ?_)⟩
  obtain ⟨hR, hn, hs⟩ := ht
  have hn : qn t ≤ qn c0 + 1000 := hn
  have hs : qs t ≤ qs c0 + 13000 := hs
  simp only [Ok_gd]
  refine ⟨⟨by omega, by omega⟩, vL hi hiL hL (by decide) (by decide), Ok.call hR (fun p u hu => ?_)⟩
  obtain ⟨hu1, hu2⟩ := hu
  have hu1 : IJ t u := hu1
  rw [Ok_nam]
  exact hK t u hu1 hn hs
theorem s_fault (L : Nat) (xs : Nat → Int32) (K : Int32 → CS → RS → Option Int32) (i : Int32) (c0 : CS) (r0 : RS) (h : IJ c0 r0) (hi : 0 ≤ i.toInt) (hiL : i.toInt + 6 ≤ L) (hL : L ≤ 3072) (hb : qn c0 ≤ 590000 ∧ qs c0 ≤ 6900000) (hK : ∀ c r, IJ c r → qn c ≤ qn c0 + 1000 → qs c ≤ qs c0 + 13000 → Ok (K (i + 6) c r) (fun x => x = 1)) : Ok (lawF_3 L xs K i c0 r0) (fun x => x = 1) := by
  unfold lawF_3
  simp only [Ok_gd]
  refine ⟨vL hi hiL hL (by decide) (by decide), h.k32, Ok.call (j_fault h) (fun q t ht => ?_)⟩
  obtain ⟨hR, hn, hs⟩ := ht
  have hn : qn t ≤ qn c0 + 1000 := hn
  have hs : qs t ≤ qs c0 + 13000 := hs
  simp only [Ok_gd]
  refine ⟨vL hi hiL hL (by decide) (by decide), Ok.call hR (fun p u hu => ?_)⟩
  obtain ⟨hu1, hu2⟩ := hu
  have hu1 : IJ t u := hu1
  rw [Ok_nam]
  exact hK t u hu1 hn hs
theorem s_field (L : Nat) (xs : Nat → Int32) (K : Int32 → CS → RS → Option Int32) (i : Int32) (c0 : CS) (r0 : RS) (h : IJ c0 r0) (hi : 0 ≤ i.toInt) (hiL : i.toInt + 6 ≤ L) (hL : L ≤ 3072) (hb : qn c0 ≤ 590000 ∧ qs c0 ≤ 6900000) (hK : ∀ c r, IJ c r → qn c ≤ qn c0 + 1000 → qs c ≤ qs c0 + 13000 → Ok (K (i + 6) c r) (fun x => x = 1)) : Ok (lawF_4 L xs K i c0 r0) (fun x => x = 1) := by
  unfold lawF_4
  simp only [Ok_gd]
  refine ⟨vL hi hiL hL (by decide) (by decide), vL hi hiL hL (by decide) (by decide), vL hi hiL hL (by decide) (by decide), h.k32, Ok.call (j_field h) (fun q t ht => ?_)⟩
  obtain ⟨hR, hn, hs⟩ := ht
  have hn : qn t ≤ qn c0 + 1000 := hn
  have hs : qs t ≤ qs c0 + 13000 := hs
  simp only [Ok_gd]
  refine ⟨vL hi hiL hL (by decide) (by decide), vL hi hiL hL (by decide) (by decide), vL hi hiL hL (by decide) (by decide), Ok.call hR (fun p u hu => ?_)⟩
  obtain ⟨hu1, hu2⟩ := hu
  have hu1 : IJ t u := hu1
  rw [Ok_nam]
  exact hK t u hu1 hn hs
theorem s_plain (L : Nat) (xs : Nat → Int32) (K : Int32 → CS → RS → Option Int32) (i : Int32) (c0 : CS) (r0 : RS) (h : IJ c0 r0) (hi : 0 ≤ i.toInt) (hiL : i.toInt + 6 ≤ L) (hL : L ≤ 3072) (hb : qn c0 ≤ 590000 ∧ qs c0 ≤ 6900000) (hK : ∀ c r, IJ c r → qn c ≤ qn c0 + 1000 → qs c ≤ qs c0 + 13000 → Ok (K (i + 6) c r) (fun x => x = 1)) : Ok (lawF_5 L xs K i c0 r0) (fun x => x = 1) := by
  unfold lawF_5
  simp only [Ok_gd]
  refine ⟨vL hi hiL hL (by decide) (by decide), vL hi hiL hL (by decide) (by decide), h.k32, Ok.call (j_plain h) (fun q t ht => ?_)⟩
  obtain ⟨hR, hn, hs⟩ := ht
  have hn : qn t ≤ qn c0 + 1000 := hn
  have hs : qs t ≤ qs c0 + 13000 := hs
  simp only [Ok_gd]
  refine ⟨vL hi hiL hL (by decide) (by decide), vL hi hiL hL (by decide) (by decide), Ok.call hR (fun p u hu => ?_)⟩
  obtain ⟨hu1, hu2⟩ := hu
  have hu1 : IJ t u := hu1
  rw [Ok_nam]
  exact hK t u hu1 hn hs
theorem s_clear (L : Nat) (xs : Nat → Int32) (K : Int32 → CS → RS → Option Int32) (i : Int32) (c0 : CS) (r0 : RS) (h : IJ c0 r0) (hi : 0 ≤ i.toInt) (hiL : i.toInt + 6 ≤ L) (hL : L ≤ 3072) (hb : qn c0 ≤ 590000 ∧ qs c0 ≤ 6900000) (hK : ∀ c r, IJ c r → qn c ≤ qn c0 + 1000 → qs c ≤ qs c0 + 13000 → Ok (K (i + 6) c r) (fun x => x = 1)) : Ok (lawF_6 L xs K i c0 r0) (fun x => x = 1) := by
  unfold lawF_6
  simp only [Ok_gd]
  refine ⟨vL hi hiL hL (by decide) (by decide), h.k32, Ok.call (j_clear h) (fun q t ht => ?_)⟩
  obtain ⟨hR, hn, hs⟩ := ht
  have hn : qn t ≤ qn c0 + 1000 := hn
  have hs : qs t ≤ qs c0 + 13000 := hs
  simp only [Ok_gd]
  refine ⟨vL hi hiL hL (by decide) (by decide), Ok.call hR (fun p u hu => ?_)⟩
  obtain ⟨hu1, hu2⟩ := hu
  have hu1 : IJ t u := hu1
  rw [Ok_nam]
  exact hK t u hu1 hn hs
theorem s_load (L : Nat) (xs : Nat → Int32) (K : Int32 → CS → RS → Option Int32) (i : Int32) (c0 : CS) (r0 : RS) (h : IJ c0 r0) (hi : 0 ≤ i.toInt) (hiL : i.toInt + 6 ≤ L) (hL : L ≤ 3072) (hb : qn c0 ≤ 590000 ∧ qs c0 ≤ 6900000) (hK : ∀ c r, IJ c r → qn c ≤ qn c0 + 1000 → qs c ≤ qs c0 + 13000 → Ok (K (i + 6) c r) (fun x => x = 1)) : Ok (lawF_7 L xs K i c0 r0) (fun x => x = 1) := by
  unfold lawF_7
  simp only [Ok_gd]
  refine ⟨vL hi hiL hL (by decide) (by decide), h.k32, Ok.call (j_load h) (fun q t ht => ?_)⟩
  obtain ⟨hR, hn, hs⟩ := ht
  have hn : qn t ≤ qn c0 + 1000 := hn
  have hs : qs t ≤ qs c0 + 13000 := hs
  simp only [Ok_gd]
  refine ⟨vL hi hiL hL (by decide) (by decide), Ok.call hR (fun p u hu => ?_)⟩
  obtain ⟨hu1, hu2⟩ := hu
  have hu1 : IJ t u := hu1
  rw [Ok_nam]
  exact hK t u hu1 hn hs
theorem s_set (L : Nat) (xs : Nat → Int32) (K : Int32 → CS → RS → Option Int32) (i : Int32) (c0 : CS) (r0 : RS) (h : IJ c0 r0) (hi : 0 ≤ i.toInt) (hiL : i.toInt + 6 ≤ L) (hL : L ≤ 3072) (hb : qn c0 ≤ 590000 ∧ qs c0 ≤ 6900000) (hK : ∀ c r, IJ c r → qn c ≤ qn c0 + 1000 → qs c ≤ qs c0 + 13000 → Ok (K (i + 6) c r) (fun x => x = 1)) : Ok (lawF_8 L xs K i c0 r0) (fun x => x = 1) := by
  unfold lawF_8
  simp only [Ok_gd]
  refine ⟨vL hi hiL hL (by decide) (by decide), vL hi hiL hL (by decide) (by decide), vL hi hiL hL (by decide) (by decide), vL hi hiL hL (by decide) (by decide), vL hi hiL hL (by decide) (by decide), h.k32, Ok.call (j_set h) (fun q t ht => ?_)⟩
  obtain ⟨hR, hn, hs⟩ := ht
  have hn : qn t ≤ qn c0 + 1000 := hn
  have hs : qs t ≤ qs c0 + 13000 := hs
  simp only [Ok_gd]
  refine ⟨vL hi hiL hL (by decide) (by decide), vL hi hiL hL (by decide) (by decide), vL hi hiL hL (by decide) (by decide), vL hi hiL hL (by decide) (by decide), vL hi hiL hL (by decide) (by decide), Ok.call hR (fun p u hu => ?_)⟩
  obtain ⟨hu1, hu2⟩ := hu
  have hu1 : IJ t u := hu1
  rw [Ok_nam]
  exact hK t u hu1 hn hs
theorem s_say (L : Nat) (xs : Nat → Int32) (K : Int32 → CS → RS → Option Int32) (i : Int32) (c0 : CS) (r0 : RS) (h : IJ c0 r0) (hi : 0 ≤ i.toInt) (hiL : i.toInt + 6 ≤ L) (hL : L ≤ 3072) (hb : qn c0 ≤ 590000 ∧ qs c0 ≤ 6900000) (hK : ∀ c r, IJ c r → qn c ≤ qn c0 + 1000 → qs c ≤ qs c0 + 13000 → Ok (K (i + 6) c r) (fun x => x = 1)) : Ok (lawF_9 L xs K i c0 r0) (fun x => x = 1) := by
  unfold lawF_9
  simp only [Ok_gd]
  refine ⟨vL hi hiL hL (by decide) (by decide), vL hi hiL hL (by decide) (by decide), vL hi hiL hL (by decide) (by decide), h.k32, Ok.call (j_say h) (fun q t ht => ?_)⟩
  obtain ⟨hR, hn, hs⟩ := ht
  have hn : qn t ≤ qn c0 + 1000 := hn
  have hs : qs t ≤ qs c0 + 13000 := hs
  simp only [Ok_gd]
  refine ⟨vL hi hiL hL (by decide) (by decide), vL hi hiL hL (by decide) (by decide), vL hi hiL hL (by decide) (by decide), Ok.call hR (fun p u hu => ?_)⟩
  obtain ⟨hu1, hu2⟩ := hu
  have hu1 : IJ t u := hu1
  rw [Ok_nam]
  exact hK t u hu1 hn hs
theorem s_nest (L : Nat) (xs : Nat → Int32) (K : Int32 → CS → RS → Option Int32) (i : Int32) (c0 : CS) (r0 : RS) (h : IJ c0 r0) (hi : 0 ≤ i.toInt) (hiL : i.toInt + 6 ≤ L) (hL : L ≤ 3072) (hb : qn c0 ≤ 590000 ∧ qs c0 ≤ 6900000) (hK : ∀ c r, IJ c r → qn c ≤ qn c0 + 1000 → qs c ≤ qs c0 + 13000 → Ok (K (i + 6) c r) (fun x => x = 1)) : Ok (lawF_10 L xs K i c0 r0) (fun x => x = 1) := by
  unfold lawF_10
  simp only [Ok_gd]
  refine ⟨vL hi hiL hL (by decide) (by decide), vL hi hiL hL (by decide) (by decide), vL hi hiL hL (by decide) (by decide), vL hi hiL hL (by decide) (by decide), h.k32, Ok.call (j_nest h) (fun q t ht => ?_)⟩
  obtain ⟨hR, hn, hs⟩ := ht
  have hn : qn t ≤ qn c0 + 1000 := hn
  have hs : qs t ≤ qs c0 + 13000 := hs
  simp only [Ok_gd]
  refine ⟨vL hi hiL hL (by decide) (by decide), vL hi hiL hL (by decide) (by decide), vL hi hiL hL (by decide) (by decide), vL hi hiL hL (by decide) (by decide), Ok.call hR (fun p u hu => ?_)⟩
  obtain ⟨hu1, hu2⟩ := hu
  have hu1 : IJ t u := hu1
  rw [Ok_nam]
  exact hK t u hu1 hn hs
theorem s_drop (L : Nat) (xs : Nat → Int32) (K : Int32 → CS → RS → Option Int32) (i : Int32) (c0 : CS) (r0 : RS) (h : IJ c0 r0) (hi : 0 ≤ i.toInt) (hiL : i.toInt + 6 ≤ L) (hL : L ≤ 3072) (hb : qn c0 ≤ 590000 ∧ qs c0 ≤ 6900000) (hK : ∀ c r, IJ c r → qn c ≤ qn c0 + 1000 → qs c ≤ qs c0 + 13000 → Ok (K (i + 6) c r) (fun x => x = 1)) : Ok (lawF_11 L xs K i c0 r0) (fun x => x = 1) := by
  unfold lawF_11
  simp only [Ok_gd]
  refine ⟨vL hi hiL hL (by decide) (by decide), vL hi hiL hL (by decide) (by decide), vL hi hiL hL (by decide) (by decide), h.k32, Ok.call (j_drop h) (fun q t ht => ?_)⟩
  obtain ⟨hR, hn, hs⟩ := ht
  have hn : qn t ≤ qn c0 + 1000 := hn
  have hs : qs t ≤ qs c0 + 13000 := hs
  simp only [Ok_gd]
  refine ⟨vL hi hiL hL (by decide) (by decide), vL hi hiL hL (by decide) (by decide), vL hi hiL hL (by decide) (by decide), Ok.call hR (fun p u hu => ?_)⟩
  obtain ⟨hu1, hu2⟩ := hu
  have hu1 : IJ t u := hu1
  rw [Ok_nam]
  exact hK t u hu1 hn hs
theorem s_read (L : Nat) (xs : Nat → Int32) (K : Int32 → CS → RS → Option Int32) (i : Int32) (c0 : CS) (r0 : RS) (h : IJ c0 r0) (hi : 0 ≤ i.toInt) (hiL : i.toInt + 6 ≤ L) (hL : L ≤ 3072) (hb : qn c0 ≤ 590000 ∧ qs c0 ≤ 6900000) (hK : ∀ c r, IJ c r → qn c ≤ qn c0 + 1000 → qs c ≤ qs c0 + 13000 → Ok (K (i + 6) c r) (fun x => x = 1)) : Ok (lawF_12 L xs K i c0 r0) (fun x => x = 1) := by
  unfold lawF_12
  simp only [Ok_gd]
  refine ⟨vL hi hiL hL (by decide) (by decide), vL hi hiL hL (by decide) (by decide), h.k32, Ok.call (j_read h) (fun q t ht => ?_)⟩
  obtain ⟨hR, hn, hs⟩ := ht
  have hn : qn t ≤ qn c0 + 1000 := hn
  have hs : qs t ≤ qs c0 + 13000 := hs
  simp only [Ok_gd]
  refine ⟨vL hi hiL hL (by decide) (by decide), vL hi hiL hL (by decide) (by decide), Ok.call hR (fun p u hu => ?_)⟩
  obtain ⟨hu1, hu2⟩ := hu
  have hu1 : IJ t u := hu1
  rw [Ok_nam]
  exact hK t u hu1 hn hs
theorem s_get (L : Nat) (xs : Nat → Int32) (K : Int32 → CS → RS → Option Int32) (i : Int32) (c0 : CS) (r0 : RS) (h : IJ c0 r0) (hi : 0 ≤ i.toInt) (hiL : i.toInt + 6 ≤ L) (hL : L ≤ 3072) (hb : qn c0 ≤ 590000 ∧ qs c0 ≤ 6900000) (hK : ∀ c r, IJ c r → qn c ≤ qn c0 + 1000 → qs c ≤ qs c0 + 13000 → Ok (K (i + 6) c r) (fun x => x = 1)) : Ok (lawF_13 L xs K i c0 r0) (fun x => x = 1) := by
  unfold lawF_13
  simp only [Ok_gd]
  refine ⟨vL hi hiL hL (by decide) (by decide), vL hi hiL hL (by decide) (by decide), vL hi hiL hL (by decide) (by decide), vL hi hiL hL (by decide) (by decide), h.k32, Ok.call (j_get h) (fun q t ht => ?_)⟩
  obtain ⟨hR, hn, hs⟩ := ht
  have hn : qn t ≤ qn c0 + 1000 := hn
  have hs : qs t ≤ qs c0 + 13000 := hs
  simp only [Ok_gd]
  refine ⟨vL hi hiL hL (by decide) (by decide), vL hi hiL hL (by decide) (by decide), vL hi hiL hL (by decide) (by decide), vL hi hiL hL (by decide) (by decide), Ok.call hR (fun p u hu => ?_)⟩
  obtain ⟨hu1, hu2⟩ := hu
  have hu1 : IJ t u := hu1
  rw [Ok_nam]
  exact hK t u hu1 hn hs
theorem s_kept (L : Nat) (xs : Nat → Int32) (K : Int32 → CS → RS → Option Int32) (i : Int32) (c0 : CS) (r0 : RS) (h : IJ c0 r0) (hi : 0 ≤ i.toInt) (hiL : i.toInt + 6 ≤ L) (hL : L ≤ 3072) (hb : qn c0 ≤ 590000 ∧ qs c0 ≤ 6900000) (hK : ∀ c r, IJ c r → qn c ≤ qn c0 + 1000 → qs c ≤ qs c0 + 13000 → Ok (K (i + 6) c r) (fun x => x = 1)) : Ok (lawF_14 L xs K i c0 r0) (fun x => x = 1) := by
  unfold lawF_14
  simp only [Ok_gd]
  refine ⟨vL hi hiL hL (by decide) (by decide), vL hi hiL hL (by decide) (by decide), h.k32, Ok.call (j_kept h) (fun q t ht => ?_)⟩
  obtain ⟨hR, hn, hs⟩ := ht
  have hn : qn t ≤ qn c0 + 1000 := hn
  have hs : qs t ≤ qs c0 + 13000 := hs
  simp only [Ok_gd]
  refine ⟨vL hi hiL hL (by decide) (by decide), vL hi hiL hL (by decide) (by decide), Ok.call hR (fun p u hu => ?_)⟩
  obtain ⟨hu1, hu2⟩ := hu
  have hu1 : IJ t u := hu1
  rw [Ok_nam]
  exact hK t u hu1 hn hs
theorem s_write (L : Nat) (xs : Nat → Int32) (K : Int32 → CS → RS → Option Int32) (i : Int32) (c0 : CS) (r0 : RS) (h : IJ c0 r0) (hi : 0 ≤ i.toInt) (hiL : i.toInt + 6 ≤ L) (hL : L ≤ 3072) (hb : qn c0 ≤ 590000 ∧ qs c0 ≤ 6900000) (hK : ∀ c r, IJ c r → qn c ≤ qn c0 + 1000 → qs c ≤ qs c0 + 13000 → Ok (K (i + 6) c r) (fun x => x = 1)) : Ok (lawF_15 L xs K i c0 r0) (fun x => x = 1) := by
  unfold lawF_15
  simp only [Ok_gd]
  refine ⟨vL hi hiL hL (by decide) (by decide), vL hi hiL hL (by decide) (by decide), vL hi hiL hL (by decide) (by decide), h.k32, Ok.call (j_write h) (fun q t ht => ?_)⟩
  obtain ⟨hR, hn, hs⟩ := ht
  have hn : qn t ≤ qn c0 + 1000 := hn
  have hs : qs t ≤ qs c0 + 13000 := hs
  simp only [Ok_gd]
  refine ⟨vL hi hiL hL (by decide) (by decide), vL hi hiL hL (by decide) (by decide), vL hi hiL hL (by decide) (by decide), Ok.call hR (fun p u hu => ?_)⟩
  obtain ⟨hu1, hu2⟩ := hu
  have hu1 : IJ t u := hu1
  rw [Ok_nam]
  exact hK t u hu1 hn hs
theorem s_at (L : Nat) (xs : Nat → Int32) (K : Int32 → CS → RS → Option Int32) (i : Int32) (c0 : CS) (r0 : RS) (h : IJ c0 r0) (hi : 0 ≤ i.toInt) (hiL : i.toInt + 6 ≤ L) (hL : L ≤ 3072) (hb : qn c0 ≤ 590000 ∧ qs c0 ≤ 6900000) (hK : ∀ c r, IJ c r → qn c ≤ qn c0 + 1000 → qs c ≤ qs c0 + 13000 → Ok (K (i + 6) c r) (fun x => x = 1)) : Ok (lawF_16 L xs K i c0 r0) (fun x => x = 1) := by
  unfold lawF_16
  simp only [Ok_gd]
  refine ⟨vL hi hiL hL (by decide) (by decide), vL hi hiL hL (by decide) (by decide), h.k32, Ok.call (j_at h) (fun q t ht => ?_)⟩
  obtain ⟨hR, hn, hs⟩ := ht
  have hn : qn t ≤ qn c0 + 1000 := hn
  have hs : qs t ≤ qs c0 + 13000 := hs
  simp only [Ok_gd]
  refine ⟨vL hi hiL hL (by decide) (by decide), vL hi hiL hL (by decide) (by decide), Ok.call hR (fun p u hu => ?_)⟩
  obtain ⟨hu1, hu2⟩ := hu
  have hu1 : IJ t u := hu1
  rw [Ok_nam]
  exact hK t u hu1 hn hs
theorem s_open (L : Nat) (xs : Nat → Int32) (K : Int32 → CS → RS → Option Int32) (i : Int32) (c0 : CS) (r0 : RS) (h : IJ c0 r0) (hi : 0 ≤ i.toInt) (hiL : i.toInt + 6 ≤ L) (hL : L ≤ 3072) (hb : qn c0 ≤ 590000 ∧ qs c0 ≤ 6900000) (hK : ∀ c r, IJ c r → qn c ≤ qn c0 + 1000 → qs c ≤ qs c0 + 13000 → Ok (K (i + 6) c r) (fun x => x = 1)) : Ok (lawF_17 L xs K i c0 r0) (fun x => x = 1) := by
  unfold lawF_17
  simp only [Ok_gd]
  refine ⟨vL hi hiL hL (by decide) (by decide), vL hi hiL hL (by decide) (by decide), vL hi hiL hL (by decide) (by decide), vL hi hiL hL (by decide) (by decide), h.k32, Ok.call (j_open h) (fun q t ht => ?_)⟩
  obtain ⟨hR, hn, hs⟩ := ht
  have hn : qn t ≤ qn c0 + 1000 := hn
  have hs : qs t ≤ qs c0 + 13000 := hs
  simp only [Ok_gd]
  refine ⟨vL hi hiL hL (by decide) (by decide), vL hi hiL hL (by decide) (by decide), vL hi hiL hL (by decide) (by decide), vL hi hiL hL (by decide) (by decide), Ok.call hR (fun p u hu => ?_)⟩
  obtain ⟨hu1, hu2⟩ := hu
  have hu1 : IJ t u := hu1
  rw [Ok_nam]
  exact hK t u hu1 hn hs
theorem s_step (L : Nat) (xs : Nat → Int32) (K : Int32 → CS → RS → Option Int32) (i : Int32) (c0 : CS) (r0 : RS) (h : IJ c0 r0) (hi : 0 ≤ i.toInt) (hiL : i.toInt + 6 ≤ L) (hL : L ≤ 3072) (hb : qn c0 ≤ 590000 ∧ qs c0 ≤ 6900000) (hK : ∀ c r, IJ c r → qn c ≤ qn c0 + 1000 → qs c ≤ qs c0 + 13000 → Ok (K (i + 6) c r) (fun x => x = 1)) : Ok (lawF_18 L xs K i c0 r0) (fun x => x = 1) := by
  unfold lawF_18
  simp only [Ok_gd]
  refine ⟨vL hi hiL hL (by decide) (by decide), vL hi hiL hL (by decide) (by decide), h.k32, Ok.call (j_step h) (fun q t ht => ?_)⟩
  obtain ⟨hR, hn, hs⟩ := ht
  have hn : qn t ≤ qn c0 + 1000 := hn
  have hs : qs t ≤ qs c0 + 13000 := hs
  simp only [Ok_gd]
  refine ⟨vL hi hiL hL (by decide) (by decide), vL hi hiL hL (by decide) (by decide), Ok.call hR (fun p u hu => ?_)⟩
  obtain ⟨hu1, hu2⟩ := hu
  have hu1 : IJ t u := hu1
  rw [Ok_nam]
  exact hK t u hu1 hn hs
theorem s_walk (L : Nat) (xs : Nat → Int32) (K : Int32 → CS → RS → Option Int32) (i : Int32) (c0 : CS) (r0 : RS) (h : IJ c0 r0) (hi : 0 ≤ i.toInt) (hiL : i.toInt + 6 ≤ L) (hL : L ≤ 3072) (hb : qn c0 ≤ 590000 ∧ qs c0 ≤ 6900000) (hK : ∀ c r, IJ c r → qn c ≤ qn c0 + 1000 → qs c ≤ qs c0 + 13000 → Ok (K (i + 6) c r) (fun x => x = 1)) : Ok (lawF_19 L xs K i c0 r0) (fun x => x = 1) := by
  unfold lawF_19
  simp only [Ok_gd]
  refine ⟨vL hi hiL hL (by decide) (by decide), vL hi hiL hL (by decide) (by decide), vL hi hiL hL (by decide) (by decide), h.k32, Ok.call (j_walk h) (fun q t ht => ?_)⟩
  obtain ⟨hR, hn, hs⟩ := ht
  have hn : qn t ≤ qn c0 + 1000 := hn
  have hs : qs t ≤ qs c0 + 13000 := hs
  simp only [Ok_gd]
  refine ⟨vL hi hiL hL (by decide) (by decide), vL hi hiL hL (by decide) (by decide), vL hi hiL hL (by decide) (by decide), Ok.call hR (fun p u hu => ?_)⟩
  obtain ⟨hu1, hu2⟩ := hu
  have hu1 : IJ t u := hu1
  rw [Ok_nam]
  exact hK t u hu1 hn hs
theorem s_by (L : Nat) (xs : Nat → Int32) (K : Int32 → CS → RS → Option Int32) (i : Int32) (c0 : CS) (r0 : RS) (h : IJ c0 r0) (hi : 0 ≤ i.toInt) (hiL : i.toInt + 6 ≤ L) (hL : L ≤ 3072) (hb : qn c0 ≤ 590000 ∧ qs c0 ≤ 6900000) (hK : ∀ c r, IJ c r → qn c ≤ qn c0 + 1000 → qs c ≤ qs c0 + 13000 → Ok (K (i + 6) c r) (fun x => x = 1)) : Ok (lawF_20 L xs K i c0 r0) (fun x => x = 1) := by
  unfold lawF_20
  simp only [Ok_gd]
  refine ⟨h.k32, Ok.call (j_by h) (fun q t ht => ?_)⟩
  obtain ⟨hR, hn, hs⟩ := ht
  have hn : qn t ≤ qn c0 + 1000 := hn
  have hs : qs t ≤ qs c0 + 13000 := hs
  refine Ok.call hR (fun p u hu => ?_)
  obtain ⟨hu1, hu2⟩ := hu
  have hu1 : IJ t u := hu1
  rw [Ok_nam]
  exact hK t u hu1 hn hs
theorem s_readers (L : Nat) (xs : Nat → Int32) (K : Int32 → CS → RS → Option Int32) (i : Int32) (c0 : CS) (r0 : RS) (h : IJ c0 r0) (hi : 0 ≤ i.toInt) (hiL : i.toInt + 6 ≤ L) (hL : L ≤ 3072) (hb : qn c0 ≤ 590000 ∧ qs c0 ≤ 6900000) (hK : ∀ c r, IJ c r → qn c ≤ qn c0 + 1000 → qs c ≤ qs c0 + 13000 → Ok (K (i + 6) c r) (fun x => x = 1)) : Ok (lawF_21 L xs K i c0 r0) (fun x => x = 1) := by
  unfold lawF_21
  simp only [Ok_gd]
  refine ⟨vL hi hiL hL (by decide) (by decide), h.k32, Ok.call (j_readers h) (fun q t ht => ?_)⟩
  obtain ⟨hR, hn, hs⟩ := ht
  have hn : qn t ≤ qn c0 + 1000 := hn
  have hs : qs t ≤ qs c0 + 13000 := hs
  simp only [Ok_gd]
  refine ⟨vL hi hiL hL (by decide) (by decide), Ok.call hR (fun p u hu => ?_)⟩
  obtain ⟨hu1, hu2⟩ := hu
  have hu1 : IJ t u := hu1
  have hu2 : q = p := hu2
  exact Ok_pif.mpr ⟨fun _ => hK t u hu1 hn hs, fun n => absurd hu2 n⟩
theorem s_none (L : Nat) (xs : Nat → Int32) (K : Int32 → CS → RS → Option Int32) (i : Int32) (c0 : CS) (r0 : RS) (h : IJ c0 r0) (hi : 0 ≤ i.toInt) (hiL : i.toInt + 6 ≤ L) (hL : L ≤ 3072) (hb : qn c0 ≤ 590000 ∧ qs c0 ≤ 6900000) (hK : ∀ c r, IJ c r → qn c ≤ qn c0 + 1000 → qs c ≤ qs c0 + 13000 → Ok (K (i + 6) c r) (fun x => x = 1)) : Ok (lawF_22 L xs K i c0 r0) (fun x => x = 1) := by
  unfold lawF_22
  rw [Ok_nam]
  exact hK c0 r0 h (by omega) (by omega)
theorem ar (A B : Nat) {a b n : Nat} (h1 : a ≤ b + A) (h2 : b ≤ B + A * n) : a ≤ B + A * (n + 1) := by
  rw [Nat.mul_succ]
  generalize A * n = y at h2 ⊢
  omega
set_option maxRecDepth 8000 in
theorem law_all (L : Nat) (hL : L ≤ 3072) (xs : Nat → Int32) : ∀ (z n : Nat) (i : Int32) (c : CS) (r : RS), i.toInt = 6 * n → n ≤ 512 → 513 - n < z → IJ c r → qn c ≤ 1000 + 1000 * n → qs c ≤ 10000 + 13000 * n → Ok (lawF L xs z i c r) (fun x => x = 1) := by
  intro z
  induction z with
  | zero => intro n i c r h1 h2 h3; omega
  | succ z ih =>
    intro n i c r hi hn hz hI hq hs
    have h0 : 0 ≤ i.toInt := by omega
    rw [lawF_s]
    have eL : (Int32.ofNat L - 6).toInt = L - 6 := by
      rw [t_sub (by rw [t_nI (by omega)]; show -2147483648 ≤ (L : Int) - 6; omega) (by rw [t_nI (by omega)]; show (L : Int) - 6 < 2147483648; omega), t_nI (by omega)]
      rfl
    rw [Ok_pif, t_lt, eL]
    refine ⟨fun _ => Ok_some.mpr rfl, fun cL => ?_⟩
    rw [Ok_gd, t_in]
    refine ⟨by omega, ?_⟩
    have e6 : (i + 6).toInt = i.toInt + 6 := by
      rw [t_add (by show -2147483648 ≤ i.toInt + 6; omega) (by show i.toInt + 6 < 2147483648; omega)]
      rfl
    have hN : ∀ c' r', IJ c' r' → qn c' ≤ qn c + 1000 → qs c' ≤ qs c + 13000 → Ok (lawF L xs z (i + 6) c' r') (fun x => x = 1) := fun c' r' h1 h2 h3 => ih (n + 1) (i + 6) c' r' (by omega) (by omega) (by omega) h1 (ar 1000 1000 h2 hq) (ar 13000 10000 h3 hs)
    rw [Ok_pif]
    refine ⟨fun _ => s_feed L xs (lawF L xs z) i c r hI h0 (by omega) hL (by omega) hN, fun _ => ?_⟩
    rw [Ok_pif]
    refine ⟨fun _ => s_end L xs (lawF L xs z) i c r hI h0 (by omega) hL (by omega) hN, fun _ => ?_⟩
    rw [Ok_pif]
    refine ⟨fun _ => s_make L xs (lawF L xs z) i c r hI h0 (by omega) hL (by omega) hN, fun _ => ?_⟩
    rw [Ok_pif]
    refine ⟨fun _ => s_fault L xs (lawF L xs z) i c r hI h0 (by omega) hL (by omega) hN, fun _ => ?_⟩
    rw [Ok_pif]
    refine ⟨fun _ => s_field L xs (lawF L xs z) i c r hI h0 (by omega) hL (by omega) hN, fun _ => ?_⟩
    rw [Ok_pif]
    refine ⟨fun _ => s_plain L xs (lawF L xs z) i c r hI h0 (by omega) hL (by omega) hN, fun _ => ?_⟩
    rw [Ok_pif]
    refine ⟨fun _ => s_clear L xs (lawF L xs z) i c r hI h0 (by omega) hL (by omega) hN, fun _ => ?_⟩
    rw [Ok_pif]
    refine ⟨fun _ => s_load L xs (lawF L xs z) i c r hI h0 (by omega) hL (by omega) hN, fun _ => ?_⟩
    rw [Ok_pif]
    refine ⟨fun _ => s_set L xs (lawF L xs z) i c r hI h0 (by omega) hL (by omega) hN, fun _ => ?_⟩
    rw [Ok_pif]
    refine ⟨fun _ => s_say L xs (lawF L xs z) i c r hI h0 (by omega) hL (by omega) hN, fun _ => ?_⟩
    rw [Ok_pif]
    refine ⟨fun _ => s_nest L xs (lawF L xs z) i c r hI h0 (by omega) hL (by omega) hN, fun _ => ?_⟩
    rw [Ok_pif]
    refine ⟨fun _ => s_drop L xs (lawF L xs z) i c r hI h0 (by omega) hL (by omega) hN, fun _ => ?_⟩
    rw [Ok_pif]
    refine ⟨fun _ => s_read L xs (lawF L xs z) i c r hI h0 (by omega) hL (by omega) hN, fun _ => ?_⟩
    rw [Ok_pif]
    refine ⟨fun _ => s_get L xs (lawF L xs z) i c r hI h0 (by omega) hL (by omega) hN, fun _ => ?_⟩
    rw [Ok_pif]
    refine ⟨fun _ => s_kept L xs (lawF L xs z) i c r hI h0 (by omega) hL (by omega) hN, fun _ => ?_⟩
    rw [Ok_pif]
    refine ⟨fun _ => s_write L xs (lawF L xs z) i c r hI h0 (by omega) hL (by omega) hN, fun _ => ?_⟩
    rw [Ok_pif]
    refine ⟨fun _ => s_at L xs (lawF L xs z) i c r hI h0 (by omega) hL (by omega) hN, fun _ => ?_⟩
    rw [Ok_pif]
    refine ⟨fun _ => s_open L xs (lawF L xs z) i c r hI h0 (by omega) hL (by omega) hN, fun _ => ?_⟩
    rw [Ok_pif]
    refine ⟨fun _ => s_step L xs (lawF L xs z) i c r hI h0 (by omega) hL (by omega) hN, fun _ => ?_⟩
    rw [Ok_pif]
    refine ⟨fun _ => s_walk L xs (lawF L xs z) i c r hI h0 (by omega) hL (by omega) hN, fun _ => ?_⟩
    rw [Ok_pif]
    refine ⟨fun _ => s_by L xs (lawF L xs z) i c r hI h0 (by omega) hL (by omega) hN, fun _ => ?_⟩
    rw [Ok_pif]
    refine ⟨fun _ => s_readers L xs (lawF L xs z) i c r hI h0 (by omega) hL (by omega) hN, fun _ => ?_⟩
    exact s_none L xs (lawF L xs z) i c r hI h0 (by omega) hL (by omega) hN

theorem dL_law_18 : decode cL_law 18 = .ok (.iload_n 3, 1) := by decide +kernel
theorem dL_law_19 : decode cL_law 19 = .ok (.aload_n 0, 1) := by decide +kernel
theorem dL_law_20 : decode cL_law 20 = .ok (.arraylength, 1) := by decide +kernel
theorem dL_law_21 : decode cL_law 21 = .ok (.bipush 6, 2) := by decide +kernel
theorem dL_law_23 : decode cL_law 23 = .ok (.isub, 1) := by decide +kernel
theorem dL_law_24 : decode cL_law 24 = .ok (.if_icmp .gt 954, 3) := by decide +kernel
theorem dL_law_27 : decode cL_law 27 = .ok (.aload_n 0, 1) := by decide +kernel
theorem dL_law_28 : decode cL_law 28 = .ok (.iload_n 3, 1) := by decide +kernel
theorem dL_law_29 : decode cL_law 29 = .ok (.iaload, 1) := by decide +kernel
theorem dL_law_30 : decode cL_law 30 = .ok (.bipush 31, 2) := by decide +kernel
theorem dL_law_32 : decode cL_law 32 = .ok (.iand, 1) := by decide +kernel
theorem dL_law_33 : decode cL_law 33 = .ok (.tableswitch 939 0 21 #[103, 166, 189, 212, 235, 278, 311, 334, 357, 440, 483, 536, 579, 612, 665, 698, 741, 774, 827, 860, 903, 916], 103) := by decide +kernel
theorem dL_law_978 : decode cL_law 978 = .ok (.iconst 1, 1) := by decide +kernel
theorem dL_law_979 : decode cL_law 979 = .ok (.ireturn, 1) := by decide +kernel
/-- the law's loop -/
noncomputable def lawF (L : Nat) (xs : Nat → Int32) : Nat → Int32 → CS → RS → Option Int32
  | 0 => fun _ _ _ => none
  | n + 1 => fun i c0 r0 => pif (Int32.ofNat L - 6 < i) (some 1) (gd (vp_in i L) (pif (xs i.toNatClampNeg &&& 31 = 0) (lawF_0 L xs (lawF L xs n) i c0 r0) (pif (xs i.toNatClampNeg &&& 31 = 1) (lawF_1 L xs (lawF L xs n) i c0 r0) (pif (xs i.toNatClampNeg &&& 31 = 2) (lawF_2 L xs (lawF L xs n) i c0 r0) (pif (xs i.toNatClampNeg &&& 31 = 3) (lawF_3 L xs (lawF L xs n) i c0 r0) (pif (xs i.toNatClampNeg &&& 31 = 4) (lawF_4 L xs (lawF L xs n) i c0 r0) (pif (xs i.toNatClampNeg &&& 31 = 5) (lawF_5 L xs (lawF L xs n) i c0 r0) (pif (xs i.toNatClampNeg &&& 31 = 6) (lawF_6 L xs (lawF L xs n) i c0 r0) (pif (xs i.toNatClampNeg &&& 31 = 7) (lawF_7 L xs (lawF L xs n) i c0 r0) (pif (xs i.toNatClampNeg &&& 31 = 8) (lawF_8 L xs (lawF L xs n) i c0 r0) (pif (xs i.toNatClampNeg &&& 31 = 9) (lawF_9 L xs (lawF L xs n) i c0 r0) (pif (xs i.toNatClampNeg &&& 31 = 10) (lawF_10 L xs (lawF L xs n) i c0 r0) (pif (xs i.toNatClampNeg &&& 31 = 11) (lawF_11 L xs (lawF L xs n) i c0 r0) (pif (xs i.toNatClampNeg &&& 31 = 12) (lawF_12 L xs (lawF L xs n) i c0 r0) (pif (xs i.toNatClampNeg &&& 31 = 13) (lawF_13 L xs (lawF L xs n) i c0 r0) (pif (xs i.toNatClampNeg &&& 31 = 14) (lawF_14 L xs (lawF L xs n) i c0 r0) (pif (xs i.toNatClampNeg &&& 31 = 15) (lawF_15 L xs (lawF L xs n) i c0 r0) (pif (xs i.toNatClampNeg &&& 31 = 16) (lawF_16 L xs (lawF L xs n) i c0 r0) (pif (xs i.toNatClampNeg &&& 31 = 17) (lawF_17 L xs (lawF L xs n) i c0 r0) (pif (xs i.toNatClampNeg &&& 31 = 18) (lawF_18 L xs (lawF L xs n) i c0 r0) (pif (xs i.toNatClampNeg &&& 31 = 19) (lawF_19 L xs (lawF L xs n) i c0 r0) (pif (xs i.toNatClampNeg &&& 31 = 20) (lawF_20 L xs (lawF L xs n) i c0 r0) (pif (xs i.toNatClampNeg &&& 31 = 21) (lawF_21 L xs (lawF L xs n) i c0 r0) (lawF_22 L xs (lawF L xs n) i c0 r0))))))))))))))))))))))))
theorem lawF_s (L : Nat) (xs : Nat → Int32) (n : Nat) (i : Int32) (c0 : CS) (r0 : RS) : lawF L xs (n + 1) i c0 r0 = pif (Int32.ofNat L - 6 < i) (some 1) (gd (vp_in i L) (pif (xs i.toNatClampNeg &&& 31 = 0) (lawF_0 L xs (lawF L xs n) i c0 r0) (pif (xs i.toNatClampNeg &&& 31 = 1) (lawF_1 L xs (lawF L xs n) i c0 r0) (pif (xs i.toNatClampNeg &&& 31 = 2) (lawF_2 L xs (lawF L xs n) i c0 r0) (pif (xs i.toNatClampNeg &&& 31 = 3) (lawF_3 L xs (lawF L xs n) i c0 r0) (pif (xs i.toNatClampNeg &&& 31 = 4) (lawF_4 L xs (lawF L xs n) i c0 r0) (pif (xs i.toNatClampNeg &&& 31 = 5) (lawF_5 L xs (lawF L xs n) i c0 r0) (pif (xs i.toNatClampNeg &&& 31 = 6) (lawF_6 L xs (lawF L xs n) i c0 r0) (pif (xs i.toNatClampNeg &&& 31 = 7) (lawF_7 L xs (lawF L xs n) i c0 r0) (pif (xs i.toNatClampNeg &&& 31 = 8) (lawF_8 L xs (lawF L xs n) i c0 r0) (pif (xs i.toNatClampNeg &&& 31 = 9) (lawF_9 L xs (lawF L xs n) i c0 r0) (pif (xs i.toNatClampNeg &&& 31 = 10) (lawF_10 L xs (lawF L xs n) i c0 r0) (pif (xs i.toNatClampNeg &&& 31 = 11) (lawF_11 L xs (lawF L xs n) i c0 r0) (pif (xs i.toNatClampNeg &&& 31 = 12) (lawF_12 L xs (lawF L xs n) i c0 r0) (pif (xs i.toNatClampNeg &&& 31 = 13) (lawF_13 L xs (lawF L xs n) i c0 r0) (pif (xs i.toNatClampNeg &&& 31 = 14) (lawF_14 L xs (lawF L xs n) i c0 r0) (pif (xs i.toNatClampNeg &&& 31 = 15) (lawF_15 L xs (lawF L xs n) i c0 r0) (pif (xs i.toNatClampNeg &&& 31 = 16) (lawF_16 L xs (lawF L xs n) i c0 r0) (pif (xs i.toNatClampNeg &&& 31 = 17) (lawF_17 L xs (lawF L xs n) i c0 r0) (pif (xs i.toNatClampNeg &&& 31 = 18) (lawF_18 L xs (lawF L xs n) i c0 r0) (pif (xs i.toNatClampNeg &&& 31 = 19) (lawF_19 L xs (lawF L xs n) i c0 r0) (pif (xs i.toNatClampNeg &&& 31 = 20) (lawF_20 L xs (lawF L xs n) i c0 r0) (pif (xs i.toNatClampNeg &&& 31 = 21) (lawF_21 L xs (lawF L xs n) i c0 r0) (lawF_22 L xs (lawF L xs n) i c0 r0)))))))))))))))))))))))) := rfl
set_option maxHeartbeats 4000000 in
set_option maxRecDepth 100000 in
theorem law_loop (l : Launch) {p : Program} {e : Env} {s : State} {m : MethodId} {below : List Frame} {meth : Method} {c : Code} {b L : Nat} {xs : Nat → Int32} {A : Nat → Prop} (C0 : lw_At p s m meth c b L xs) (hts : ∀ w ∈ lwT, w.before #[Value.ref b] s = true) (hA : ∀ q : Nat, s.heap.size ≤ q → A q) (hbA : ¬ A b) (dC : Nat → ClassId) (dI : Nat → Nat → Nat) (ka ad : Nat → Nat) (ct : Nat → ClassId) (h : Nat) (a : Nat → Nat) (ca : Nat → ClassId) (had : ∀ i, 32 ≤ i → ad i = s.heap.size + (i - 32)) (hK1 : va_K (dC, dI) vwCl (cT ct) s) (hK2 : va_K (dC, dI) vwCl (rT ca) s) (hN : NX s) (hZ : cz A s s.heap) (hC : kS ka A s s.heap) (hR : kR ka s) (hL : kL s) (hA2 : ∀ q : Nat, A q → s.heap.size ≤ q) (n : Nat) : ∀ (i : Int32) (c0 : CS) (r0 : RS), lawF L xs n i c0 r0 = some 1 → ∀ (H : Heap) (locs : List Loc) (ls : Array Slot), Lp (dC, dI) ka ad ct h a ca A s.heap c0 r0 H locs → (qn c0 ≤ 600000 ∧ qs c0 ≤ 7000000) → lv_has ls 4 [(0, .ref b), (1, .ref (ad 32)), (2, .ref h), (3, .int i)] → W p l e room_1 s m #[Value.ref b] below meth c H locs (qn c0 - 32) (qs c0 + 9895) (lw_Z below #[Value.ref b] s) (F0 m 18 ls []) := by
  induction n with
  | zero =>
    intro i c0 r0 hf
    cases hf
  | succ n ih =>
    intro i c0 r0 hf H locs ls hp hbd hl
    obtain ⟨hx, hb, hr, hml, hown, -, hX, hbl, hlocks, hgv⟩ := id C0
    rw [lawF_s] at hf
    refine lv_iload_n hx hb dL_law_18 rfl (lv_at hl 3 rfl) ?_
    refine lv_aload_n hx hb dL_law_19 rfl (lv_at hl 0 rfl) ?_
    refine va_slen hx hb hX hbl hbA hp.1.2.1 dL_law_20 ?_
    refine lv_bipush (v := 6) hx hb dL_law_21 (by decide) ?_
    refine lv_isub hx hb dL_law_23 ?_
    refine lv_icmp_gt (tgt := 978) hx hb dL_law_24 (by decide) (fun c_L => ?_) (fun c_L => ?_)
    · refine lv_iconst (v := 1) hx hb dL_law_978 (by decide) ?_
      refine va_forget (fun q hq => hA2 _ (hp.1.2.1.2.2 q hq)) ?_
      refine W.widen (k := 600000) (n := 7302250) (by have := hbd.1; omega) (by have := hbd.2; omega) ?_
      exact lw_ret hx hb hr hlocks dL_law_979
    · have hf := pif_f c_L hf
      obtain ⟨g1, hf⟩ := gd_some hf
      refine lv_aload_n hx hb dL_law_27 rfl (lv_at hl 0 rfl) ?_
      refine lv_iload_n hx hb dL_law_28 rfl (lv_at hl 3 rfl) ?_
      refine va_sld hx hb hX hbl hbA hp.1.2.1 g1 dL_law_29 ?_
      refine lv_bipush (v := 31) hx hb dL_law_30 (by decide) ?_
      refine lv_iand hx hb dL_law_32 ?_
      by_cases e0 : xs i.toNatClampNeg &&& 31 = 0
      · have hf := pif_t e0 hf
        refine W_toi (y := 0) e0 ?_
        refine lv_tableIn (off := 103) (tgt := 136) hx hb dL_law_33 (by decide) (by decide) (by decide) (by decide) ?_
        exact law_0 l C0 hts hA hbA dC dI ka ad ct h a ca had hK1 hK2 hN hZ hC hR hL (lawF L xs n) ih i c0 r0 hf H locs ls hp hbd hl
      have hf := pif_f e0 hf
      by_cases e1 : xs i.toNatClampNeg &&& 31 = 1
      · have hf := pif_t e1 hf
        refine W_toi (y := 1) e1 ?_
        refine lv_tableIn (off := 166) (tgt := 199) hx hb dL_law_33 (by decide) (by decide) (by decide) (by decide) ?_
        exact law_1 l C0 hts hA hbA dC dI ka ad ct h a ca had hK1 hK2 hN hZ hC hR hL (lawF L xs n) ih i c0 r0 hf H locs ls hp hbd hl
      have hf := pif_f e1 hf
      by_cases e2 : xs i.toNatClampNeg &&& 31 = 2
      · have hf := pif_t e2 hf
        refine W_toi (y := 2) e2 ?_
        refine lv_tableIn (off := 189) (tgt := 222) hx hb dL_law_33 (by decide) (by decide) (by decide) (by decide) ?_
        exact law_2 l C0 hts hA hbA dC dI ka ad ct h a ca had hK1 hK2 hN hZ hC hR hL (lawF L xs n) ih i c0 r0 hf H locs ls hp hbd hl
      have hf := pif_f e2 hf
      by_cases e3 : xs i.toNatClampNeg &&& 31 = 3
      · have hf := pif_t e3 hf
        refine W_toi (y := 3) e3 ?_
        refine lv_tableIn (off := 212) (tgt := 245) hx hb dL_law_33 (by decide) (by decide) (by decide) (by decide) ?_
        exact law_3 l C0 hts hA hbA dC dI ka ad ct h a ca had hK1 hK2 hN hZ hC hR hL (lawF L xs n) ih i c0 r0 hf H locs ls hp hbd hl
      have hf := pif_f e3 hf
      by_cases e4 : xs i.toNatClampNeg &&& 31 = 4
      · have hf := pif_t e4 hf
        refine W_toi (y := 4) e4 ?_
        refine lv_tableIn (off := 235) (tgt := 268) hx hb dL_law_33 (by decide) (by decide) (by decide) (by decide) ?_
        exact law_4 l C0 hts hA hbA dC dI ka ad ct h a ca had hK1 hK2 hN hZ hC hR hL (lawF L xs n) ih i c0 r0 hf H locs ls hp hbd hl
      have hf := pif_f e4 hf
      by_cases e5 : xs i.toNatClampNeg &&& 31 = 5
      · have hf := pif_t e5 hf
        refine W_toi (y := 5) e5 ?_
        refine lv_tableIn (off := 278) (tgt := 311) hx hb dL_law_33 (by decide) (by decide) (by decide) (by decide) ?_
        exact law_5 l C0 hts hA hbA dC dI ka ad ct h a ca had hK1 hK2 hN hZ hC hR hL (lawF L xs n) ih i c0 r0 hf H locs ls hp hbd hl
      have hf := pif_f e5 hf
      by_cases e6 : xs i.toNatClampNeg &&& 31 = 6
      · have hf := pif_t e6 hf
        refine W_toi (y := 6) e6 ?_
        refine lv_tableIn (off := 311) (tgt := 344) hx hb dL_law_33 (by decide) (by decide) (by decide) (by decide) ?_
        exact law_6 l C0 hts hA hbA dC dI ka ad ct h a ca had hK1 hK2 hN hZ hC hR hL (lawF L xs n) ih i c0 r0 hf H locs ls hp hbd hl
      have hf := pif_f e6 hf
      by_cases e7 : xs i.toNatClampNeg &&& 31 = 7
      · have hf := pif_t e7 hf
        refine W_toi (y := 7) e7 ?_
        refine lv_tableIn (off := 334) (tgt := 367) hx hb dL_law_33 (by decide) (by decide) (by decide) (by decide) ?_
        exact law_7 l C0 hts hA hbA dC dI ka ad ct h a ca had hK1 hK2 hN hZ hC hR hL (lawF L xs n) ih i c0 r0 hf H locs ls hp hbd hl
      have hf := pif_f e7 hf
      by_cases e8 : xs i.toNatClampNeg &&& 31 = 8
      · have hf := pif_t e8 hf
        refine W_toi (y := 8) e8 ?_
        refine lv_tableIn (off := 357) (tgt := 390) hx hb dL_law_33 (by decide) (by decide) (by decide) (by decide) ?_
        exact law_8 l C0 hts hA hbA dC dI ka ad ct h a ca had hK1 hK2 hN hZ hC hR hL (lawF L xs n) ih i c0 r0 hf H locs ls hp hbd hl
      have hf := pif_f e8 hf
      by_cases e9 : xs i.toNatClampNeg &&& 31 = 9
      · have hf := pif_t e9 hf
        refine W_toi (y := 9) e9 ?_
        refine lv_tableIn (off := 440) (tgt := 473) hx hb dL_law_33 (by decide) (by decide) (by decide) (by decide) ?_
        exact law_9 l C0 hts hA hbA dC dI ka ad ct h a ca had hK1 hK2 hN hZ hC hR hL (lawF L xs n) ih i c0 r0 hf H locs ls hp hbd hl
      have hf := pif_f e9 hf
      by_cases e10 : xs i.toNatClampNeg &&& 31 = 10
      · have hf := pif_t e10 hf
        refine W_toi (y := 10) e10 ?_
        refine lv_tableIn (off := 483) (tgt := 516) hx hb dL_law_33 (by decide) (by decide) (by decide) (by decide) ?_
        exact law_10 l C0 hts hA hbA dC dI ka ad ct h a ca had hK1 hK2 hN hZ hC hR hL (lawF L xs n) ih i c0 r0 hf H locs ls hp hbd hl
      have hf := pif_f e10 hf
      by_cases e11 : xs i.toNatClampNeg &&& 31 = 11
      · have hf := pif_t e11 hf
        refine W_toi (y := 11) e11 ?_
        refine lv_tableIn (off := 536) (tgt := 569) hx hb dL_law_33 (by decide) (by decide) (by decide) (by decide) ?_
        exact law_11 l C0 hts hA hbA dC dI ka ad ct h a ca had hK1 hK2 hN hZ hC hR hL (lawF L xs n) ih i c0 r0 hf H locs ls hp hbd hl
      have hf := pif_f e11 hf
      by_cases e12 : xs i.toNatClampNeg &&& 31 = 12
      · have hf := pif_t e12 hf
        refine W_toi (y := 12) e12 ?_
        refine lv_tableIn (off := 579) (tgt := 612) hx hb dL_law_33 (by decide) (by decide) (by decide) (by decide) ?_
        exact law_12 l C0 hts hA hbA dC dI ka ad ct h a ca had hK1 hK2 hN hZ hC hR hL (lawF L xs n) ih i c0 r0 hf H locs ls hp hbd hl
      have hf := pif_f e12 hf
      by_cases e13 : xs i.toNatClampNeg &&& 31 = 13
      · have hf := pif_t e13 hf
        refine W_toi (y := 13) e13 ?_
        refine lv_tableIn (off := 612) (tgt := 645) hx hb dL_law_33 (by decide) (by decide) (by decide) (by decide) ?_
        exact law_13 l C0 hts hA hbA dC dI ka ad ct h a ca had hK1 hK2 hN hZ hC hR hL (lawF L xs n) ih i c0 r0 hf H locs ls hp hbd hl
      have hf := pif_f e13 hf
      by_cases e14 : xs i.toNatClampNeg &&& 31 = 14
      · have hf := pif_t e14 hf
        refine W_toi (y := 14) e14 ?_
        refine lv_tableIn (off := 665) (tgt := 698) hx hb dL_law_33 (by decide) (by decide) (by decide) (by decide) ?_
        exact law_14 l C0 hts hA hbA dC dI ka ad ct h a ca had hK1 hK2 hN hZ hC hR hL (lawF L xs n) ih i c0 r0 hf H locs ls hp hbd hl
      have hf := pif_f e14 hf
      by_cases e15 : xs i.toNatClampNeg &&& 31 = 15
      · have hf := pif_t e15 hf
        refine W_toi (y := 15) e15 ?_
        refine lv_tableIn (off := 698) (tgt := 731) hx hb dL_law_33 (by decide) (by decide) (by decide) (by decide) ?_
        exact law_15 l C0 hts hA hbA dC dI ka ad ct h a ca had hK1 hK2 hN hZ hC hR hL (lawF L xs n) ih i c0 r0 hf H locs ls hp hbd hl
      have hf := pif_f e15 hf
      by_cases e16 : xs i.toNatClampNeg &&& 31 = 16
      · have hf := pif_t e16 hf
        refine W_toi (y := 16) e16 ?_
        refine lv_tableIn (off := 741) (tgt := 774) hx hb dL_law_33 (by decide) (by decide) (by decide) (by decide) ?_
        exact law_16 l C0 hts hA hbA dC dI ka ad ct h a ca had hK1 hK2 hN hZ hC hR hL (lawF L xs n) ih i c0 r0 hf H locs ls hp hbd hl
      have hf := pif_f e16 hf
      by_cases e17 : xs i.toNatClampNeg &&& 31 = 17
      · have hf := pif_t e17 hf
        refine W_toi (y := 17) e17 ?_
        refine lv_tableIn (off := 774) (tgt := 807) hx hb dL_law_33 (by decide) (by decide) (by decide) (by decide) ?_
        exact law_17 l C0 hts hA hbA dC dI ka ad ct h a ca had hK1 hK2 hN hZ hC hR hL (lawF L xs n) ih i c0 r0 hf H locs ls hp hbd hl
      have hf := pif_f e17 hf
      by_cases e18 : xs i.toNatClampNeg &&& 31 = 18
      · have hf := pif_t e18 hf
        refine W_toi (y := 18) e18 ?_
        refine lv_tableIn (off := 827) (tgt := 860) hx hb dL_law_33 (by decide) (by decide) (by decide) (by decide) ?_
        exact law_18 l C0 hts hA hbA dC dI ka ad ct h a ca had hK1 hK2 hN hZ hC hR hL (lawF L xs n) ih i c0 r0 hf H locs ls hp hbd hl
      have hf := pif_f e18 hf
      by_cases e19 : xs i.toNatClampNeg &&& 31 = 19
      · have hf := pif_t e19 hf
        refine W_toi (y := 19) e19 ?_
        refine lv_tableIn (off := 860) (tgt := 893) hx hb dL_law_33 (by decide) (by decide) (by decide) (by decide) ?_
        exact law_19 l C0 hts hA hbA dC dI ka ad ct h a ca had hK1 hK2 hN hZ hC hR hL (lawF L xs n) ih i c0 r0 hf H locs ls hp hbd hl
      have hf := pif_f e19 hf
      by_cases e20 : xs i.toNatClampNeg &&& 31 = 20
      · have hf := pif_t e20 hf
        refine W_toi (y := 20) e20 ?_
        refine lv_tableIn (off := 903) (tgt := 936) hx hb dL_law_33 (by decide) (by decide) (by decide) (by decide) ?_
        exact law_20 l C0 hts hA hbA dC dI ka ad ct h a ca had hK1 hK2 hN hZ hC hR hL (lawF L xs n) ih i c0 r0 hf H locs ls hp hbd hl
      have hf := pif_f e20 hf
      by_cases e21 : xs i.toNatClampNeg &&& 31 = 21
      · have hf := pif_t e21 hf
        refine W_toi (y := 21) e21 ?_
        refine lv_tableIn (off := 916) (tgt := 949) hx hb dL_law_33 (by decide) (by decide) (by decide) (by decide) ?_
        exact law_21 l C0 hts hA hbA dC dI ka ad ct h a ca had hK1 hK2 hN hZ hC hR hL (lawF L xs n) ih i c0 r0 hf H locs ls hp hbd hl
      have hf := pif_f e21 hf
      obtain ⟨k, hk, ek⟩ := pk_andE (xs i.toNatClampNeg) (m := 31) 5 (by decide)
      have h22 : 22 ≤ k := by
        rcases Nat.lt_or_ge k 22 with h | h
        · exfalso
          rcases (show k = 0 ∨ k = 1 ∨ k = 2 ∨ k = 3 ∨ k = 4 ∨ k = 5 ∨ k = 6 ∨ k = 7 ∨ k = 8 ∨ k = 9 ∨ k = 10 ∨ k = 11 ∨ k = 12 ∨ k = 13 ∨ k = 14 ∨ k = 15 ∨ k = 16 ∨ k = 17 ∨ k = 18 ∨ k = 19 ∨ k = 20 ∨ k = 21 by omega) with rfl | rfl | rfl | rfl | rfl | rfl | rfl | rfl | rfl | rfl | rfl | rfl | rfl | rfl | rfl | rfl | rfl | rfl | rfl | rfl | rfl | rfl
          · exact e0 ek
          · exact e1 ek
          · exact e2 ek
          · exact e3 ek
          · exact e4 ek
          · exact e5 ek
          · exact e6 ek
          · exact e7 ek
          · exact e8 ek
          · exact e9 ek
          · exact e10 ek
          · exact e11 ek
          · exact e12 ek
          · exact e13 ek
          · exact e14 ek
          · exact e15 ek
          · exact e16 ek
          · exact e17 ek
          · exact e18 ek
          · exact e19 ek
          · exact e20 ek
          · exact e21 ek
        · exact h
      refine lv_tableOut (tgt := 972) hx hb dL_law_33 (Or.inr (by rw [ek, nI_toInt (by omega)]; omega)) (by decide) ?_
      exact law_22 l C0 hts hA hbA dC dI ka ad ct h a ca had hK1 hK2 hN hZ hC hR hL (lawF L xs n) ih i c0 r0 hf H locs ls hp hbd hl

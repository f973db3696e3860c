/-! what was seen of walks stays right while makes are told -/
theorem SaM.has {r t : RS} {j n : Nat} (h : SaM r t j) : hasN t j n ↔ hasN r j n := by
  unfold hasN
  constructor
  · rintro ⟨h1, h2, h3, h4⟩
    have s := h n (by omega)
    exact ⟨h1, h2, by rw [← s.2.2.2.2.2.1]; exact h3, by rw [← s.1]; exact h4⟩
  · rintro ⟨h1, h2, h3, h4⟩
    have s := h n (by omega)
    exact ⟨h1, h2, by rw [s.2.2.2.2.2.1]; exact h3, by rw [s.1]; exact h4⟩
theorem SaM.so {r t : RS} {j n : Nat} (h : SaM r t j) (hn : n < 31) : srt t j n = srt r j n := by
  unfold srt
  rw [(h n hn).1]
theorem SaM.oth {r t : RS} {a b n : Nat} (ha : SaM r t a) (hb : SaM r t b) (hn : n < 31) : wOth t a b n ↔ wOth r a b n := by
  unfold wOth
  rw [ha.so hn, hb.so hn, hb.has]
theorem SaM.nar {r t : RS} {a b n : Nat} (ha : SaM r t a) (hb : SaM r t b) (hn : n < 31) : wNar t a b n ↔ wNar r a b n := by
  unfold wNar
  rw [ha.so hn, hb.has, (ha n hn).1, (hb n hn).1]
theorem SaM.dif {r t : RS} {a c n : Nat} (ha : SaM r t a) (hc : SaM r t c) (hn : n < 31) (hl : srt r a n = 5 → (gL r 6 (31 * a + n)).toInt ≤ 12) : wDif t a c n ↔ wDif r a c n := by
  unfold wDif
  rw [ha.so hn, hc.has, (ha n hn).2.2.2.2.1, (hc n hn).2.2.2.2.1]
  refine and_congr_right (fun _ => and_congr_right (fun _ => or_congr_right (and_congr_right (fun h5 => ?_))))
  have h12 := hl h5
  constructor
  · rintro ⟨k, k1, k2⟩
    exact ⟨k, k1, by rw [← (ha n hn).2.2.2.2.2.2 k (by omega), ← (hc n hn).2.2.2.2.2.2 k (by omega)]; exact k2⟩
  · rintro ⟨k, k1, k2⟩
    exact ⟨k, k1, by rw [(ha n hn).2.2.2.2.2.2 k (by omega), (hc n hn).2.2.2.2.2.2 k (by omega)]; exact k2⟩
theorem SaM.mat {r t : RS} {a b n : Nat} (ha : SaM r t a) (hb : SaM r t b) (hn : n < 31) : wMat t a b n ↔ wMat r a b n := by
  unfold wMat
  refine and_congr hb.has (and_congr (by rw [(hb n hn).2.1]) (exists_congr (fun k => and_congr_right (fun k1 => and_congr_right (fun k2 => ?_)))))
  rw [hb.has (n := k), ha.has (n := k), (hb k (by omega)).2.1, (hb n hn).2.1, (ha k (by omega)).2.1, (ha n hn).2.1]
theorem SaM.inm {r t : RS} {j n : Nat} (h : SaM r t j) (hn : n < 31) : inM t j n = inM r j n := by
  unfold inM
  rw [(h n hn).2.2.1]
theorem wIn_same {r t : RS} {W W' : Nat → Nat → Nat → Prop → Prop} {a b c n : Nat} {pl : Prop} (hn : n < 31) (sa : SaM r t a) (sb : SaM r t b) (sc : SaM r t c) (h1 : hasN r c n → hasN r b n → ∀ p, W' (inM r a n) (inM r b n) (inM r c n) p ↔ W (inM r a n) (inM r b n) (inM r c n) p) (h2 : hasN r c n → ∀ p, W' (inM r a n) (inM r c n) (inM r c n) p ↔ W (inM r a n) (inM r c n) (inM r c n) p) (h3 : hasN r b n → ∀ p, W' (inM r a n) (inM r b n) (inM r b n) p ↔ W (inM r a n) (inM r b n) (inM r b n) p) : wIn t W' a b c n pl ↔ wIn r W a b c n pl := by
  unfold wIn
  rw [sa.inm hn, sb.inm hn, sc.inm hn, sb.has, sc.has]
  refine or_congr (and_congr_right (fun c1 => and_congr_right (fun c2 => h1 c1 c2 _))) (or_congr (and_congr_right (fun c1 => and_congr_right (fun _ => h2 c1 _))) (and_congr_right (fun _ => and_congr_right (fun c2 => h3 c2 _))))
theorem wBrk_same {r t : RS} (hM : MkI r) (h0 : ∀ j, tld r j → tld t j ∧ SaM r t j) : ∀ (z a b c : Nat) (pl : Prop), tl3 r a b c → (wBrk t z a b c pl ↔ wBrk r z a b c pl) := by
  intro z
  induction z with
  | zero => intro a b c pl _; exact Iff.rfl
  | succ z ih =>
    intro a b c pl h3
    obtain ⟨ta, tb, tc⟩ := id h3
    have sa := (h0 a ta).2
    have sb := (h0 b tb).2
    have sc := (h0 c tc).2
    have key : ∀ n, hasN r a n → wWhy t (wBrk t z) a b c n pl = wWhy r (wBrk r z) a b c n pl := fun n hna => by
      have hn : n < 31 := by have := hna.2.1; omega
      have e1 : (wOth t a b n ∨ wOth t a c n) = (wOth r a b n ∨ wOth r a c n) := by rw [sa.oth sb hn, sa.oth sc hn]
      have e2 : (wNar t a b n ∨ wNar t a c n) = (wNar r a b n ∨ wNar r a c n) := by rw [sa.nar sb hn, sa.nar sc hn]
      have hl : srt r a n = 5 → (gL r 6 (31 * a + n)).toInt ≤ 12 := fun q => ((hM a n ta.1 ta.2 hna).2.2 (srt_5 q)).2
      have e3 : (¬ pl ∧ wDif t a c n) = (¬ pl ∧ wDif r a c n) := by rw [sa.dif sc hn hl]
      have e4 : (wMat t a b n ∨ wMat t a c n) = (wMat r a b n ∨ wMat r a c n) := by rw [sa.mat sb hn, sa.mat sc hn]
      unfold wWhy
      rw [e1]
      by_cases c1 : wOth r a b n ∨ wOth r a c n
      · rw [pif_pos c1, pif_pos c1]
      · rw [pif_neg c1, pif_neg c1, e2, e3, e4]
        have e5 : (srt t a n = 6 ∧ wIn t (wBrk t z) a b c n pl) = (srt r a n = 6 ∧ wIn r (wBrk r z) a b c n pl) := propext (by
          rw [sa.so hn]
          refine and_congr_right (fun h6 => ?_)
          have b6 : hasN r b n → srt r b n = 6 := fun hb => by
            refine Classical.byContradiction (fun q => c1 (Or.inl ⟨hb, fun w => q (by rw [← w]; exact h6)⟩))
          have c6 : hasN r c n → srt r c n = 6 := fun hc => by
            refine Classical.byContradiction (fun q => c1 (Or.inr ⟨hc, fun w => q (by rw [← w]; exact h6)⟩))
          have ia := (inM_lt hM ta hna h6).2
          have ib : hasN r b n → tld r (inM r b n) := fun hb => (inM_lt hM tb hb (b6 hb)).2
          have ic : hasN r c n → tld r (inM r c n) := fun hc => (inM_lt hM tc hc (c6 hc)).2
          exact wIn_same hn sa sb sc (fun q1 q2 p => ih _ _ _ p ⟨ia, ib q2, ic q1⟩) (fun q1 p => ih _ _ _ p ⟨ia, ic q1, ic q1⟩) (fun q2 p => ih _ _ _ p ⟨ia, ib q2, ib q2⟩))
        rw [e5]
    constructor
    · rintro ⟨ht, n, n1, n2, n3, n4⟩
      have n3 := sa.has.mp n3
      exact ⟨h3, n, n1, n2, n3, by rw [← key n n3]; exact n4⟩
    · rintro ⟨ht, n, n1, n2, n3, n4⟩
      exact ⟨⟨(h0 a ta).1, (h0 b tb).1, (h0 c tc).1⟩, n, n1, n2, sa.has.mpr n3, by rw [key n n3]; exact n4⟩
theorem WkC.r {g : CS} {r t : RS} (hM : MkI r) (h0 : ∀ j, tld r j → tld t j ∧ SaM r t j) (h : WkC g r) : WkC g t := fun a b c d ha hb hc hd => by
  have tl : tl3 r a b c → tl3 t a b c := fun q => ⟨(h0 a q.1).1, (h0 b q.2.1).1, (h0 c q.2.2).1⟩
  rcases h a b c d ha hb hc hd with w | ⟨w1, w2⟩ | ⟨w1, w2, w3⟩
  · exact Or.inl w
  · have q : tl3 r a b c := by
      obtain ⟨q, -⟩ := w2
      exact q
    exact Or.inr (Or.inl ⟨w1, (wBrk_same hM h0 _ _ _ _ _ q).mpr w2⟩)
  · exact Or.inr (Or.inr ⟨w1, fun q => w2 ((wBrk_same hM h0 _ _ _ _ _ w3).mp q), tl w3⟩)
theorem WkC.c {g t : CS} {r : RS} (h : WkC g r) (e : qI t 71 = qI g 71) : WkC t r := fun a b c d ha hb hc hd => by
  rw [e]
  exact h a b c d ha hb hc hd
theorem MkK.sam {r t : RS} (h : MkK r t) : ∀ j, tld r j → tld t j ∧ SaM r t j := fun j hj => ⟨⟨hj.1, (h.1 j hj.1 hj.2).1⟩, (h.1 j hj.1 hj.2).2⟩
theorem sam_of {r t : RS} (hK : ∀ k, k ≠ 9 → k < 10 → gF t k = gF r k ∧ gL t k = gL r k) : ∀ j, tld r j → tld t j ∧ SaM r t j := fun j hj => ⟨⟨hj.1, by rw [(hK 0 (by decide) (by decide)).1]; exact hj.2⟩, fun n _ => ⟨by rw [(hK 1 (by decide) (by decide)).1], by rw [(hK 2 (by decide) (by decide)).1], by rw [(hK 3 (by decide) (by decide)).1], by rw [(hK 4 (by decide) (by decide)).1], by rw [(hK 6 (by decide) (by decide)).2], by rw [(hK 8 (by decide) (by decide)).1], fun k _ => by rw [(hK 7 (by decide) (by decide)).1]⟩⟩
theorem kp_10 {r t : RS} (hK : Kp r t) : ∀ k, k ≠ 9 → k < 10 → gF t k = gF r k ∧ gL t k = gL r k := fun k h9 h10 => hK.1.2 k (fun q => by simp [kpF] at q; omega)

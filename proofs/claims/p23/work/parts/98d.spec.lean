/-! a make's text, as both sides take it: where the runs end and what stands there -/
theorem rn_idem (P : Int32 → Prop) (f : Nat → Int32) (n p : Nat) : rn P f n (rn P f n p) = rn P f n p := rn_stop (rn_run P f n p).2.2
def Rs {α : Type} (o : Option α) (G : α → Prop) (B : Prop) : Prop := (∀ x, o = some x → G x) ∧ (o = none → B)
theorem Rs.s {α : Type} {o : Option α} {G : α → Prop} {B : Prop} {x : α} (h : o = some x) (g : G x) : Rs o G B := ⟨fun y hy => by rw [h] at hy; cases hy; exact g, fun hy => by rw [h] at hy; cases hy⟩
theorem Rs.n {α : Type} {o : Option α} {G : α → Prop} {B : Prop} (h : o = none) (b : B) : Rs o G B := ⟨fun y hy => (by rw [h] at hy; cases hy), fun _ => b⟩
theorem Rs.mono {α : Type} {o : Option α} {G G' : α → Prop} {B B' : Prop} (h : Rs o G B) (hg : ∀ x, o = some x → G x → G' x) (hb : B → B') : Rs o G' B' := ⟨fun x hx => hg x hx (h.1 x hx), fun hn => hb (h.2 hn)⟩
/-- a field: number, name from, to, kind, group, inner, default, its text from -/
abbrev FdT := Nat × Nat × Nat × Nat × Nat × Int × Int × Nat
def fNum (x : FdT) : Nat := x.1
def fNa (x : FdT) : Nat := x.2.1
def fNb (x : FdT) : Nat := x.2.2.1
def fKd (x : FdT) : Nat := x.2.2.2.1
def fGr (x : FdT) : Nat := x.2.2.2.2.1
def fIn (x : FdT) : Int := x.2.2.2.2.2.1
def fPv (x : FdT) : Int := x.2.2.2.2.2.2.1
def fTa (x : FdT) : Nat := x.2.2.2.2.2.2.2
def seenN (L : List FdT) (k : Nat) : Prop := ∃ x, x ∈ L ∧ fNum x = k
def seenW (f : Nat → Int32) (L : List FdT) (a b : Nat) : Prop := ∃ x, x ∈ L ∧ fNb x - fNa x = b - a ∧ ∀ j, j < b - a → f (fNa x + j) = f (a + j)
/-- the end of a field -/
noncomputable def clF {α : Type} (f : Nat → Int32) (n p : Nat) (x : α) : Option (α × Nat) := pif (rn blk f n p < n ∧ f (rn blk f n p) = 59) (some (x, rn blk f n p + 1)) none
theorem clF_blk {α : Type} {f : Nat → Int32} {n p : Nat} {x : α} : clF f n (rn blk f n p) x = clF f n p x := by unfold clF; rw [rn_idem]
/-- a default's number at v: its first digit, its value, whether it may be -/
noncomputable def vS (f : Nat → Int32) (n v : Nat) : Nat := pif (v < n ∧ f v = 45) (v + 1) v
noncomputable def vV (f : Nat → Int32) (n v : Nat) : Int := pif (v < n ∧ f v = 45) (- dvN f (vS f n v) (rn dgt f n (vS f n v) - vS f n v)) (dvN f (vS f n v) (rn dgt f n (vS f n v) - vS f n v))
def VlG (f : Nat → Int32) (n v : Nat) (k : Int32) : Prop := DigG f n (vS f n v) ∧ ∃ V, RngG f n (vS f n v) (v < n ∧ f v = 45) k V
/-- perhaps a default, then the end -/
noncomputable def dfF (f : Nat → Int32) (n kd p : Nat) : Option ((Int × Nat) × Nat) :=
  pif (rn blk f n p < n ∧ f (rn blk f n p) = 61 ∧ kd ≠ 6)
    (nam (rn blk f n (rn blk f n p + 1)) (fun v =>
      pif (kd = 5)
        (pif ((v < n ∧ f v = 34) ∧ TxtG f n (v + 1)) (clF f n (rn qtb f n (v + 1) + 1) (((rn qtb f n (v + 1) - (v + 1) : Nat) : Int), v + 1)) none)
        (pif (VlG f n v (Int32.ofNat kd)) (clF f n (rn dgt f n (vS f n v)) (vV f n v, 0)) none)))
    (clF f n p (0, 0))
theorem dfF_blk {f : Nat → Int32} {n kd p : Nat} : dfF f n kd (rn blk f n p) = dfF f n kd p := by unfold dfF; rw [rn_idem, clF_blk]
/-- neither a blank nor = nor ; -/
theorem dfF_no {f : Nat → Int32} {n kd p : Nat} (h : ¬ blk (f p)) (h1 : f p ≠ 61) (h2 : f p ≠ 59) : dfF f n kd p = none := by
  have e : rn blk f n p = p := rn_stop (fun q => h q.2)
  unfold dfF clF
  rw [e, pif_neg (fun q => h1 q.2.1), pif_neg (fun q => h2 q.2)]
/-- the make's number of a rec -/
noncomputable def rcF (f : Nat → Int32) (n m : Nat) (T : Nat → Prop) (p : Nat) : Option (Int × Nat) :=
  nam (rn blk f n p) (fun d => pif ((d < n ∧ dgt (f d) ∧ ¬ (p < n ∧ dgt (f p))) ∧ ((f d).toInt - 48 < m ∧ T ((f d).toInt - 48).toNat) ∧ ¬ (d + 1 < n ∧ dgt (f (d + 1)))) (some ((f d).toInt - 48, d + 1)) none)
/-- perhaps a group -/
noncomputable def gpF (f : Nat → Int32) (n p : Nat) : Option (Nat × Nat) :=
  pif (p < n ∧ ltr (f p)) none (nam (rn blk f n p) (fun g => pif (g < n ∧ ltr (f g))
    (nam (rn ltr f n g) (fun e => nam (rn blk f n e) (fun h => pif (wEq f g e [105, 110] ∧ (h < n ∧ dgt (f h) ∧ ¬ (e < n ∧ dgt (f e))) ∧ 49 ≤ (f h).toInt ∧ (f h).toInt ≤ 51) (some (((f h).toInt - 48).toNat, h + 1)) none)))
    (some (0, p))))
noncomputable def gdF (f : Nat → Int32) (n kd p : Nat) : Option ((Nat × Int × Nat) × Nat) := (gpF f n p).bind (fun y => (dfF f n kd y.2).map (fun z => ((y.1, z.1.1, z.1.2), z.2)))
/-- what is behind the kind's word: kind, group, inner, default, its text from -/
noncomputable def kkF (f : Nat → Int32) (n m : Nat) (T : Nat → Prop) (kd e : Nat) : Option ((Nat × Nat × Int × Int × Nat) × Nat) :=
  pif (kd = 6)
    ((rcF f n m T e).bind (fun y => (gdF f n kd y.2).map (fun z => ((kd, z.1.1, y.1, z.1.2.1, z.1.2.2), z.2))))
    ((gdF f n kd e).map (fun z => ((kd, z.1.1, -1, z.1.2.1, z.1.2.2), z.2)))
noncomputable def kdF (f : Nat → Int32) (n m : Nat) (T : Nat → Prop) (p : Nat) : Option ((Nat × Nat × Int × Int × Nat) × Nat) :=
  nam (rn blk f n p) (fun k0 => nam (rn ltr f n k0) (fun e => pif (kdW f k0 e = 0) none (kkF f n m T (kdW f k0 e) e)))
/-- what is behind the number -/
noncomputable def tlF (f : Nat → Int32) (n m : Nat) (T : Nat → Prop) (L : List FdT) (num e1 : Nat) : Option (FdT × Nat) :=
  nam (rn blk f n e1) (fun w => nam (rn ltr f n w) (fun e2 =>
    pif (1 ≤ e2 - w ∧ e2 - w ≤ 8)
      (pif (wEq f w e2 [103, 111, 110, 101]) (clF f n e2 (num, 0, 0, 0, 0, -1, 0, 0))
        (pif (kdW f w e2 = 0 ∧ ¬ seenW f L w e2) ((kdF f n m T e2).map (fun z => ((num, w, e2, z.1), z.2))) none))
      none))
/-- a field at p -/
noncomputable def flF (f : Nat → Int32) (n m : Nat) (T : Nat → Prop) (L : List FdT) (p : Nat) : Option (FdT × Nat) :=
  nam (rn blk f n p) (fun s => nam (rn dgt f n s) (fun e1 => nam (dvN f s (e1 - s)).toNat (fun num =>
    pif (NumG f n s ∧ ¬ seenN L num) (pif (e1 < n ∧ ltr (f e1)) none (tlF f n m T L num e1)) none)))
/-- a make's text from p on -/
noncomputable def mkF (f : Nat → Int32) (n m : Nat) (T : Nat → Prop) : Nat → List FdT → Nat → Option (List FdT)
  | 0 => fun _ _ => none
  | z + 1 => fun L p => pif (rn blk f n p < n) (pif (L.length = 10) none ((flF f n m T L (rn blk f n p)).bind (fun y => mkF f n m T z (y.1 :: L) y.2))) (some L)
/-- the end of a field: reference -/
theorem r_212 {α : Type} {f : Nat → Int32} {n p : Nat} {st : RS} (x : α) (h : Tx f n p st) (h13 : gI st 13 = 0) : Ok (x9_kinds_212 st) (fun t => Fr [11, 13, 14, 17] [] st t ∧ Rs (clF f n p x) (fun z => z.1 = x ∧ gI t 13 = 0 ∧ Tx f n z.2 t ∧ p < z.2) (gI t 13 ≠ 0)) := by
  unfold x9_kinds_212
  simp only [Ok_pif, Ok_some]
  refine ⟨fun _ => Ok.callv (r_sign h (by decide)) (fun t ht => ?_), fun q => absurd h13 q⟩
  rw [Ok_some]
  obtain ⟨t1, t2⟩ := ht
  refine ⟨t1, ?_⟩
  unfold clF
  rcases t2 with ⟨a1, a2, a3, a4⟩ | ⟨a1, a2, a3⟩
  · exact Rs.s (pif_pos ⟨a1, a2⟩) ⟨rfl, a3.trans h13, a4, by have := rn_ge blk f n p; show p < rn blk f n p + 1; omega⟩
  · exact Rs.n (pif_neg a1) a2
theorem r_212b {st : RS} (h13 : gI st 13 ≠ 0) : Ok (x9_kinds_212 st) (fun t => t = st) := by
  unfold x9_kinds_212
  simp only [Ok_pif, Ok_some]
  exact ⟨fun q => absurd q h13, fun _ => trivial⟩

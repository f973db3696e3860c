/-! the class's heap: what is read behind a write -/
theorem qn_wN (g : CS) (kd n sl : Nat) : qn (wN g kd n sl) = qn g + 1 := rfl
theorem qs_wN (g : CS) (kd n sl : Nat) : qs (wN g kd n sl) = qs g + sl := rfl
theorem qk_wN (g : CS) (kd n sl i : Nat) : qk (wN g kd n sl) i = if i = qn g then kd else qk g i := rfl
theorem ql_wN (g : CS) (kd n sl i : Nat) : ql (wN g kd n sl) i = if i = qn g then n else ql g i := rfl
theorem qI_wN (g : CS) (kd n sl i : Nat) : qI (wN g kd n sl) i = if i = qn g then (fun _ => 0) else qI g i := rfl
theorem qJ_wN (g : CS) (kd n sl i : Nat) : qJ (wN g kd n sl) i = if i = qn g then (fun _ => 0) else qJ g i := rfl
theorem qP_wN (g : CS) (kd n sl i : Nat) : qP (wN g kd n sl) i = if i = qn g then (fun _ => none) else qP g i := rfl
theorem qn_wI (g : CS) (i k : Nat) (v : Int32) : qn (wI g i k v) = qn g := rfl
theorem qs_wI (g : CS) (i k : Nat) (v : Int32) : qs (wI g i k v) = qs g := rfl
theorem qk_wI (g : CS) (i k : Nat) (v : Int32) : qk (wI g i k v) = qk g := rfl
theorem ql_wI (g : CS) (i k : Nat) (v : Int32) : ql (wI g i k v) = ql g := rfl
theorem qJ_wI (g : CS) (i k : Nat) (v : Int32) : qJ (wI g i k v) = qJ g := rfl
theorem qP_wI (g : CS) (i k : Nat) (v : Int32) : qP (wI g i k v) = qP g := rfl
theorem qI_wI (g : CS) (i k : Nat) (v : Int32) (j m : Nat) : qI (wI g i k v) j m = if j = i then (if m = k then v else qI g i m) else qI g j m := by
  show va_up g.2.2.2.1 i (upd (g.2.2.2.1 i) k v) j m = _
  unfold va_up
  by_cases h : j = i
  · rw [if_pos h, if_pos h]; rfl
  · rw [if_neg h, if_neg h]; rfl
theorem qn_wJ (g : CS) (i k : Nat) (v : Int64) : qn (wJ g i k v) = qn g := rfl
theorem qs_wJ (g : CS) (i k : Nat) (v : Int64) : qs (wJ g i k v) = qs g := rfl
theorem qk_wJ (g : CS) (i k : Nat) (v : Int64) : qk (wJ g i k v) = qk g := rfl
theorem ql_wJ (g : CS) (i k : Nat) (v : Int64) : ql (wJ g i k v) = ql g := rfl
theorem qI_wJ (g : CS) (i k : Nat) (v : Int64) : qI (wJ g i k v) = qI g := rfl
theorem qP_wJ (g : CS) (i k : Nat) (v : Int64) : qP (wJ g i k v) = qP g := rfl
theorem qJ_wJ (g : CS) (i k : Nat) (v : Int64) (j m : Nat) : qJ (wJ g i k v) j m = if j = i then (if m = k then v else qJ g i m) else qJ g j m := by
  show va_up g.2.2.2.2.1 i (va_up (g.2.2.2.2.1 i) k v) j m = _
  unfold va_up
  by_cases h : j = i
  · rw [if_pos h, if_pos h]; rfl
  · rw [if_neg h, if_neg h]; rfl
theorem qn_wP (g : CS) (i k : Nat) (v : Option Nat) : qn (wP g i k v) = qn g := rfl
theorem qs_wP (g : CS) (i k : Nat) (v : Option Nat) : qs (wP g i k v) = qs g := rfl
theorem qk_wP (g : CS) (i k : Nat) (v : Option Nat) : qk (wP g i k v) = qk g := rfl
theorem ql_wP (g : CS) (i k : Nat) (v : Option Nat) : ql (wP g i k v) = ql g := rfl
theorem qI_wP (g : CS) (i k : Nat) (v : Option Nat) : qI (wP g i k v) = qI g := rfl
theorem qJ_wP (g : CS) (i k : Nat) (v : Option Nat) : qJ (wP g i k v) = qJ g := rfl
theorem qP_wP (g : CS) (i k : Nat) (v : Option Nat) (j m : Nat) : qP (wP g i k v) j m = if j = i then (if m = k then v else qP g i m) else qP g j m := by
  show va_up g.2.2.2.2.2 i (va_up (g.2.2.2.2.2 i) k v) j m = _
  unfold va_up
  by_cases h : j = i
  · rw [if_pos h, if_pos h]; rfl
  · rw [if_neg h, if_neg h]; rfl
theorem qn_wF (g : CS) (i : Nat) (f : Nat → Int32) : qn (wF g i f) = qn g := rfl
theorem qs_wF (g : CS) (i : Nat) (f : Nat → Int32) : qs (wF g i f) = qs g := rfl
theorem qk_wF (g : CS) (i : Nat) (f : Nat → Int32) : qk (wF g i f) = qk g := rfl
theorem ql_wF (g : CS) (i : Nat) (f : Nat → Int32) : ql (wF g i f) = ql g := rfl
theorem qJ_wF (g : CS) (i : Nat) (f : Nat → Int32) : qJ (wF g i f) = qJ g := rfl
theorem qP_wF (g : CS) (i : Nat) (f : Nat → Int32) : qP (wF g i f) = qP g := rfl
theorem qI_wF (g : CS) (i : Nat) (f : Nat → Int32) (j : Nat) : qI (wF g i f) j = if j = i then f else qI g j := rfl
theorem wI_same {g : CS} {i k : Nat} {v : Int32} (h : qI g i k = v) : wI g i k v = g := by
  obtain ⟨a, b, c, d, e⟩ := g
  show (a, b, c, va_up d i (upd (d i) k v), e) = _
  have h : d i k = v := h
  congr 4
  funext j m
  unfold va_up upd
  by_cases q : j = i
  · rw [if_pos q]
    by_cases q2 : m = k
    · rw [if_pos q2, q, q2, h]
    · rw [if_neg q2, q]
  · rw [if_neg q]
theorem wJ_same {g : CS} {i k : Nat} {v : Int64} (h : qJ g i k = v) : wJ g i k v = g := by
  obtain ⟨a, b, c, d, e, f⟩ := g
  show (a, b, c, d, va_up e i (va_up (e i) k v), f) = _
  have h : e i k = v := h
  congr 5
  funext j m
  unfold va_up
  by_cases q : j = i
  · rw [if_pos q]
    by_cases q2 : m = k
    · rw [if_pos q2, q, q2, h]
    · rw [if_neg q2, q]
  · rw [if_neg q]
theorem gd_T {α : Type} {a : Option α} : gd True a = a := gd_pos trivial
theorem pif_T {α : Type} {a b : α} : pif True a b = a := pif_pos trivial
theorem pif_F {α : Type} {a b : α} : pif False a b = b := pif_neg id
theorem ono_S {β : Type} {i : Nat} {k : Nat → Option β} : ono (some i) k = k i := rfl
theorem nam_x {α β : Type} {x : α} {k : α → Option β} : nam x k = k x := rfl
theorem bnv_S {β σ : Type} {x : σ} {k : σ → Option β} : bnv (some x) k = k x := rfl
/-- a new row -/
theorem n_row {r : Nat} {c : Int32} {st : CS} (h : qk st r = 8) (h1 : qI st r 1 = 0) (hr : r ≠ qn st) (hc : 0 ≤ c.toInt) (hc2 : c.toInt ≤ 1024) : fX5_init r c st = some (wP (wN st 21 c.toNatClampNeg c.toNatClampNeg) r 0 (some (qn st))) := by
  unfold fX5_init fX5_init_4 fX5_init_10 fX5_init_12
  have c0 : ¬ c < 0 := by rw [t_lt]; show ¬ c.toInt < 0; omega
  rw [if_neg c0, gd_pos ⟨c0, by rw [t_nat]; omega⟩]
  simp only [nam_x]
  rw [gd_pos (by rw [qk_wN, if_neg hr]; exact h)]
  congr 1
  refine wI_same ?_
  rw [qI_wP, qI_wN, if_neg hr]
  exact h1
theorem n_piece {p : Nat} {st : CS} (h : qk st p = 5) (h1 : ∀ k, qI st p k = 0) (h2 : ∀ k, qJ st p k = 0) : fX2_init p st = some st := by
  unfold fX2_init
  rw [gd_pos h]
  simp only [nam_x]
  rw [wI_same (h1 0), wI_same (h1 1), wJ_same (h2 2), wI_same (h1 3), wI_same (h1 4), wI_same (h1 5), wI_same (h1 6), wI_same (h1 7)]

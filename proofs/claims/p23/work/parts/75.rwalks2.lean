theorem r_walks92 (st0 : RS) (hM : MkI st0) (P : RS → Prop) (k2 : Int32 → RS → Option RS) (k10 : Int32 → Int32 → RS → Option RS) (k18 : Int32 → Int32 → Int32 → RS → Option RS) (k27 : Int32 → Int32 → Int32 → Int32 → RS → Option RS) (a b c d p : Int32) (ha : mkN st0 a) (hb : mkN st0 b) (hc : mkN st0 c) (d1 : 0 ≤ d.toInt) (d2 : d.toInt < 2) (p1 : 0 ≤ p.toInt) (p2 : p.toInt < 1024)
    (hk : ∀ t, Fr [] [57, 58] st0 t → Ok (k27 a b c (d + 1) t) P) : ∀ (z i : Nat) (x : Int32) (t : RS), x.toInt = i → i ≤ 31 → 31 - i < z → Fr [] [57, 58] st0 t → Ok (x9_walks_92 k2 k10 k18 k27 z a b c d p x t) P := by
  intro z
  induction z with
  | zero => intro i x t h1 h2 h3; omega
  | succ z ih =>
    intro i x t hx hi hz hF
    have e : (x + 1).toInt = x.toInt + 1 := by rw [t_add (by show -2147483648 ≤ x.toInt + 1; omega) (by show x.toInt + 1 < 2147483648; omega)]; rfl
    have e0 : gF t 0 = gF st0 0 := (hF.2 0 (by decide)).1
    have hMt : MkI t := hM.fr e0 (hF.2 1 (by decide)).1 (hF.2 3 (by decide)).1 (hF.2 8 (by decide)).1 (hF.2 6 (by decide)).2
    have ma : mkN t a := ⟨ha.1, ha.2.1, by rw [e0]; exact ha.2.2⟩
    have mb : mkN t b := ⟨hb.1, hb.2.1, by rw [e0]; exact hb.2.2⟩
    have mc : mkN t c := ⟨hc.1, hc.2.1, by rw [e0]; exact hc.2.2⟩
    rw [x9_walks_92_s]
    unfold x9_walks_162
    generalize x + 1 = x' at e ⊢
    simp only [Ok_pif, Ok_gd, Ok_nam, t_in]
    rw [t_le, show (31 : Int32).toInt = 31 from rfl]
    refine ⟨fun _ => hk t hF, fun q => ⟨by omega, fun _ => Ok.bp (r_has ha.1 ha.2.1) (fun hh => ?_) (fun hh => ?_), fun _ => hk t hF⟩⟩
    · simp only [Ok_pif, Ok_nam]
      refine ⟨fun h => absurd h (by decide), fun _ => Ok.call (r_whyOf hMt ma mb mc hh d1 d2) (fun w u hu => ?_)⟩
      have hu : u = t := hu
      subst hu
      simp only [Ok_pif, Ok_gd, Ok_nam, t_in]
      refine ⟨by omega, by omega, fun _ => ⟨by omega, ih (i + 1) x' _ (by omega) (by omega) (by omega) ((hF.sF (by decide)).sF (by decide))⟩, fun _ => ⟨by omega, ih (i + 1) x' _ (by omega) (by omega) (by omega) ((hF.sF (by decide)).sF (by decide))⟩⟩
    · simp only [Ok_pif, Ok_nam]
      exact ⟨fun _ => ih (i + 1) x' t (by omega) (by omega) (by omega) hF, fun h => absurd trivial h⟩
theorem r_walks27 (st0 : RS) (hM : MkI st0) (P : RS → Prop) (k2 : Int32 → RS → Option RS) (k10 : Int32 → Int32 → RS → Option RS) (k18 : Int32 → Int32 → Int32 → RS → Option RS) (a b c : Int32) (a1 : 0 ≤ a.toInt) (a2 : a.toInt < 8) (b1 : 0 ≤ b.toInt) (b2 : b.toInt < 8) (c1 : 0 ≤ c.toInt) (c2 : c.toInt < 8)
    (hk : ∀ t, Fr [] [57, 58] st0 t → Ok (k18 a b (c + 1) t) P) : ∀ (z i : Nat) (x : Int32) (t : RS), x.toInt = i → i ≤ 2 → 2 - i < z → Fr [] [57, 58] st0 t → Ok (x9_walks_27 k2 k10 k18 z a b c x t) P := by
  intro z
  induction z with
  | zero => intro i x t h1 h2 h3; omega
  | succ z ih =>
    intro i x t hx hi hz hF
    have e : (x + 1).toInt = x.toInt + 1 := by rw [t_add (by show -2147483648 ≤ x.toInt + 1; omega) (by show x.toInt + 1 < 2147483648; omega)]; rfl
    rw [x9_walks_27_s]
    simp only [Ok_pif, Ok_nam]
    rw [t_le, show (2 : Int32).toInt = 2 from rfl]
    refine ⟨fun _ => hk t hF, fun q => Ok.call (r_place a1 a2 b1 b2 c1 c2 (by omega) (by omega)) (fun p u hu => ?_)⟩
    obtain ⟨u1, u2⟩ := hu
    have u1 : u = t := u1
    have u2 : p.toInt = _ := u2
    subst u1
    simp only [Ok_gd, Ok_nam, Ok_pif, t_in]
    have hF2 : ∀ f g, Fr [] [57, 58] st0 (sF (sF u 57 f) 58 g) := fun f g => (hF.sF (by decide)).sF (by decide)
    have next : ∀ f g, Ok (x9_walks_27 k2 k10 k18 z a b c (x + 1) (sF (sF u 57 f) 58 g)) P := fun f g => ih (i + 1) (x + 1) _ (by rw [e, hx]; rfl) (by omega) (by omega) (hF2 f g)
    have e0 : gF u 0 = gF st0 0 := (hF.2 0 (by decide)).1
    refine ⟨by omega, by omega, by omega, fun _ => next _ _, fun t1 => ⟨by omega, fun _ => next _ _, fun t2 => ⟨by omega, fun _ => next _ _, fun t3 => ?_⟩⟩⟩
    refine r_walks92 st0 hM P k2 k10 k18 (x9_walks_27 k2 k10 k18 z) a b c x p ⟨a1, a2, by rw [← e0]; exact t1⟩ ⟨b1, b2, by rw [← e0]; exact t2⟩ ⟨c1, c2, by rw [← e0]; exact t3⟩ (by omega) (by omega) (by omega) (by omega) (fun w hw => ih (i + 1) (x + 1) w (by rw [e, hx]; rfl) (by omega) (by omega) hw) fuel 1 1 _ rfl (by omega) (by unfold fuel; omega) (hF2 _ _)
theorem r_walks18 (st0 : RS) (hM : MkI st0) (P : RS → Prop) (k2 : Int32 → RS → Option RS) (k10 : Int32 → Int32 → RS → Option RS) (a b : Int32) (a1 : 0 ≤ a.toInt) (a2 : a.toInt < 8) (b1 : 0 ≤ b.toInt) (b2 : b.toInt < 8)
    (hk : ∀ t, Fr [] [57, 58] st0 t → Ok (k10 a (b + 1) t) P) : ∀ (z i : Nat) (x : Int32) (t : RS), x.toInt = i → i ≤ 8 → 8 - i < z → Fr [] [57, 58] st0 t → Ok (x9_walks_18 k2 k10 z a b x t) P := by
  intro z
  induction z with
  | zero => intro i x t h1 h2 h3; omega
  | succ z ih =>
    intro i x t hx hi hz hF
    have e : (x + 1).toInt = x.toInt + 1 := by rw [t_add (by show -2147483648 ≤ x.toInt + 1; omega) (by show x.toInt + 1 < 2147483648; omega)]; rfl
    rw [x9_walks_18_s]
    simp only [Ok_pif, Ok_nam]
    rw [t_le, show (8 : Int32).toInt = 8 from rfl]
    exact ⟨fun _ => hk t hF, fun q => r_walks27 st0 hM P k2 k10 (x9_walks_18 k2 k10 z) a b x a1 a2 b1 b2 (by omega) (by omega) (fun w hw => ih (i + 1) (x + 1) w (by rw [e, hx]; rfl) (by omega) (by omega) hw) fuel 0 0 t rfl (by omega) (by unfold fuel; omega) hF⟩
theorem r_walks10 (st0 : RS) (hM : MkI st0) (P : RS → Prop) (k2 : Int32 → RS → Option RS) (a : Int32) (a1 : 0 ≤ a.toInt) (a2 : a.toInt < 8)
    (hk : ∀ t, Fr [] [57, 58] st0 t → Ok (k2 (a + 1) t) P) : ∀ (z i : Nat) (x : Int32) (t : RS), x.toInt = i → i ≤ 8 → 8 - i < z → Fr [] [57, 58] st0 t → Ok (x9_walks_10 k2 z a x t) P := by
  intro z
  induction z with
  | zero => intro i x t h1 h2 h3; omega
  | succ z ih =>
    intro i x t hx hi hz hF
    have e : (x + 1).toInt = x.toInt + 1 := by rw [t_add (by show -2147483648 ≤ x.toInt + 1; omega) (by show x.toInt + 1 < 2147483648; omega)]; rfl
    rw [x9_walks_10_s]
    simp only [Ok_pif, Ok_nam]
    rw [t_le, show (8 : Int32).toInt = 8 from rfl]
    exact ⟨fun _ => hk t hF, fun q => r_walks18 st0 hM P k2 (x9_walks_10 k2 z) a x a1 a2 (by omega) (by omega) (fun w hw => ih (i + 1) (x + 1) w (by rw [e, hx]; rfl) (by omega) (by omega) hw) fuel 0 0 t rfl (by omega) (by unfold fuel; omega) hF⟩
theorem r_walks2 (st0 : RS) (hM : MkI st0) : ∀ (z i : Nat) (x : Int32) (t : RS), x.toInt = i → i ≤ 8 → 8 - i < z → Fr [] [57, 58] st0 t → Ok (x9_walks_2 z x t) (fun t => Fr [] [57, 58] st0 t) := by
  intro z
  induction z with
  | zero => intro i x t h1 h2 h3; omega
  | succ z ih =>
    intro i x t hx hi hz hF
    have e : (x + 1).toInt = x.toInt + 1 := by rw [t_add (by show -2147483648 ≤ x.toInt + 1; omega) (by show x.toInt + 1 < 2147483648; omega)]; rfl
    rw [x9_walks_2_s]
    simp only [Ok_pif, Ok_some]
    rw [t_le, show (8 : Int32).toInt = 8 from rfl]
    exact ⟨fun _ => hF, fun q => r_walks10 st0 hM _ (x9_walks_2 z) x (by omega) (by omega) (fun w hw => ih (i + 1) (x + 1) w (by rw [e, hx]; rfl) (by omega) (by omega) hw) fuel 0 0 t rfl (by omega) (by unfold fuel; omega) hF⟩
theorem r_walks {st : RS} (hM : MkI st) : Ok (x9_walks st) (fun t => Fr [] [57, 58] st t) := r_walks2 st hM fuel 0 0 st rfl (by omega) (by unfold fuel; omega) Fr.rf
theorem r_readers18 (st : RS) (m : Int32) (m1 : 0 ≤ m.toInt) (m2 : m.toInt < 8) : ∀ (z i : Nat) (y x : Int32), x.toInt = i → i ≤ 8 → 8 - i < z → Ok (x9_readers_18 z m y x st) (fun q => q.2 = st) := by
  intro z
  induction z with
  | zero => intro i y x h1 h2 h3; omega
  | succ z ih =>
    intro i y x hx hi hz
    have e : (x + 1).toInt = x.toInt + 1 := by rw [t_add (by show -2147483648 ≤ x.toInt + 1; omega) (by show x.toInt + 1 < 2147483648; omega)]; rfl
    rw [x9_readers_18_s]
    generalize x + 1 = x' at e ⊢
    simp only [Ok_pif, Ok_nam, Ok_some, Ok_gd, t_in]
    rw [t_le, show (8 : Int32).toInt = 8 from rfl]
    refine ⟨fun _ => trivial, fun q => ⟨by omega, fun _ => ih (i + 1) _ x' (by omega) (by omega) (by omega), fun _ => Ok.call (r_place (by omega) (by omega) m1 m2 m1 m2 (by decide) (by decide)) (fun p u hu => ?_)⟩⟩
    obtain ⟨u1, u2⟩ := hu
    have u1 : u = st := u1
    have u2 : p.toInt = _ := u2
    have z0 : (0 : Int32).toInt = 0 := rfl
    subst u1
    simp only [Ok_pif, Ok_nam, Ok_gd, t_in]
    exact ⟨by omega, fun _ => ih (i + 1) _ x' (by omega) (by omega) (by omega), fun _ => ih (i + 1) _ x' (by omega) (by omega) (by omega)⟩
theorem r_readers {m : Int32} {st : RS} (hI : RI st) : Ok (x9_readers m st) (fun q => Kp st q.2) := by
  unfold x9_readers
  refine Ok.bp r_isMake (fun hm => ?_) (fun _ => ?_)
  case refine_2 => simp only [Ok_pif, Ok_some]; exact ⟨fun _ => Kp.rf hI.2.1, fun h => absurd trivial h⟩
  simp only [Ok_pif, Ok_some]
  refine ⟨fun h => absurd h (by decide), fun _ => Ok.callv (r_walks hI.1) (fun t ht => ?_)⟩
  refine (r_readers18 t m hm.1 hm.2.1 fuel 0 0 0 rfl (by omega) (by unfold fuel; omega)).mono (fun q hq => ?_)
  rw [hq]
  exact ⟨ht.d (by decide) (by decide), hI.2.1.fr (ht.2 29 (by decide)).1⟩

/-! the class's reader: an E -/
theorem zcsg_app {f g : Nat → Int32} : ∀ (a b : List zTok) (c : Nat), zcsg f g c (a ++ b) ↔ zcsg f g c a ∧ zcsg f g (c + a.length) b := by
  intro a
  induction a with
  | nil => intro b c; exact ⟨fun h => ⟨trivial, h⟩, fun h => h.2⟩
  | cons q a ih =>
    obtain ⟨k, v⟩ := q
    intro b c
    simp only [List.cons_append, zcsg, List.length_cons, ih, and_assoc]
    rw [show c + 1 + a.length = c + (a.length + 1) by omega]
theorem zcsg_agree {f g f' g' : Nat → Int32} : ∀ (l : List zTok) (c : Nat), (∀ j, c ≤ j → j < c + l.length → f' j = f j ∧ g' j = g j) → zcsg f g c l → zcsg f' g' c l := by
  intro l
  induction l with
  | nil => intro c _ _; trivial
  | cons q l ih =>
    obtain ⟨k, w⟩ := q
    intro c h hs
    simp only [List.length_cons] at h
    obtain ⟨h1, h2⟩ := h c (Nat.le_refl _) (by omega)
    exact ⟨h1.trans hs.1, fun z => h2.trans (hs.2.1 z), ih (c + 1) (fun j p q => h j (by omega) (by omega)) hs.2.2⟩
/-- code put out from sz on -/
def zcO (I : zI) (u sz : Nat) (out : List zTok) : Prop := I (u + 1) 0 = nI (sz + out.length) ∧ zcsg (I (u + 1 + 1)) (I (u + 1 + 2)) sz out
/-- what an E may write -/
def zfrE (u sz : Nat) (I I' : zI) : Prop := (∀ a, a ≠ 2 → a ≠ 29 → a ≠ u + 1 → a ≠ u + 1 + 1 → a ≠ u + 1 + 2 → I' a = I a) ∧ (∀ k, k ∉ [1, 3, 4, 5, 6, 14, 15] → I' 2 k = I 2 k) ∧ ∀ j, j < sz → I' (u + 1 + 1) j = I (u + 1 + 1) j ∧ I' (u + 1 + 2) j = I (u + 1 + 2) j
theorem zfrE.rf {u sz : Nat} {I : zI} : zfrE u sz I I := ⟨fun _ _ _ _ _ _ => rfl, fun _ _ => rfl, fun _ _ => ⟨rfl, rfl⟩⟩
theorem zfrE.tr {u sz : Nat} {I I' I'' : zI} (h1 : zfrE u sz I I') (h2 : zfrE u sz I' I'') : zfrE u sz I I'' := ⟨fun a p1 p2 p3 p4 p5 => (h2.1 a p1 p2 p3 p4 p5).trans (h1.1 a p1 p2 p3 p4 p5), fun k p => (h2.2.1 k p).trans (h1.2.1 k p), fun j hj => ⟨((h2.2.2 j hj).1).trans (h1.2.2 j hj).1, ((h2.2.2 j hj).2).trans (h1.2.2 j hj).2⟩⟩
theorem zfrE.mono {u sz sz' : Nat} {I I' : zI} (h : zfrE u sz I I') (hs : sz' ≤ sz) : zfrE u sz' I I' := ⟨h.1, h.2.1, fun j hj => h.2.2 j (by omega)⟩
theorem zfrE.f2 {u sz : Nat} {F : List Nat} {I I' : zI} (hu : u = 3 ∨ u = 30) (h : zf2 F I I') (hF : ∀ k ∈ F, k ∈ [1, 3, 4, 5, 6, 14, 15]) : zfrE u sz I I' := ⟨fun a p1 _ _ _ _ => h.1 a p1, fun k p => h.2 k (fun q => p (hF k q)), fun j _ => ⟨by rw [h.1 _ (by omega)], by rw [h.1 _ (by omega)]⟩⟩
theorem zminus1 (x : Int32) : x + (-1) = x - 1 := (Int32.sub_eq_add_neg x 1).symm
theorem zbindI : ∀ k, k < 256 → zbind (nI k) = nI (zbn k) := by decide +kernel
theorem zbn_le (k : Nat) : zbn k ≤ 2 := by unfold zbn; (repeat' split) <;> omega
theorem zcod_oc {x : Nat} (h : 0 < zbn x) : zcod (zoc x) = x := by
  have : x = 42 ∨ x = 43 ∨ x = 45 ∨ x = 47 := by
    unfold zbn at h
    split at h
    · omega
    · split at h
      · omega
      · omega
  rcases this with rfl | rfl | rfl | rfl <;> rfl
section
variable {d : Nat} {Z : zZ} {I I' : zI} {J : zJ} {t u sz : Nat} {K P V W : Nat → Nat} {out : List zTok} {w : List Nat} {o : zO}
theorem C_addO (hL : zLY Z t u) (h : zcO I u sz out) (hs : sz + out.length < 401) {k : Nat} {v x y : Int32} (hx : x = nI (zcod k)) (hy : k < 2 → y = v) :
    ∃ I', zE (d + 1) kX2_add 0 [some (.ref (u + 1)), some (.int x), some (.int y)] [] Z I J (none, Z, I', J) ∧ zcO I' u sz (out ++ [(k, v)]) ∧ (∀ a, a ≠ u + 1 → a ≠ u + 1 + 1 → a ≠ u + 1 + 2 → I' a = I a) ∧ ∀ j, j < sz + out.length → I' (u + 1 + 1) j = I (u + 1 + 1) j ∧ I' (u + 1 + 2) j = I (u + 1 + 2) j := by
  obtain ⟨h1, h2⟩ := h
  refine ⟨zu (zu (zu I (u + 1 + 1) (sz + out.length) x) (u + 1 + 2) (sz + out.length) y) (u + 1) 0 (nI (sz + out.length + 1)), BX2_add_0 _ _ (zTx_l (ly_ux hL)) (fun I1 e1 I2 e2 I3 e3 => ?_), ⟨?_, (zcsg_app _ _ _).mpr ⟨zcsg_agree _ _ (fun j p q => ⟨?_, ?_⟩) h2, ⟨?_, fun z => ?_, trivial⟩⟩⟩, fun a p1 p2 p3 => by rw [zu_ne p1, zu_ne p3, zu_ne p2], fun j hj => ⟨?_, ?_⟩⟩
  · rw [h1, zptI (by omega) (by decide)] at e1
    have g1 : I1 (u + 1) 0 = nI (sz + out.length) := by rw [e1, zu_ne (by omega)]; exact h1
    rw [g1, zptI (by omega) (by decide), e1] at e2
    have g2 : I2 (u + 1) 0 = nI (sz + out.length) := by rw [e2, zu_ne (by omega), zu_ne (by omega)]; exact h1
    rw [g2, zadd1, e2] at e3
    rw [e3]
  · rw [zu_eq]; simp only [List.length_append, List.length_cons, List.length_nil]; rfl
  · rw [zu_ne (by omega), zu_ne (by omega), zu_k (by omega)]
  · rw [zu_ne (by omega), zu_k (by omega), zu_ne (by omega)]
  · rw [zu_ne (by omega), zu_ne (by omega), zu_eq]; exact hx
  · rw [zu_ne (by omega), zu_eq]; exact hy z
  · rw [zu_ne (by omega), zu_ne (by omega), zu_k (by omega)]
  · rw [zu_ne (by omega), zu_k (by omega), zu_ne (by omega)]
theorem C_addAny (hL : zLY Z t u) (x y : Int32) : ∃ I', zE (d + 1) kX2_add 0 [some (.ref (u + 1)), some (.int x), some (.int y)] [] Z I J (none, Z, I', J) ∧ ∀ a, a ≠ u + 1 → a ≠ u + 1 + 1 → a ≠ u + 1 + 2 → I' a = I a := by
  refine ⟨_, BX2_add_0 _ _ (zTx_l (ly_ux hL)) (fun I1 e1 I2 e2 I3 e3 => by rw [e3, e2, e1]), fun a p1 p2 p3 => ?_⟩
  rw [zu_ne p1]
  funext k
  rw [zpt_a p3, zpt_a p2]
/-- the operators that wait, in the class -/
def zSt1 (I : zI) (w : List Nat) : Prop := I 2 14 = nI w.length ∧ zpile (I 29) (w.map nI)
theorem zpile_tl {f : Nat → Int32} {x : Int32} {s : List Int32} (h : zpile f (x :: s)) : zpile f s := h.2
theorem C_release (hL : zLY Z t u) (hu : u = 3 ∨ u = 30) {b : Nat} (hb : 1 ≤ b) (hb2 : b < 256) : ∀ (w : List Nat) (I : zI) (out : List zTok), zSt1 I w → w.length ≤ 20 → (∀ x ∈ w, x < 256) → zcO I u sz out → sz + out.length + znop w ≤ 400 →
    ∃ I', zE (d + 2) kX5_release 7 [some (.ref 2), some (.int (nI b)), some (.int (nI w.length - 1))] [] Z I J (none, Z, I', J) ∧ zSt1 I' (zrel b w).2 ∧ zcO I' u sz (out ++ (zrel b w).1) ∧ ((∀ a, a ≠ 2 → a ≠ u + 1 → a ≠ u + 1 + 1 → a ≠ u + 1 + 2 → I' a = I a) ∧ ∀ k, k ≠ 14 → I' 2 k = I 2 k) ∧ ∀ j, j < sz → I' (u + 1 + 1) j = I (u + 1 + 1) j ∧ I' (u + 1 + 2) j = I (u + 1 + 2) j := by
  intro w
  induction w with
  | nil =>
    intro I out hS _ _ hO _
    refine ⟨I, BX5_release_7 _ _ hL ⟨fun _ => rfl, fun q => absurd (by decide) q⟩, hS, by show zcO I u sz (out ++ []); rw [List.append_nil]; exact hO, ⟨fun _ _ _ _ _ => rfl, fun _ _ => rfl⟩, fun _ _ => ⟨rfl, rfl⟩⟩
  | cons x w ih =>
    intro I out hS hlen hx hO hsz
    obtain ⟨s1, s2⟩ := hS
    simp only [List.length_cons] at hlen s1
    have hx0 := hx x List.mem_cons_self
    have ea : zat I 29 20 (nI w.length) = nI x := by
      rw [zatI (by omega) (by decide)]
      have := s2.1
      rwa [List.length_map] at this
    have e1 : nI (x :: w).length - 1 = nI w.length := by rw [List.length_cons, zsub1]
    rw [e1]
    have n0 : ¬ nI w.length < 0 := zneg (by omega)
    have hbx := zbn_le x
    have eb : zbind (zat I 29 20 (nI w.length)) < nI b ↔ zbn x < b := by rw [ea, zbindI x hx0, zlt (by omega) (by omega)]
    by_cases c : b ≤ zbn x
    · rw [zrel_go c]
      have hnop : znop (x :: w) = znop w + 1 := by simp only [znop]; rw [if_pos (by omega)]; omega
      rw [hnop] at hsz
      obtain ⟨I1, a1, a2, a3, a4⟩ := C_addO (d := d) (J := J) hL hO (by omega) (k := zoc x) (v := 0) (x := nI x) (y := 0) (by rw [zcod_oc (by omega)]) (fun _ => rfl)
      have f1 : I1 2 = I 2 := a3 2 (by omega) (by omega) (by omega)
      have hS' : zSt1 (zu I1 2 14 (nI w.length)) w := ⟨zu_eq, by rw [zu_ne (by decide), a3 29 (by omega) (by omega) (by omega)]; exact s2.2⟩
      obtain ⟨I', r1, r2, r3, ⟨r4, r5⟩, r6⟩ := ih (zu I1 2 14 (nI w.length)) (out ++ [(zoc x, 0)]) hS' (by omega) (fun y hy => hx y (List.mem_cons_of_mem _ hy)) ⟨by rw [zu_ne (by omega)]; exact a2.1, by rw [zu_ne (by omega), zu_ne (by omega)]; exact a2.2⟩ (by simp only [List.length_append, List.length_cons, List.length_nil]; omega)
      refine ⟨I', BX5_release_7 _ _ hL ⟨fun q => absurd q n0, fun _ => ⟨fun q => absurd (eb.mp q) (by omega), fun _ => ⟨I1, by rw [ea]; exact a1, fun I2 e2 => ?_⟩⟩⟩, r2, by rw [List.append_assoc] at r3; exact r3, ⟨fun a p1 p2 p3 p4 => by rw [r4 a p1 p2 p3 p4, zu_ne p1, a3 a p2 p3 p4], fun k hk => by rw [r5 k hk, zu_k hk, f1]⟩, fun j hj => ⟨by rw [(r6 j hj).1, zu_ne (by omega), (a4 j (by omega)).1], by rw [(r6 j hj).2, zu_ne (by omega), (a4 j (by omega)).2]⟩⟩
      rw [f1, s1, zsub1] at e2
      rw [e2, zminus1]; exact r1
    · rw [zrel_stop c]
      refine ⟨I, BX5_release_7 _ _ hL ⟨fun q => absurd q n0, fun _ => ⟨fun _ => rfl, fun q => absurd (eb.mpr (by omega)) q⟩⟩, ⟨by rw [List.length_cons]; exact s1, s2⟩, by show zcO I u sz (out ++ []); rw [List.append_nil]; exact hO, ⟨fun _ _ _ _ _ => rfl, fun _ _ => rfl⟩, fun _ _ => ⟨rfl, rfl⟩⟩
theorem C_relAny (hL : zLY Z t u) (hu : u = 3 ∨ u = 30) {b : Int32} : ∀ (n : Nat) (I : zI), n < 1000 → ∃ I', zE (d + 2) kX5_release 7 [some (.ref 2), some (.int b), some (.int (nI n - 1))] [] Z I J (none, Z, I', J) ∧ (∀ a, a ≠ 2 → a ≠ u + 1 → a ≠ u + 1 + 1 → a ≠ u + 1 + 2 → I' a = I a) ∧ ∀ k, k ≠ 14 → I' 2 k = I 2 k := by
  intro n
  induction n with
  | zero => intro I _; exact ⟨I, BX5_release_7 _ _ hL ⟨fun _ => rfl, fun q => absurd (by decide) q⟩, fun _ _ _ _ _ => rfl, fun _ _ => rfl⟩
  | succ n ih =>
    intro I hn
    rw [zsub1]
    have n0 : ¬ nI n < 0 := zneg (by omega)
    by_cases c : zbind (zat I 29 20 (nI n)) < b
    · exact ⟨I, BX5_release_7 _ _ hL ⟨fun q => absurd q n0, fun _ => ⟨fun _ => rfl, fun q => absurd c q⟩⟩, fun _ _ _ _ _ => rfl, fun _ _ => rfl⟩
    · obtain ⟨I1, a1, a2⟩ := C_addAny (d := d) (I := I) (J := J) hL (zat I 29 20 (nI n)) 0
      obtain ⟨I', r1, r2, r3⟩ := ih (zu I1 2 14 ((I1 2 14) - 1)) (by omega)
      exact ⟨I', BX5_release_7 _ _ hL ⟨fun q => absurd q n0, fun _ => ⟨fun q => absurd q c, fun _ => ⟨I1, a1, fun I2 e2 => by rw [e2, zminus1]; exact r1⟩⟩⟩, fun a p1 p2 p3 p4 => by rw [r2 a p1 p2 p3 p4, zu_ne p1, a2 a p2 p3 p4], fun k hk => by rw [r3 k hk, zu_k hk, a2 2 (by omega) (by omega) (by omega)]⟩
theorem C_lineUp (hL : zLY Z t u) (hS : zSt1 I w) (hw : w.length < 20) {x : Nat} : ∃ I', zE (d + 1) kX5_lineUp 0 [some (.ref 2), some (.int (nI x))] [] Z I J (none, Z, I', J) ∧ zSt1 I' (x :: w) ∧ (∀ a, a ≠ 2 → a ≠ 29 → I' a = I a) ∧ ∀ k, k ≠ 14 → I' 2 k = I 2 k := by
  obtain ⟨s1, s2⟩ := hS
  refine ⟨zu (zu I 29 w.length (nI x)) 2 14 (nI (w.length + 1)), BX5_lineUp_0 _ hL (fun I1 e1 I2 e2 => ?_), ⟨by rw [zu_eq, List.length_cons], ?_⟩, fun a p1 p2 => by rw [zu_ne p1, zu_ne p2], fun k hk => by rw [zu_k hk, zu_ne (by decide)]⟩
  · rw [s1, zptI hw (by decide)] at e1
    rw [e1, zu_ne (by decide), s1, zadd1] at e2
    rw [e2]
  · rw [zu_ne (by decide), List.map_cons]
    exact ⟨by rw [List.length_map, zu_eq], zpile_upd s2 (by rw [List.length_map]; exact Nat.le_refl _)⟩
theorem C_lineAny (hL : zLY Z t u) {n : Nat} (hS : I 2 14 = nI n) {x : Int32} : ∃ I', zE (d + 1) kX5_lineUp 0 [some (.ref 2), some (.int x)] [] Z I J (none, Z, I', J) ∧ I' 2 14 = nI (n + 1) ∧ (∀ a, a ≠ 2 → a ≠ 29 → I' a = I a) ∧ ∀ k, k ≠ 14 → I' 2 k = I 2 k := by
  refine ⟨_, BX5_lineUp_0 _ hL (fun I1 e1 I2 e2 => by rw [e2, e1]), ?_, fun a p1 p2 => ?_, fun k hk => ?_⟩
  · rw [zu_eq, zpt_a (by decide), hS, zadd1]
  · rw [zu_ne p1]; funext k; rw [zpt_a p2]
  · rw [zu_k hk, zpt_a (by decide)]
end

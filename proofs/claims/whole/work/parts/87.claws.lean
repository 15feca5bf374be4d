/-! a LAW: pure; the class's reader -/
def zrt {α : Type} (x : Except (Nat × Nat) (Nat × α)) : zRt := match x with
  | .error e => .error e
  | .ok q => .ok q.1
def zxa (x : Except (Nat × Nat) (Nat × List zTok)) : List zTok := match x with
  | .error _ => []
  | .ok q => q.2
/-- an IF: where the reader stands behind its ELSE, and its three parts -/
def zlif (K V : Nat → Nat) (r : zRt) : zRt × List zTok × List zTok × List zTok :=
  (ztk K 138 (zrt (zxR K V (ztk K 137 (zrt (zxR K V (ztk K 60 (zrt (zxR K V r)))))))), zxa (zxR K V r), zxa (zxR K V (ztk K 60 (zrt (zxR K V r)))), zxa (zxR K V (ztk K 137 (zrt (zxR K V (ztk K 60 (zrt (zxR K V r))))))))
def zlend (K V : Nat → Nat) (t : Nat) : Except (Nat × Nat) (Nat × zLaw) := match zxr K V t with
  | .error e => .error e
  | .ok q => .ok (q.1, ([], q.2))
def zlawp (K V : Nat → Nat) : Nat → Nat → Except (Nat × Nat) (Nat × zLaw)
  | 0, t => if K t = 136 then .error (2, t) else zlend K V t
  | f + 1, t => if K t = 136 then (match (zlif K V (zgn t)).1 with
      | .error e => .error e
      | .ok t4 => match zlawp K V f t4 with
        | .error e => .error e
        | .ok q => .ok (q.1, ((zlif K V (zgn t)).2 :: q.2.1, q.2.2))) else zlend K V t
def zlawR (K V : Nat → Nat) (r : zRt) : Except (Nat × Nat) (Nat × zLaw) := match ztk K 61 r with
  | .error e => .error e
  | .ok t => zlawp K V 4 t
/-- how long a LAW's code is in the class -/
def zcln : List (List zTok × List zTok × List zTok) → List zTok → Nat
  | [], e => e.length + 1
  | (a1, a2, a3) :: t, e => a1.length + a2.length + 1 + a3.length + 1 + zcln t e
theorem zrt_ok {α : Type} {x : Except (Nat × Nat) (Nat × α)} {t : Nat} (h : zrt x = .ok t) : ∃ a, x = .ok (t, a) := by
  cases x with
  | error e => exact absurd h (by simp [zrt])
  | ok q => obtain ⟨a, b⟩ := q; simp only [zrt] at h; cases h; exact ⟨b, rfl⟩
theorem zclw_agree {f g f' g' : Nat → Int32} : ∀ (t : List (List zTok × List zTok × List zTok)) (c : Nat) (e : List zTok), (∀ j, c ≤ j → j < c + zcln t e → f' j = f j ∧ g' j = g j) → zclw f g c t e → zclw f' g' c t e := by
  intro t
  induction t with
  | nil =>
    intro c e h hs
    simp only [zcln] at h
    obtain ⟨h1, h2, h3⟩ := hs
    exact ⟨zcsg_agree _ _ (fun j p q => h j p (by omega)) h1, (h _ (by omega) (by omega)).1.trans h2, h3⟩
  | cons q t ih =>
    obtain ⟨a1, a2, a3⟩ := q
    intro c e h hs
    simp only [zcln] at h
    obtain ⟨h1, h2, h3, h4, h5, h6, h7⟩ := hs
    exact ⟨zcsg_agree _ _ (fun j p q => h j p (by omega)) h1, zcsg_agree _ _ (fun j p q => h j (by omega) (by omega)) h2, (h _ (by omega) (by omega)).1.trans h3, (h _ (by omega) (by omega)).2.trans h4, zcsg_agree _ _ (fun j p q => h j (by omega) (by omega)) h5, (h _ (by omega) (by omega)).1.trans h6, ih _ _ (fun j p q => h j (by omega) (by omega)) h7⟩
section
variable {d : Nat} {Z : zZ} {I I' : zI} {J : zJ} {t u t0 sz op f c : Nat} {K P V W : Nat → Nat} {out : List zTok} {w : List Nat} {o : zO} {r : zRt}
theorem C_addU (hL : zLY Z t u) (x y : Int32) : ∃ I', zE (d + 1) kX2_add 0 [some (.ref (u + 1)), some (.int x), some (.int y)] [] Z I J (none, Z, I', J) ∧ (∀ a, a ≠ u + 1 → a ≠ u + 1 + 1 → a ≠ u + 1 + 2 → I' a = I a) ∧ ∀ s, I (u + 1) 0 = nI s → s < 401 → I' = zu (zu (zu I (u + 1 + 1) s x) (u + 1 + 2) s y) (u + 1) 0 (nI (s + 1)) := by
  by_cases h : ∃ s, I (u + 1) 0 = nI s ∧ s < 401
  · obtain ⟨s, h1, h2⟩ := h
    refine ⟨zu (zu (zu I (u + 1 + 1) s x) (u + 1 + 2) s y) (u + 1) 0 (nI (s + 1)), BX2_add_0 _ _ (zTx_l (ly_ux hL)) (fun I1 e1 I2 e2 I3 e3 => ?_), fun a p1 p2 p3 => by rw [zu_ne p1, zu_ne p3, zu_ne p2], fun s' q1 q2 => ?_⟩
    · rw [h1, zptI h2 (by decide)] at e1
      have g1 : I1 (u + 1) 0 = nI s := by rw [e1, zu_ne (by omega)]; exact h1
      rw [g1, zptI h2 (by decide), e1] at e2
      have g2 : I2 (u + 1) 0 = nI s := by rw [e2, zu_ne (by omega), zu_ne (by omega)]; exact h1
      rw [g2, zadd1, e2] at e3
      rw [e3]
    · rw [h1, zeq (by omega) (by omega)] at q1
      rw [q1]
  · obtain ⟨I', a1, a2⟩ := C_addAny (d := d) (I := I) (J := J) hL x y
    exact ⟨I', a1, a2, fun s q1 q2 => absurd ⟨s, q1, q2⟩ h⟩
theorem C_aimU (hL : zLY Z t u) (x : Int32) : ∃ I', zE (d + 1) kX2_aim 0 [some (.ref (u + 1)), some (.int x)] [] Z I J (none, Z, I', J) ∧ (∀ a, a ≠ u + 1 + 2 → I' a = I a) ∧ ∀ q s, x = nI q → q < 401 → I (u + 1) 0 = nI s → I' = zu I (u + 1 + 2) q (nI s) := by
  refine ⟨zpt I (u + 1 + 2) 401 x (I (u + 1) 0), BX2_aim_0 _ (zTx_l (ly_ux hL)) (fun I1 e1 => by rw [e1]), fun a p => ?_, fun q s e1 e2 e3 => ?_⟩
  · funext k; rw [zpt_a p]
  · rw [e1, zptI e2 (by decide), e3]
/-- what a LAW's reader may write -/
def zfrR (u : Nat) (I I' : zI) : Prop := (∀ a, a ≠ 2 → a ≠ 29 → a ≠ u + 1 → a ≠ u + 1 + 1 → a ≠ u + 1 + 2 → I' a = I a) ∧ ∀ k, k ∉ [1, 3, 4, 5, 6, 14, 15] → I' 2 k = I 2 k
theorem zfrR.tr {I'' : zI} (h1 : zfrR u I I') (h2 : zfrR u I' I'') : zfrR u I I'' := ⟨fun a p1 p2 p3 p4 p5 => (h2.1 a p1 p2 p3 p4 p5).trans (h1.1 a p1 p2 p3 p4 p5), fun k p => (h2.2 k p).trans (h1.2 k p)⟩
theorem zfrR.f2 {F : List Nat} (h : zf2 F I I') (hF : ∀ k ∈ F, k ∈ [1, 3, 4, 5, 6, 14, 15]) : zfrR u I I' := ⟨fun a p1 _ _ _ _ => h.1 a p1, fun k p => h.2 k (fun q => p (hF k q))⟩
theorem zfrR.F {ok : Prop} (h : zfrF u sz ok I I') : zfrR u I I' := ⟨h.1, h.2.1⟩
theorem zfrR.add (hu : u = 3 ∨ u = 30) (h : ∀ a, a ≠ u + 1 → a ≠ u + 1 + 1 → a ≠ u + 1 + 2 → I' a = I a) : zfrR u I I' := ⟨fun a _ _ p3 p4 p5 => h a p3 p4 p5, fun k _ => by rw [h 2 (by omega) (by omega) (by omega)]⟩
theorem zCt.rw (h : zCt I K P r) (h2 : I' 2 = I 2) : zCt I' K P r := by
  cases r with
  | error e => exact ⟨h.1, by rw [h2]; exact h.2.1, by rw [h2]; exact h.2.2⟩
  | ok t0 => exact ⟨h.1, by rw [h2]; exact h.2.1, by rw [h2]; exact h.2.2.1, by rw [h2]; exact h.2.2.2.1, by rw [h2]; exact h.2.2.2.2⟩
theorem zEr.rt {res : Except (Nat × Nat) (Nat × List zTok)} (h : zEr I u K P sz res) : zCt I K P (zrt res) := by
  cases res with
  | error e => exact h
  | ok q => exact h.1
theorem zTC.R (hu : u = 3 ∨ u = 30) (h : zTC I J K P V W) (hf : zfrR u I I') : zTC I' J K P V W := h.same (fun a p q => hf.1 a (by omega) (by omega) (by omega) (by omega) (by omega))
set_option maxHeartbeats 1000000 in
theorem C_law57 (hL : zLY Z t u) (hu : u = 3 ∨ u = 30) (hB : zTB K V W) (hT : zTC I J K P V W) (h : zCt I K P r) (hs : ∀ t1, r = .ok t1 → c ≤ t1 ∧ I (u + 1) 0 = nI c) (x2 x3 : Int32) :
    ∃ I', (∀ o : zO, zE (d + 5) kX5_readLaw 21 [some (.ref 2), some (.ref (u + 1)), some (.int x2), some (.int (x3 + 1)), none] [] Z I' J o → zE (d + 5) kX5_readLaw 57 [some (.ref 2), some (.ref (u + 1)), some (.int x2), some (.int x3), none] [] Z I J o) ∧ zfrR u I I' ∧ zCt I' K P (zlif K V (ztk K 136 r)).1 ∧
      ∀ t4, (zlif K V (ztk K 136 r)).1 = .ok t4 → ∀ a1 a2 a3, (zlif K V (ztk K 136 r)).2 = (a1, a2, a3) → I' (u + 1) 0 = nI (c + a1.length + a2.length + 1 + a3.length + 1) ∧ c + a1.length + a2.length + 1 + a3.length + 1 ≤ t4 ∧ (zcsg (I' (u + 1 + 1)) (I' (u + 1 + 2)) c a1 ∧ zcsg (I' (u + 1 + 1)) (I' (u + 1 + 2)) (c + a1.length) a2 ∧ I' (u + 1 + 1) (c + a1.length + a2.length) = 3 ∧ I' (u + 1 + 2) (c + a1.length + a2.length) = nI (c + a1.length + a2.length + 1 + a3.length + 1) ∧ zcsg (I' (u + 1 + 1)) (I' (u + 1 + 2)) (c + a1.length + a2.length + 1) a3 ∧ I' (u + 1 + 1) (c + a1.length + a2.length + 1 + a3.length) = 0) ∧ (zpw a1 0 ∧ zpw a2 0 ∧ zpw a3 0) ∧ ∀ j, j < c → I' (u + 1 + 1) j = I (u + 1 + 1) j ∧ I' (u + 1 + 2) j = I (u + 1 + 2) j := by
  obtain ⟨r1, er1⟩ : ∃ r1, r1 = ztk K 136 r := ⟨_, rfl⟩
  rw [← er1]
  obtain ⟨I1, a1, b1, f1⟩ := C_take (d := d + 2) (J := J) hL hT hB (k := 136) (by decide) (by decide) h
  rw [← er1] at b1
  have F1 : zfrR u I I1 := zfrR.f2 f1 (by decide)
  have hs1 : ∀ t1, r1 = .ok t1 → c ≤ t1 ∧ I1 (u + 1) 0 = nI c := fun t1 e => by
    rw [er1] at e
    obtain ⟨t2, e2, e3, e4, e5⟩ := ztk_ok e
    obtain ⟨g1, g2⟩ := hs t2 e2
    exact ⟨by omega, by rw [f1.1 _ (by omega)]; exact g2⟩
  obtain ⟨I2, a2, f2, b2⟩ := C_readE (d := d) hL hu hB (hT.R hu F1) b1 hs1
  obtain ⟨x1, ex1⟩ : ∃ x1, x1 = zxR K V r1 := ⟨_, rfl⟩
  rw [← ex1] at f2 b2
  obtain ⟨A1, hA1⟩ : ∃ A1, A1 = zxa x1 := ⟨_, rfl⟩
  have F2 : zfrR u I I2 := F1.tr (zfrR.F f2)
  obtain ⟨I3, a3, b3, f3⟩ := C_take (d := d + 2) (J := J) hL (hT.R hu F2) hB (k := 60) (by decide) (by decide) b2.rt
  have F3 : zfrR u I I3 := F2.tr (zfrR.f2 f3 (by decide))
  have hs3 : ∀ t1, ztk K 60 (zrt x1) = .ok t1 → c + A1.length ≤ t1 ∧ I3 (u + 1) 0 = nI (c + A1.length) := fun t1 e => by
    obtain ⟨t2, e2, e3, e4, e5⟩ := ztk_ok e
    obtain ⟨q, eq⟩ := zrt_ok e2
    rw [eq] at b2 hA1
    have hq : A1 = q := hA1
    obtain ⟨g1, g2, g3, g4⟩ := b2
    dsimp only at g2 g4
    rw [← hq] at g2 g4
    exact ⟨by omega, by rw [f3.1 _ (by omega)]; exact g2.1⟩
  obtain ⟨I4, a4, f4, b4⟩ := C_readE (d := d) hL hu hB (hT.R hu F3) b3 hs3
  obtain ⟨x2', ex2⟩ : ∃ x2', x2' = zxR K V (ztk K 60 (zrt x1)) := ⟨_, rfl⟩
  rw [← ex2] at f4 b4
  obtain ⟨A2, hA2⟩ : ∃ A2, A2 = zxa x2' := ⟨_, rfl⟩
  have F4 : zfrR u I I4 := F3.tr (zfrR.F f4)
  obtain ⟨I5, a5, f5, g5⟩ := C_addU (d := d + 3) (I := I4) (J := J) hL 3 0
  have F5 : zfrR u I I5 := F4.tr (zfrR.add hu f5)
  have b5 : zCt I5 K P (zrt x2') := b4.rt.rw (f5 2 (by omega) (by omega) (by omega))
  obtain ⟨I6, a6, b6, f6⟩ := C_take (d := d + 2) (J := J) hL (hT.R hu F5) hB (k := 137) (by decide) (by decide) b5
  have F6 : zfrR u I I6 := F5.tr (zfrR.f2 f6 (by decide))
  -- the code up to UNLESS_LESS
  have cd2 : ∀ t2, zrt x2' = .ok t2 → (∃ q1 q2, x1 = .ok q1 ∧ x2' = .ok q2 ∧ q2.1 = t2) ∧ t2 ≤ 400 ∧ c + A1.length + A2.length ≤ t2 ∧ I4 (u + 1) 0 = nI (c + A1.length + A2.length) ∧ (zcsg (I4 (u + 1 + 1)) (I4 (u + 1 + 2)) c A1 ∧ zcsg (I4 (u + 1 + 1)) (I4 (u + 1 + 2)) (c + A1.length) A2) ∧ (zpw A1 0 ∧ zpw A2 0) ∧ ∀ j, j < c → I4 (u + 1 + 1) j = I (u + 1 + 1) j ∧ I4 (u + 1 + 2) j = I (u + 1 + 2) j := fun t2 e => by
    obtain ⟨q2, eq2⟩ := zrt_ok e
    have e3 : ∃ t3, ztk K 60 (zrt x1) = .ok t3 := by
      cases hh : ztk K 60 (zrt x1) with
      | error e' => rw [hh] at ex2; rw [ex2] at eq2; exact absurd eq2 (by simp [zxR])
      | ok t3 => exact ⟨t3, rfl⟩
    obtain ⟨t3, e3⟩ := e3
    obtain ⟨t4, e4, -, -, -⟩ := ztk_ok e3
    obtain ⟨q1, eq1⟩ := zrt_ok e4
    have hx1 : zrx x1 := by rw [eq1]; trivial
    have hx2 : zrx x2' := by rw [eq2]; trivial
    have fc1 := f2.2.2 hx1
    have fc2 := f4.2.2 hx2
    have hq1 : A1 = q1 := by rw [hA1, eq1]; rfl
    have hq2 : A2 = q2 := by rw [hA2, eq2]; rfl
    rw [eq1] at b2
    rw [eq2] at b4
    obtain ⟨g1, g2, g3, g4⟩ := b2
    obtain ⟨k1, k2, k3, k4⟩ := b4
    dsimp only at g1 g2 g3 g4 k1 k2 k3 k4
    rw [← hq1] at g2 g3 g4
    rw [← hq2] at k2 k3 k4
    refine ⟨⟨_, _, eq1, eq2, rfl⟩, k1.1.1, by omega, k2.1, ⟨zcsg_agree _ _ (fun j p q => ⟨?_, ?_⟩) g2.2, k2.2⟩, ⟨g3, k3⟩, fun j hj => ⟨?_, ?_⟩⟩
    · rw [(fc2 j (by omega)).1, f3.1 _ (by omega)]
    · rw [(fc2 j (by omega)).2, f3.1 _ (by omega)]
    · rw [(fc2 j (by omega)).1, f3.1 _ (by omega), (fc1 j hj).1, f1.1 _ (by omega)]
    · rw [(fc2 j (by omega)).2, f3.1 _ (by omega), (fc1 j hj).2, f1.1 _ (by omega)]
  have m5 : ∀ t2, zrt x2' = .ok t2 → I5 = zu (zu (zu I4 (u + 1 + 1) (c + A1.length + A2.length) 3) (u + 1 + 2) (c + A1.length + A2.length) 0) (u + 1) 0 (nI (c + A1.length + A2.length + 1)) := fun t2 e => by
    obtain ⟨-, k1, k2, k3, -⟩ := cd2 t2 e
    exact g5 _ k3 (by omega)
  have hs6 : ∀ t1, ztk K 137 (zrt x2') = .ok t1 → c + A1.length + A2.length + 1 ≤ t1 ∧ I6 (u + 1) 0 = nI (c + A1.length + A2.length + 1) := fun t1 e => by
    obtain ⟨t2, e2, e3, e4, e5⟩ := ztk_ok e
    obtain ⟨-, k1, k2, -⟩ := cd2 t2 e2
    exact ⟨by omega, by rw [f6.1 _ (by omega), m5 t2 e2, zu_eq]⟩
  obtain ⟨I7, a7, f7, b7⟩ := C_readE (d := d) hL hu hB (hT.R hu F6) b6 hs6
  obtain ⟨x3', ex3⟩ : ∃ x3', x3' = zxR K V (ztk K 137 (zrt x2')) := ⟨_, rfl⟩
  rw [← ex3] at f7 b7
  obtain ⟨A3, hA3⟩ : ∃ A3, A3 = zxa x3' := ⟨_, rfl⟩
  have F7 : zfrR u I I7 := F6.tr (zfrR.F f7)
  obtain ⟨I8, a8, f8, g8⟩ := C_addU (d := d + 3) (I := I7) (J := J) hL 0 0
  have F8 : zfrR u I I8 := F7.tr (zfrR.add hu f8)
  obtain ⟨I9, a9, f9, g9⟩ := C_aimU (d := d + 3) (I := I8) (J := J) hL (I4 (u + 1) 0)
  have F9 : zfrR u I I9 := F8.tr (zfrR.add hu (fun a _ _ p3 => f9 a p3))
  have b9 : zCt I9 K P (zrt x3') := (b7.rt.rw (f8 2 (by omega) (by omega) (by omega))).rw (f9 2 (by omega))
  obtain ⟨I10, a10, b10, f10⟩ := C_take (d := d + 2) (J := J) hL (hT.R hu F9) hB (k := 138) (by decide) (by decide) b9
  have F10 : zfrR u I I10 := F9.tr (zfrR.f2 f10 (by decide))
  have ez : zlif K V r1 = (ztk K 138 (zrt x3'), A1, A2, A3) := by unfold zlif; rw [hA3, hA2, hA1, ex3, ex2, ex1]
  rw [ez]
  refine ⟨I10, fun o k => BX5_readLaw_57 _ _ hL (zTx_l (ly_ux hL)) ⟨I1, a1, I2, a2, I3, a3, I4, a4, I5, a5, I6, a6, I7, a7, I8, a8, I9, a9, I10, a10, k⟩, F10, b10, fun t4 e4 y1 y2 y3 ey => ?_⟩
  cases ey
  obtain ⟨t3, e3, -, -, e5⟩ := ztk_ok e4
  obtain ⟨q3, eq3⟩ := zrt_ok e3
  have hx3 : zrx x3' := by rw [eq3]; trivial
  have e6 : ∃ t6, ztk K 137 (zrt x2') = .ok t6 := by
    cases hh : ztk K 137 (zrt x2') with
    | error e' => rw [hh] at ex3; rw [ex3] at eq3; exact absurd eq3 (by simp [zxR])
    | ok t6 => exact ⟨t6, rfl⟩
  obtain ⟨t6, e6⟩ := e6
  obtain ⟨t2, e2, -, -, -⟩ := ztk_ok e6
  obtain ⟨-, k1, k2, k3, ⟨k4, k5⟩, ⟨k6, k7⟩, k8⟩ := cd2 t2 e2
  have m5' := m5 t2 e2
  have fc3 := f7.2.2 hx3
  have hq3 : A3 = q3 := by rw [hA3, eq3]; rfl
  rw [eq3] at b7
  obtain ⟨p1, p2, p3, p4⟩ := b7
  dsimp only at p1 p2 p3 p4
  rw [← hq3] at p2 p3 p4
  have hp1 := p1.1.1
  have m8 := g8 _ p2.1 (by omega)
  have s8 : I8 (u + 1) 0 = nI (c + A1.length + A2.length + 1 + A3.length + 1) := by rw [m8, zu_eq]
  have m9 := g9 _ _ k3 (by omega) s8
  have R1 : ∀ j, j ≠ c + A1.length + A2.length + 1 + A3.length → I10 (u + 1 + 1) j = I7 (u + 1 + 1) j := fun j hj => by
    rw [f10.1 _ (by omega), m9, zu_ne (by omega), m8, zu_ne (by omega), zu_ne (by omega), zu_k hj]
  have R2 : ∀ j, j ≠ c + A1.length + A2.length → j ≠ c + A1.length + A2.length + 1 + A3.length → I10 (u + 1 + 2) j = I7 (u + 1 + 2) j := fun j h1 hj => by
    rw [f10.1 _ (by omega), m9, zu_k h1, m8, zu_ne (by omega), zu_k hj, zu_ne (by omega)]
  have Q1 : ∀ j, j < c + A1.length + A2.length → I10 (u + 1 + 1) j = I4 (u + 1 + 1) j := fun j hj => by
    rw [R1 j (by omega), (fc3 j (by omega)).1, f6.1 _ (by omega), m5', zu_ne (by omega), zu_ne (by omega), zu_k (by omega)]
  have Q2 : ∀ j, j < c + A1.length + A2.length → I10 (u + 1 + 2) j = I4 (u + 1 + 2) j := fun j hj => by
    rw [R2 j (by omega) (by omega), (fc3 j (by omega)).2, f6.1 _ (by omega), m5', zu_ne (by omega), zu_k (by omega), zu_ne (by omega)]
  refine ⟨by rw [f10.1 _ (by omega), m9, zu_ne (by omega), s8], by omega, ⟨zcsg_agree _ _ (fun j h1 h2 => ⟨Q1 j (by omega), Q2 j (by omega)⟩) k4, zcsg_agree _ _ (fun j h1 h2 => ⟨Q1 j (by omega), Q2 j (by omega)⟩) k5, ?_, ?_, zcsg_agree _ _ (fun j h1 h2 => ⟨R1 j (by omega), R2 j (by omega) (by omega)⟩) p2.2, ?_⟩, ⟨k6, k7, p3⟩, fun j hj => ⟨by rw [Q1 j (by omega), (k8 j hj).1], by rw [Q2 j (by omega), (k8 j hj).2]⟩⟩
  · rw [R1 _ (by omega), (fc3 _ (by omega)).1, f6.1 _ (by omega), m5', zu_ne (by omega), zu_ne (by omega), zu_eq]
  · rw [f10.1 _ (by omega), m9, zu_eq]
  · rw [f10.1 _ (by omega), m9, zu_ne (by omega), m8, zu_ne (by omega), zu_ne (by omega), zu_eq]
end

/-! the parser, pure: where a token stands, or the FAULT (its number, its token) -/
abbrev zRt : Type := Except (Nat × Nat) Nat
def zgn (t : Nat) : zRt := if t = 400 then .error (2, t) else .ok (t + 1)
def ztk (K : Nat → Nat) (k : Nat) (r : zRt) : zRt := match r with
  | .error e => .error e
  | .ok t => if K t = k then zgn t else .error (1, t)
def zrok (r : zRt) : Prop := match r with
  | .error _ => False
  | .ok _ => True
theorem zgn_ok {t t' : Nat} (h : zgn t = .ok t') : t ≠ 400 ∧ t' = t + 1 := by
  unfold zgn at h
  split at h
  · exact absurd h (by simp)
  · cases h; exact ⟨‹_›, rfl⟩
theorem ztk_ok {K : Nat → Nat} {k t' : Nat} {r : zRt} (h : ztk K k r = .ok t') : ∃ t, r = .ok t ∧ K t = k ∧ t ≠ 400 ∧ t' = t + 1 := by
  unfold ztk at h
  cases r with
  | error e => exact absurd h (by simp)
  | ok t =>
    dsimp only at h
    split at h
    · obtain ⟨h1, h2⟩ := zgn_ok h
      exact ⟨t, rfl, ‹_›, h1, h2⟩
    · exact absurd h (by simp)
theorem zrok_ex {r : zRt} (h : zrok r) : ∃ t, r = .ok t := by
  cases r with
  | error e => exact absurd h (by simp [zrok])
  | ok t => exact ⟨t, rfl⟩
theorem zrok_t (t : Nat) : zrok (.ok t) := trivial
theorem zrok_tk {K : Nat → Nat} {k : Nat} {r : zRt} (h : zrok (ztk K k r)) : zrok r := by
  obtain ⟨t', ht⟩ := zrok_ex h
  obtain ⟨t, h1, -⟩ := ztk_ok ht
  rw [h1]; trivial
/-- how an operator binds; its number -/
def zbn (k : Nat) : Nat := if k = 42 ∨ k = 47 then 2 else if k = 43 ∨ k = 45 then 1 else 0
def zoc (k : Nat) : Nat := if k = 43 then 2 else if k = 45 then 3 else if k = 42 then 4 else 5
/-- operators that come out -/
def zrel (b : Nat) : List Nat → List zTok × List Nat
  | [] => ([], [])
  | x :: w => if b ≤ zbn x then ((zoc x, (0 : Int32)) :: (zrel b w).1, (zrel b w).2) else ([], x :: w)
def zex (K V : Nat → Nat) : Nat → Bool → Nat → Nat → List Nat → List zTok → Except (Nat × Nat) (Nat × List zTok)
  | 0, _, t, _, _, _ => .error (1, t)
  | f + 1, true, t, op, w, out =>
    if K t = 3 then (if t = 400 then .error (2, t) else zex K V f false (t + 1) op w (out ++ [(0, nI (V t))]))
    else if 139 ≤ K t ∧ K t ≤ 144 then (if t = 400 then .error (2, t) else zex K V f false (t + 1) op w (out ++ [(1, nI (K t - 139))]))
    else if K t = 40 then (if 6 ≤ op then .error (2, t) else if t = 400 then .error (2, t) else zex K V f true (t + 1) (op + 1) (40 :: w) out)
    else .error (1, t)
  | f + 1, false, t, op, w, out =>
    if 0 < zbn (K t) then (if t = 400 then .error (2, t) else zex K V f true (t + 1) op (K t :: (zrel (zbn (K t)) w).2) (out ++ (zrel (zbn (K t)) w).1))
    else if 0 < op then (if K t = 41 then (if t = 400 then .error (2, t) else zex K V f false (t + 1) (op - 1) (zrel 1 w).2.tail (out ++ (zrel 1 w).1)) else .error (1, t))
    else .ok (t, out ++ (zrel 1 w).1)
def zxr (K V : Nat → Nat) (t : Nat) : Except (Nat × Nat) (Nat × List zTok) := zex K V (402 - t) true t 0 [] []
-- the operators that wait
def zsgm (s : List Nat) : Prop := s = [] ∨ (∃ a, s = [a] ∧ (zbn a = 1 ∨ zbn a = 2)) ∨ ∃ a b, s = [a, b] ∧ zbn a = 2 ∧ zbn b = 1
def zwk : Nat → List Nat → Prop
  | 0, w => zsgm w
  | n + 1, w => ∃ s r, w = s ++ 40 :: r ∧ zsgm s ∧ zwk n r
def znop : List Nat → Nat
  | [] => 0
  | x :: w => (if 0 < zbn x then 1 else 0) + znop w
theorem zsgm_len {s : List Nat} (h : zsgm s) : s.length ≤ 2 ∧ znop s = s.length := by
  rcases h with rfl | ⟨a, rfl, h⟩ | ⟨a, b, rfl, h1, h2⟩
  · exact ⟨by decide, rfl⟩
  · refine ⟨by simp, ?_⟩
    simp only [znop, List.length_cons, List.length_nil]
    rw [if_pos (by omega)]
  · refine ⟨by simp, ?_⟩
    simp only [znop, List.length_cons, List.length_nil]
    rw [if_pos (by omega), if_pos (by omega)]
theorem znop_app (a b : List Nat) : znop (a ++ b) = znop a + znop b := by
  induction a with
  | nil => simp [znop]
  | cons x a ih => simp only [List.cons_append, znop, ih]; omega
theorem zwk_len : ∀ (n : Nat) (w : List Nat), zwk n w → w.length ≤ 3 * n + 2 ∧ znop w ≤ 2 * n + 2 := by
  intro n
  induction n with
  | zero => intro w h; obtain ⟨h1, h2⟩ := zsgm_len h; omega
  | succ n ih =>
    intro w h
    obtain ⟨s, r, rfl, h1, h2⟩ := h
    obtain ⟨a1, a2⟩ := zsgm_len h1
    obtain ⟨b1, b2⟩ := ih r h2
    rw [znop_app]
    simp only [List.length_append, List.length_cons, znop]
    rw [if_neg (by decide)]
    omega
theorem zrel_stop {b x : Nat} {w : List Nat} (h : ¬ b ≤ zbn x) : zrel b (x :: w) = ([], x :: w) := by
  simp only [zrel]; rw [if_neg h]
theorem zrel_go {b x : Nat} {w : List Nat} (h : b ≤ zbn x) : zrel b (x :: w) = ((zoc x, (0 : Int32)) :: (zrel b w).1, (zrel b w).2) := by
  simp only [zrel]; rw [if_pos h]
/-- all of the last segment comes out -/
theorem zrel1_app {s r : List Nat} (h : zsgm s) (hr : (zrel 1 r).1 = [] ∧ (zrel 1 r).2 = r) : (zrel 1 (s ++ r)).2 = r := by
  rcases h with rfl | ⟨a, rfl, h⟩ | ⟨a, b, rfl, h1, h2⟩
  · exact hr.2
  · show (zrel 1 (a :: r)).2 = r
    rw [zrel_go (by omega)]; exact hr.2
  · show (zrel 1 (a :: b :: r)).2 = r
    rw [zrel_go (by omega), zrel_go (by omega)]; exact hr.2
theorem zrel2_app {s r : List Nat} (h : zsgm s) (hr : (zrel 2 r).1 = [] ∧ (zrel 2 r).2 = r) : ∃ s', (zrel 2 (s ++ r)).2 = s' ++ r ∧ (s' = [] ∨ ∃ a, s' = [a] ∧ zbn a = 1) := by
  rcases h with rfl | ⟨a, rfl, h | h⟩ | ⟨a, b, rfl, h1, h2⟩
  · exact ⟨[], hr.2, Or.inl rfl⟩
  · refine ⟨[a], ?_, Or.inr ⟨a, rfl, h⟩⟩
    show (zrel 2 (a :: r)).2 = a :: r
    rw [zrel_stop (by omega)]
  · refine ⟨[], ?_, Or.inl rfl⟩
    show (zrel 2 (a :: r)).2 = r
    rw [zrel_go (by omega)]; exact hr.2
  · refine ⟨[b], ?_, Or.inr ⟨b, rfl, h2⟩⟩
    show (zrel 2 (a :: b :: r)).2 = b :: r
    rw [zrel_go (by omega), zrel_stop (by omega)]
theorem zrel_40 {b : Nat} (hb : 1 ≤ b) (r : List Nat) : (zrel b (40 :: r)).1 = [] ∧ (zrel b (40 :: r)).2 = 40 :: r := by
  have : ¬ b ≤ zbn 40 := by rw [show zbn 40 = 0 from rfl]; omega
  rw [zrel_stop this]; exact ⟨rfl, rfl⟩
theorem zrel1_0 {w : List Nat} (h : zwk 0 w) : (zrel 1 w).2 = [] := by
  have := zrel1_app (r := []) h ⟨rfl, rfl⟩
  rwa [List.append_nil] at this
theorem zrel1_s {n : Nat} {w : List Nat} (h : zwk (n + 1) w) : ∃ r, (zrel 1 w).2 = 40 :: r ∧ zwk n r := by
  obtain ⟨s, r, rfl, h1, h2⟩ := h
  exact ⟨r, zrel1_app h1 (zrel_40 (by decide) r), h2⟩
theorem zwk_push {n k : Nat} {w : List Nat} (h : zwk n w) (hk : 0 < zbn k) : zwk n (k :: (zrel (zbn k) w).2) := by
  have hk2 : zbn k = 1 ∨ zbn k = 2 := by revert hk; unfold zbn; (repeat' split) <;> omega
  cases n with
  | zero =>
    rcases hk2 with e | e
    · rw [e, zrel1_0 h]
      exact Or.inr (Or.inl ⟨k, rfl, Or.inl e⟩)
    · rw [e]
      obtain ⟨s', e1, e2⟩ := zrel2_app (r := []) h ⟨rfl, rfl⟩
      rw [List.append_nil, List.append_nil] at e1
      rw [e1]
      rcases e2 with rfl | ⟨a, rfl, e3⟩
      · exact Or.inr (Or.inl ⟨k, rfl, Or.inr e⟩)
      · exact Or.inr (Or.inr ⟨k, a, rfl, e, e3⟩)
  | succ n =>
    rcases hk2 with e | e
    · obtain ⟨r, e1, e2⟩ := zrel1_s h
      rw [e, e1]
      exact ⟨[k], r, rfl, Or.inr (Or.inl ⟨k, rfl, Or.inl e⟩), e2⟩
    · obtain ⟨s, r, rfl, h1, h2⟩ := h
      obtain ⟨s', e1, e2⟩ := zrel2_app h1 (zrel_40 (by decide) r)
      rw [e, e1]
      rcases e2 with rfl | ⟨a, rfl, e3⟩
      · exact ⟨[k], r, rfl, Or.inr (Or.inl ⟨k, rfl, Or.inr e⟩), h2⟩
      · exact ⟨[k, a], r, rfl, Or.inr (Or.inr ⟨k, a, rfl, e, e3⟩), h2⟩
-- what is put out, by its depth
def zpx : List zTok → Nat → Nat → Prop
  | [], d, d' => d = d'
  | (k, v) :: t, d, d' => (k = 0 ∧ d < 16 ∧ zpx t (d + 1) d') ∨ (k = 1 ∧ d < 16 ∧ (∃ i, i < 6 ∧ v = nI i) ∧ zpx t (d + 1) d') ∨ (2 ≤ k ∧ k ≤ 5 ∧ 2 ≤ d ∧ zpx t (d - 1) d')
theorem zpx_pw : ∀ (l : List zTok) (d : Nat), zpx l d 1 → zpw l d := by
  intro l
  induction l with
  | nil => intro d h; exact h
  | cons q l ih =>
    obtain ⟨k, v⟩ := q
    intro d h
    rcases h with ⟨h1, h2, h3⟩ | ⟨h1, h2, h3, h4⟩ | ⟨h1, h2, h3, h4⟩
    · exact Or.inl ⟨h1, h2, ih _ h3⟩
    · exact Or.inr (Or.inl ⟨h1, h2, h3, ih _ h4⟩)
    · exact Or.inr (Or.inr ⟨h1, h2, h3, ih _ h4⟩)
theorem zpx_app : ∀ (a b : List zTok) (d d' d'' : Nat), zpx a d d' → zpx b d' d'' → zpx (a ++ b) d d'' := by
  intro a
  induction a with
  | nil => intro b d d' d'' h1 h2; rw [show d = d' from h1]; exact h2
  | cons q a ih =>
    obtain ⟨k, v⟩ := q
    intro b d d' d'' h1 h2
    rcases h1 with ⟨g1, g2, g3⟩ | ⟨g1, g2, g3, g4⟩ | ⟨g1, g2, g3, g4⟩
    · exact Or.inl ⟨g1, g2, ih _ _ _ _ g3 h2⟩
    · exact Or.inr (Or.inl ⟨g1, g2, g3, ih _ _ _ _ g4 h2⟩)
    · exact Or.inr (Or.inr ⟨g1, g2, g3, ih _ _ _ _ g4 h2⟩)
theorem zoc_b (k : Nat) : 2 ≤ zoc k ∧ zoc k ≤ 5 := by unfold zoc; (repeat' split) <;> omega
theorem zrel_px {b : Nat} (hb : 1 ≤ b) : ∀ w : List Nat, zpx (zrel b w).1 (znop w + 1) (znop (zrel b w).2 + 1) ∧ (zrel b w).1.length + znop (zrel b w).2 = znop w ∧ (zrel b w).2.length ≤ w.length := by
  intro w
  induction w with
  | nil => exact ⟨rfl, rfl, Nat.le_refl _⟩
  | cons x w ih =>
    by_cases h : b ≤ zbn x
    · rw [zrel_go h]
      obtain ⟨h1, h2, h3⟩ := ih
      have e : znop (x :: w) = znop w + 1 := by simp only [znop]; rw [if_pos (by omega)]; omega
      rw [e]
      refine ⟨Or.inr (Or.inr ⟨(zoc_b x).1, (zoc_b x).2, by omega, ?_⟩), by simp only [List.length_cons]; omega, by simp only [List.length_cons]; omega⟩
      rw [Nat.add_sub_cancel]; exact h1
    · rw [zrel_stop h]
      exact ⟨rfl, by simp only [List.length_nil]; omega, Nat.le_refl _⟩
/-- all that holds within an E -/
def zxi (due : Bool) (c t op : Nat) (w : List Nat) (out : List zTok) : Prop := zwk op w ∧ op ≤ 6 ∧ zpx out 0 (znop w + (if due = true then 0 else 1)) ∧ c + out.length + znop w ≤ t
section
variable {K V : Nat → Nat} {c t op : Nat} {w : List Nat} {out : List zTok}
theorem zxi_0 (h : c ≤ t) : zxi true c t 0 [] [] := ⟨Or.inl rfl, by decide, rfl, by simp only [List.length_nil, znop]; omega⟩
theorem zxi_unit (h : zxi true c t op w out) {q : zTok} (hq : q.1 = 0 ∨ q.1 = 1 ∧ ∃ i, i < 6 ∧ q.2 = nI i) : zxi false c (t + 1) op w (out ++ [q]) := by
  obtain ⟨h1, h2, h3, h4⟩ := h
  have := (zwk_len _ _ h1).2
  refine ⟨h1, h2, zpx_app _ _ _ _ _ h3 ?_, by simp only [List.length_append, List.length_cons, List.length_nil]; omega⟩
  obtain ⟨k, v⟩ := q
  rcases hq with e | ⟨e, e2⟩
  · exact Or.inl ⟨e, by simp only [if_true]; omega, rfl⟩
  · exact Or.inr (Or.inl ⟨e, by simp only [if_true]; omega, e2, rfl⟩)
theorem zxi_opens (h : zxi true c t op w out) (ho : ¬ 6 ≤ op) : zxi true c (t + 1) (op + 1) (40 :: w) out := by
  obtain ⟨h1, h2, h3, h4⟩ := h
  have e : znop (40 :: w) = znop w := by simp only [znop]; rw [if_neg (by decide)]; omega
  exact ⟨⟨[], w, rfl, Or.inl rfl, h1⟩, by omega, by rw [e]; exact h3, by rw [e]; omega⟩
theorem zxi_oper (h : zxi false c t op w out) {k : Nat} (hk : 0 < zbn k) : zxi true c (t + 1) op (k :: (zrel (zbn k) w).2) (out ++ (zrel (zbn k) w).1) := by
  obtain ⟨h1, h2, h3, h4⟩ := h
  obtain ⟨r1, r2, r3⟩ := zrel_px (b := zbn k) hk w
  have e : znop (k :: (zrel (zbn k) w).2) = znop (zrel (zbn k) w).2 + 1 := by simp only [znop]; rw [if_pos hk]; omega
  refine ⟨zwk_push h1 hk, h2, ?_, by rw [e]; simp only [List.length_append]; omega⟩
  rw [e]
  exact zpx_app _ _ _ _ _ h3 r1
theorem zxi_closes (h : zxi false c t (op + 1) w out) : ∃ r, (zrel 1 w).2 = 40 :: r ∧ zxi false c (t + 1) op r (out ++ (zrel 1 w).1) := by
  obtain ⟨h1, h2, h3, h4⟩ := h
  obtain ⟨r, e1, e2⟩ := zrel1_s h1
  obtain ⟨r1, r2, r3⟩ := zrel_px (b := 1) (by decide) w
  have e : znop (zrel 1 w).2 = znop r := by rw [e1]; simp only [znop]; rw [if_neg (by decide)]; omega
  refine ⟨r, e1, e2, by omega, ?_, by simp only [List.length_append]; omega⟩
  rw [← e]
  exact zpx_app _ _ _ _ _ h3 r1
theorem zxi_end (h : zxi false c t 0 w out) : zpw (out ++ (zrel 1 w).1) 0 ∧ c + (out ++ (zrel 1 w).1).length ≤ t := by
  obtain ⟨h1, h2, h3, h4⟩ := h
  obtain ⟨r1, r2, r3⟩ := zrel_px (b := 1) (by decide) w
  have e : znop (zrel 1 w).2 = 0 := by rw [zrel1_0 h1]; rfl
  rw [e] at r1
  exact ⟨zpx_pw _ _ (zpx_app _ _ _ _ _ h3 r1), by simp only [List.length_append]; omega⟩
theorem zxi_len {due : Bool} (h : zxi due c t op w out) : w.length ≤ 3 * op + 2 := (zwk_len _ _ h.1).1
end

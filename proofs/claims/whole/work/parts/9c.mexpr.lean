/-! the reference's reader: an E -/
theorem zseg_app {f g : Nat → Int32} : ∀ (a b : List zTok) (c : Nat), zseg f g c (a ++ b) ↔ zseg f g c a ∧ zseg f g (c + a.length) b := by
  intro a
  induction a with
  | nil => intro b c; exact ⟨fun h => ⟨trivial, h⟩, fun h => h.2⟩
  | cons q a ih =>
    obtain ⟨k, v⟩ := q
    intro b c
    have e : c + ((k, v) :: a).length = c + 1 + a.length := by simp only [List.length_cons]; omega
    rw [e]
    constructor
    · intro h; exact ⟨⟨h.1, h.2.1, ((ih b (c + 1)).mp h.2.2).1⟩, ((ih b (c + 1)).mp h.2.2).2⟩
    · intro h; exact ⟨h.1.1, h.1.2.1, (ih b (c + 1)).mpr ⟨h.1.2.2, h.2⟩⟩
def zwL : List Nat := [40, 42, 43, 45, 47]
theorem zbn_mem {k : Nat} (h : 0 < zbn k) : k ∈ zwL := by
  have : k = 42 ∨ k = 47 ∨ k = 43 ∨ k = 45 := by revert h; unfold zbn; (repeat' split) <;> omega
  rcases this with rfl | rfl | rfl | rfl <;> decide
theorem zsgm_mem {s : List Nat} (h : zsgm s) : ∀ x ∈ s, x ∈ zwL := by
  intro x hx
  rcases h with rfl | ⟨a, rfl, h⟩ | ⟨a, b, rfl, h1, h2⟩
  · exact absurd hx (by simp)
  · rw [List.mem_singleton.mp hx]; exact zbn_mem (by omega)
  · rcases List.mem_cons.mp hx with e | e
    · rw [e]; exact zbn_mem (by omega)
    · rw [List.mem_singleton.mp e]; exact zbn_mem (by omega)
theorem zwk_mem : ∀ (n : Nat) (w : List Nat), zwk n w → ∀ x ∈ w, x ∈ zwL := by
  intro n
  induction n with
  | zero => intro w h; exact zsgm_mem h
  | succ n ih =>
    intro w h x hx
    obtain ⟨s, r, rfl, h1, h2⟩ := h
    rcases List.mem_append.mp hx with e | e
    · exact zsgm_mem h1 x e
    · rcases List.mem_cons.mp e with e | e
      · rw [e]; decide
      · exact ih r h2 x e
theorem zwL_k : ∀ k ∈ zwL, k ∈ zkL ∧ (zkr k = 6 ↔ k = 40) ∧ (zkr k = 8 ↔ k = 43) ∧ (zkr k = 9 ↔ k = 45) ∧ (zkr k = 10 ↔ k = 42) ∧ zkr k < 100 := by decide
theorem zrel_mem {b : Nat} : ∀ w : List Nat, (∀ x ∈ w, x ∈ zwL) → ∀ x ∈ (zrel b w).2, x ∈ zwL := by
  intro w
  induction w with
  | nil => intro h; exact h
  | cons y w ih =>
    intro h
    simp only [zrel]
    split
    · exact ih (fun x hx => h x (List.mem_cons_of_mem _ hx))
    · exact h
def zMx (I : zI) (s c op : Nat) (w : List Nat) (out : List zTok) : Prop := I 420 47 = nI (420 * s + c + out.length) ∧ zseg (I 452) (I 453) (420 * s + c) out ∧ I 420 51 = nI w.length ∧ zpile (I 454) (w.map fun k => nI (zkr k)) ∧ I 420 12 = nI op
def zfX (s c : Nat) (F : List Nat) (I I' : zI) : Prop := (∀ a, a ≠ 420 → a ≠ 452 → a ≠ 453 → a ≠ 454 → I' a = I a) ∧ (∀ k, k ∉ F → I' 420 k = I 420 k) ∧ ∀ j, (j < 420 * s + c ∨ 420 * s + 420 ≤ j) → I' 452 j = I 452 j ∧ I' 453 j = I 453 j
theorem zfX.rf {s c : Nat} {F : List Nat} {I : zI} : zfX s c F I I := ⟨fun _ _ _ _ _ => rfl, fun _ _ => rfl, fun _ _ => ⟨rfl, rfl⟩⟩
theorem zfX.tr {s c : Nat} {F : List Nat} {I I' I'' : zI} (h1 : zfX s c F I I') (h2 : zfX s c F I' I'') : zfX s c F I I'' := ⟨fun a p q r z => (h2.1 a p q r z).trans (h1.1 a p q r z), fun k p => (h2.2.1 k p).trans (h1.2.1 k p), fun j p => ⟨((h2.2.2 j p).1).trans (h1.2.2 j p).1, ((h2.2.2 j p).2).trans (h1.2.2 j p).2⟩⟩
theorem zfX.mono {s c : Nat} {F F' : List Nat} {I I' : zI} (h : zfX s c F I I') (hF : ∀ k ∈ F, k ∈ F') : zfX s c F' I I' := ⟨h.1, fun k hk => h.2.1 k (fun q => hk (hF k q)), h.2.2⟩
theorem zf4.X {s c : Nat} {F : List Nat} {I I' : zI} (h : zf4 F I I') : zfX s c F I I' := ⟨fun a p _ _ _ => h.1 a p, h.2, fun j _ => by rw [h.1 452 (by decide), h.1 453 (by decide)]; exact ⟨rfl, rfl⟩⟩
abbrev zFX : List Nat := [11, 12, 13, 14, 47, 51]
section
variable {d : Nat} {Z : zZ} {I I' : zI} {J : zJ} {t u s c op t0 : Nat} {w : List Nat} {out : List zTok} {K P V W X : Nat → Nat} {r : zRt}
theorem zTM.fx {F : List Nat} (h : zTM I J K P V X) (hf : zfX s c F I I') : zTM I' J K P V X := fun i hi hg => by
  rw [hf.1 423 (by decide) (by decide) (by decide) (by decide), hf.1 424 (by decide) (by decide) (by decide) (by decide), hf.1 425 (by decide) (by decide) (by decide) (by decide)]; exact h i hi hg
theorem zMt.fx {F : List Nat} (h : zMt I K P r) (hf : zfX s c F I I') (f1 : 11 ∉ F) (f2 : 13 ∉ F) (f3 : 14 ∉ F) : zMt I' K P r := by
  cases r with
  | error e =>
    obtain ⟨h1, h2, h3, t0, h4, h5⟩ := h
    exact ⟨h1, (hf.2.1 13 f2).trans h2, (hf.2.1 14 f3).trans h3, t0, h4, (hf.2.1 11 f1).trans h5⟩
  | ok t0 => exact ⟨h.1, (hf.2.1 13 f2).trans h.2.1, (hf.2.1 11 f1).trans h.2.2⟩
theorem zMx.f4 {F : List Nat} (h : zMx I s c op w out) (hf : zf4 F I I') (f1 : 47 ∉ F) (f2 : 51 ∉ F) (f3 : 12 ∉ F) : zMx I' s c op w out := by
  obtain ⟨h1, h2, h3, h4, h5⟩ := h
  exact ⟨(hf.2 47 f1).trans h1, by rw [hf.1 452 (by decide), hf.1 453 (by decide)]; exact h2, (hf.2 51 f2).trans h3, by rw [hf.1 454 (by decide)]; exact h4, (hf.2 12 f3).trans h5⟩
theorem M_emit (hL : zLY Z t u) (h : zMx I s c op w out) (hs : s < 2) (hc : c + out.length < 420) (k : Nat) (v : Int32) : ∃ I', zE d kX12_emit 0 [some (.ref 420), some (.int (nI k)), some (.int v)] [] Z I J (none, Z, I', J) ∧ zMx I' s c op w (out ++ [(k, v)]) ∧ zfX s c [47] I I' := by
  obtain ⟨h1, h2, h3, h4, h5⟩ := h
  obtain ⟨p, ep⟩ : ∃ p, p = 420 * s + c + out.length := ⟨_, rfl⟩
  rw [← ep] at h1
  refine ⟨zu (zu (zu I 452 p (nI k)) 453 p v) 420 47 (nI (p + 1)), BX12_emit_0 _ _ hL ⟨by rw [h1]; exact zvin (by omega) (by decide), fun I1 e1 => ?_⟩, ⟨?_, ?_, ?_, ?_, ?_⟩, ⟨fun a p1 p2 p3 _ => by rw [zu_ne p1, zu_ne p3, zu_ne p2], fun j hj => ?_, fun j hj => ?_⟩⟩
  · rw [h1, zclm (by omega)] at e1
    have x1 : I1 420 47 = nI p := by rw [e1, zu_ne (by decide)]; exact h1
    refine ⟨by rw [x1]; exact zvin (by omega) (by decide), fun I2 e2 I3 e3 => ?_⟩
    rw [x1, zclm (by omega)] at e2
    have x2 : I2 420 47 = nI p := by rw [e2, zu_ne (by decide)]; exact x1
    rw [e3, x2, zadd1, e2, e1]
  · rw [zu_eq]; simp only [List.length_append, List.length_cons, List.length_nil]; rw [ep]; rfl
  · rw [zu_ne (by decide), zu_ne (by decide), zu_ne (b := 453) (by decide)]
    rw [zseg_app]
    refine ⟨zseg_agree out _ (fun j p1 p2 => ⟨zu_k (by omega), ?_⟩) h2, by rw [← ep, zu_eq], by rw [← ep, zu_eq], trivial⟩
    rw [zu_k (by omega), zu_ne (by decide)]
  · rw [zu_k (by decide), zu_ne (by decide), zu_ne (by decide)]; exact h3
  · rw [zu_ne (by decide), zu_ne (by decide), zu_ne (by decide)]; exact h4
  · rw [zu_k (by decide), zu_ne (by decide), zu_ne (by decide)]; exact h5
  · have : j ≠ 47 := fun q => hj (by rw [q]; decide)
    rw [zu_k this, zu_ne (by decide), zu_ne (by decide)]
  · rw [zu_ne (by decide), zu_ne (by decide), zu_ne (b := 453) (by decide)]
    exact ⟨zu_k (by omega), by rw [zu_k (by omega), zu_ne (by decide)]⟩
theorem M_comesOut (hL : zLY Z t u) (hs : s < 2) {b : Nat} (hb : b = 1 ∨ b = 2) : ∀ (w : List Nat) (out : List zTok) (I : zI), (∀ x ∈ w, x ∈ zwL) → zMx I s c op w out → c + out.length + znop w < 420 → w.length < 60 →
    ∃ I', zE (d + 1) kX12_comesOut 0 [some (.ref 420), some (.int (if b = 2 then 1 else 0)), none] [] Z I J (none, Z, I', J) ∧ zMx I' s c op (zrel b w).2 (out ++ (zrel b w).1) ∧ zfX s c [47, 51] I I' := by
  intro w
  induction w with
  | nil =>
    intro out I hm h hc hw
    refine ⟨I, BX12_comesOut_0 _ hL ⟨fun _ => rfl, fun q => absurd (by rw [h.2.2.1]; decide) q⟩, ?_, zfX.rf⟩
    show zMx I s c op [] (out ++ [])
    rw [List.append_nil]; exact h
  | cons x w ih =>
    intro out I hm h hc hw
    simp only [List.length_cons] at hw
    obtain ⟨m1, m2, m3, m4, m5, m6⟩ := zwL_k x (hm x (List.mem_cons_self ..))
    have h51 : I 420 51 = nI (w.length + 1) := h.2.2.1
    have n0 : ¬ I 420 51 ≤ 0 := by rw [h51, show (0 : Int32) = nI 0 from rfl, zle' (by omega) (by decide)]; omega
    have hsub : I 420 51 - 1 = nI w.length := by rw [h51, zsub1]
    have hy : I 454 (I 420 51 - 1).toNatClampNeg = nI (zkr x) := by
      rw [hsub, zclm (by omega)]
      have := h.2.2.2.1.1
      rwa [List.length_map] at this
    have hv : vp_in (I 420 51 - 1) 64 := by rw [hsub]; exact zvin (by omega) (by decide)
    have q6 : nI (zkr x) = 6 ↔ x = 40 := by rw [show (6 : Int32) = nI 6 from rfl, zeq (by omega) (by decide)]; exact m2
    have q8 : nI (zkr x) = 8 ↔ x = 43 := by rw [show (8 : Int32) = nI 8 from rfl, zeq (by omega) (by decide)]; exact m3
    have q9 : nI (zkr x) = 9 ↔ x = 45 := by rw [show (9 : Int32) = nI 9 from rfl, zeq (by omega) (by decide)]; exact m4
    have q10 : nI (zkr x) = 10 ↔ x = 42 := by rw [show (10 : Int32) = nI 10 from rfl, zeq (by omega) (by decide)]; exact m5
    by_cases cb : b ≤ zbn x
    · have x40 : x ≠ 40 := fun e => by rw [e] at cb; have : zbn 40 = 0 := rfl; omega
      have hop : znop (x :: w) = znop w + 1 := by simp only [znop]; rw [if_pos (by omega)]; omega
      obtain ⟨I2, e2⟩ : ∃ I2 : zI, I2 = zu I 420 51 (nI w.length) := ⟨_, rfl⟩
      have hx2 : zMx I2 s c op w out := by
        obtain ⟨g1, g2, g3, g4, g5⟩ := h
        rw [e2]
        exact ⟨by rw [zu_k (by decide)]; exact g1, by rw [zu_ne (by decide), zu_ne (by decide)]; exact g2, zu_eq, by rw [zu_ne (by decide)]; exact g4.2, by rw [zu_k (by decide)]; exact g5⟩
      have f2 : zfX s c [47, 51] I I2 := by rw [e2]; exact (zf4.put (by decide)).X
      obtain ⟨I3, a1, a2, a3⟩ := M_emit (d := d) (J := J) hL hx2 hs (by omega) (zoc x) 0
      obtain ⟨I4, b1, b2, b3⟩ := ih (out ++ [(zoc x, 0)]) I3 (fun y hy => hm y (List.mem_cons_of_mem _ hy)) a2 (by simp only [List.length_append, List.length_cons, List.length_nil]; omega) (by omega)
      rw [zrel_go cb]
      refine ⟨I4, BX12_comesOut_0 _ hL ⟨fun q => absurd q n0, fun _ => ⟨hv, fun y ey => ?_⟩⟩, ?_, f2.tr ((a3.mono (by decide)).tr b3)⟩
      · rw [hy] at ey
        rw [ey]
        have put : ∀ I7 : zI, I7 = zu I 420 51 (I 420 51 - 1) → I7 = I2 := fun I7 e7 => by rw [e7, hsub, e2]
        refine ⟨fun q => absurd (q6.mp q) x40, fun _ => ?_⟩
        have rest : ∀ I7 : zI, I7 = zu I 420 51 (I 420 51 - 1) → _ := fun I7 e7 => (⟨fun n8 => ⟨fun n9 => ⟨fun n10 => ⟨I3, by rw [put I7 e7]; have : zoc x = 5 := by { unfold zoc; rw [if_neg (fun q => n8 (q8.mpr q)), if_neg (fun q => n9 (q9.mpr q)), if_neg (fun q => n10 (q10.mpr q))] }; rw [this] at a1; exact a1, b1⟩, fun e10 => ⟨I3, by rw [put I7 e7]; have : zoc x = 4 := by { rw [q10.mp e10]; rfl }; rw [this] at a1; exact a1, b1⟩⟩, fun e9 => ⟨I3, by rw [put I7 e7]; have : zoc x = 3 := by { rw [q9.mp e9]; rfl }; rw [this] at a1; exact a1, b1⟩⟩, fun e8 => ⟨I3, by rw [put I7 e7]; have : zoc x = 2 := by { rw [q8.mp e8]; rfl }; rw [this] at a1; exact a1, b1⟩⟩ : ((¬ nI (zkr x) = 8 → ((¬ nI (zkr x) = 9 → ((¬ nI (zkr x) = 10 → (∃ (I3 : zI), zE d kX12_emit 0 [some (.ref 420), some (.int 5), some (.int 0)] [] Z I7 J (none, Z, I3, J) ∧ zE (d + 1) kX12_comesOut 0 [some (.ref 420), some (.int (if b = 2 then 1 else 0)), none] [] Z I3 J (none, Z, I4, J))) ∧ (nI (zkr x) = 10 → (∃ (I4' : zI), zE d kX12_emit 0 [some (.ref 420), some (.int 4), some (.int 0)] [] Z I7 J (none, Z, I4', J) ∧ zE (d + 1) kX12_comesOut 0 [some (.ref 420), some (.int (if b = 2 then 1 else 0)), none] [] Z I4' J (none, Z, I4, J))))) ∧ (nI (zkr x) = 9 → (∃ (I5 : zI), zE d kX12_emit 0 [some (.ref 420), some (.int 3), some (.int 0)] [] Z I7 J (none, Z, I5, J) ∧ zE (d + 1) kX12_comesOut 0 [some (.ref 420), some (.int (if b = 2 then 1 else 0)), none] [] Z I5 J (none, Z, I4, J))))) ∧ (nI (zkr x) = 8 → (∃ (I6 : zI), zE d kX12_emit 0 [some (.ref 420), some (.int 2), some (.int 0)] [] Z I7 J (none, Z, I6, J) ∧ zE (d + 1) kX12_comesOut 0 [some (.ref 420), some (.int (if b = 2 then 1 else 0)), none] [] Z I6 J (none, Z, I4, J)))))
        refine ⟨fun _ => rest, fun ns => ?_⟩
        have b2 : b = 2 := by
          rcases hb with e | e
          · rw [e] at ns; exact absurd rfl ns
          · exact e
        have zb2 : zbn x = 2 := by have : zbn x ≤ 2 := by { unfold zbn; (repeat' split) <;> omega }; omega
        refine ⟨fun e8 => ?_, fun _ => ⟨fun _ => rest, fun e9 => ?_⟩⟩
        · rw [q8.mp e8] at zb2; exact absurd zb2 (by decide)
        · rw [q9.mp e9] at zb2; exact absurd zb2 (by decide)
      · show zMx I4 s c op (zrel b w).2 (out ++ ((zoc x, (0 : Int32)) :: (zrel b w).1))
        rw [List.append_assoc] at b2
        exact b2
    · rw [zrel_stop cb]
      refine ⟨I, BX12_comesOut_0 _ hL ⟨fun q => absurd q n0, fun _ => ⟨hv, fun y ey => ?_⟩⟩, by show zMx I s c op (x :: w) (out ++ []); rw [List.append_nil]; exact h, zfX.rf⟩
      rw [hy] at ey
      rw [ey]
      refine ⟨fun _ => rfl, fun n6 => ?_⟩
      have x40 : x ≠ 40 := fun e => n6 (q6.mpr e)
      have zb1 : zbn x = 1 ∧ b = 2 := by
        have hx := hm x (List.mem_cons_self ..)
        have : ∀ y ∈ zwL, y ≠ 40 → 1 ≤ zbn y ∧ zbn y ≤ 2 := by decide
        have := this x hx x40
        omega
      have e1 : (if b = 2 then (1 : Int32) else 0) = 1 := if_pos zb1.2
      have xx : x = 43 ∨ x = 45 := by
        have : ∀ y ∈ zwL, zbn y = 1 → y = 43 ∨ y = 45 := by decide
        exact this x (hm x (List.mem_cons_self ..)) zb1.1
      refine ⟨fun q => ?_, fun _ => ⟨fun _ => rfl, fun n8 => ⟨fun n9 => ?_, fun _ => rfl⟩⟩⟩
      · rw [e1] at q; exact absurd q (by decide)
      · rcases xx with e | e
        · exact absurd (q8.mpr e) n8
        · exact absurd (q9.mpr e) n9
end

/-! the reference's reader: how it begins -/
section
variable {d : Nat} {Z : zZ} {I I' I0 : zI} {J J' : zJ} {t u s v L : Nat} {B : Nat → Nat} {o : zO}
theorem M_plain0 (hL : zLY Z t u) (hs : s < 2) : ∃ I', zE d kX12_plain0 0 [some (.ref 420), some (.int (nI s)), none] [] Z I J (none, Z, I', J) ∧ zfS s I I' ∧ (I' 420 = I 420 ∧ I' 432 = I 432 ∧ I' 433 = I 433) ∧ (I' 431 s = 0 ∧ I' 429 s = 6 ∧ I' 430 s = 6 ∧ I' 441 s = 0 ∧ I' 438 s = 0) ∧ (∀ p, p < 8 → I' 445 (8 * s + p) = 0 ∧ I' 446 (8 * s + p) = 0) ∧ ∀ m, m < 7 → I' 434 (7 * s + m) = 0 ∧ I' 435 (7 * s + m) = 0 := by
  obtain ⟨I5, e5⟩ : ∃ I5 : zI, I5 = zu (zu (zu (zu (zu I 429 s 6) 430 s 6) 431 s 0) 438 s 0) 441 s 0 := ⟨_, rfl⟩
  have f5 : zfS s I I5 := by
    rw [e5]
    exact ((((zfS.put (n := 1) (by decide) (by decide) (by decide) (by omega) (by omega)).tr (zfS.put (n := 1) (by decide) (by decide) (by decide) (by omega) (by omega))).tr (zfS.put (n := 1) (by decide) (by decide) (by decide) (by omega) (by omega))).tr (zfS.put (n := 1) (by decide) (by decide) (by decide) (by omega) (by omega))).tr (zfS.put (n := 1) (by decide) (by decide) (by decide) (by omega) (by omega))
  have loop77 : ∀ f k (I1 : zI), k + f = 7 → zfS s I I1 → (∀ a, a ≠ 434 → a ≠ 435 → a ≠ 445 → a ≠ 446 → I1 a = I5 a) → (∀ p, p < 8 → I1 445 (8 * s + p) = 0 ∧ I1 446 (8 * s + p) = 0) → (∀ m, m < k → I1 434 (7 * s + m) = 0 ∧ I1 435 (7 * s + m) = 0) → ∃ I', zE d kX12_plain0 77 [some (.ref 420), some (.int (nI s)), some (.int (nI k))] [] Z I1 J (none, Z, I', J) ∧ zfS s I I' ∧ (∀ a, a ≠ 434 → a ≠ 435 → a ≠ 445 → a ≠ 446 → I' a = I5 a) ∧ (∀ p, p < 8 → I' 445 (8 * s + p) = 0 ∧ I' 446 (8 * s + p) = 0) ∧ ∀ m, m < 7 → I' 434 (7 * s + m) = 0 ∧ I' 435 (7 * s + m) = 0 := by
    intro f
    induction f with
    | zero =>
      intro k I1 hk h1 h2 h3 h4
      obtain rfl : k = 7 := by omega
      exact ⟨I1, BX12_plain0_77 _ _ hL ⟨fun _ => rfl, fun q => absurd (by decide) q⟩, h1, h2, h3, h4⟩
    | succ f ih =>
      intro k I1 hk h1 h2 h3 h4
      have n7 : ¬ 7 ≤ nI k := by rw [show (7 : Int32) = nI 7 from rfl, zle' (by decide) (by omega)]; omega
      have eix : (7 : Int32) * nI s + nI k = nI (7 * s + k) := by rw [show (7 : Int32) = nI 7 from rfl, zmul, zadd]
      have hv : vp_in ((7 : Int32) * nI s + nI k) 14 := by rw [eix]; exact zvin (by omega) (by decide)
      obtain ⟨I2, e2⟩ : ∃ I2 : zI, I2 = zu (zu I1 434 (7 * s + k) 0) 435 (7 * s + k) 0 := ⟨_, rfl⟩
      obtain ⟨I', g1, g2, g3, g4, g5⟩ := ih (k + 1) I2 (by omega) (h1.tr (by rw [e2]; exact (zfS.put (n := 7) (by decide) (by decide) (by decide) (by omega) (by omega)).tr (zfS.put (n := 7) (by decide) (by decide) (by decide) (by omega) (by omega)))) (fun a p q r w => by rw [e2, zu_ne q, zu_ne p, h2 a p q r w]) (fun p hp => by rw [e2, zu_ne (by decide), zu_ne (by decide), zu_ne (by decide), zu_ne (by decide)]; exact h3 p hp) (fun m hm => by
        rw [e2]
        by_cases e : m = k
        · rw [e, zu_eq, zu_ne (by decide), zu_eq]; exact ⟨rfl, rfl⟩
        · rw [zu_ne (b := 434) (by decide), zu_k (by omega), zu_k (by omega), zu_ne (by decide)]; exact h4 m (by omega))
      exact ⟨I', BX12_plain0_77 _ _ hL ⟨fun q => absurd q n7, fun _ => ⟨hv, fun y1 ey1 => ⟨hv, fun y2 ey2 => by rw [ey2, ey1, eix, zclm (by omega), ← e2, zadd1]; exact g1⟩⟩⟩, g2, g3, g4, g5⟩
  have loop39 : ∀ f k (I1 : zI), k + f = 8 → zfS s I I1 → (∀ a, a ≠ 445 → a ≠ 446 → I1 a = I5 a) → (∀ p, p < k → I1 445 (8 * s + p) = 0 ∧ I1 446 (8 * s + p) = 0) → ∃ I', zE d kX12_plain0 39 [some (.ref 420), some (.int (nI s)), some (.int (nI k))] [] Z I1 J (none, Z, I', J) ∧ zfS s I I' ∧ (∀ a, a ≠ 434 → a ≠ 435 → a ≠ 445 → a ≠ 446 → I' a = I5 a) ∧ (∀ p, p < 8 → I' 445 (8 * s + p) = 0 ∧ I' 446 (8 * s + p) = 0) ∧ ∀ m, m < 7 → I' 434 (7 * s + m) = 0 ∧ I' 435 (7 * s + m) = 0 := by
    intro f
    induction f with
    | zero =>
      intro k I1 hk h1 h2 h3
      obtain rfl : k = 8 := by omega
      obtain ⟨I', g1, g2⟩ := loop77 7 0 I1 rfl h1 (fun a _ _ r w => h2 a r w) h3 (fun m hm => absurd hm (Nat.not_lt_zero _))
      exact ⟨I', BX12_plain0_39 _ _ hL ⟨fun _ => g1, fun q => absurd (by decide) q⟩, g2⟩
    | succ f ih =>
      intro k I1 hk h1 h2 h3
      have n8 : ¬ 8 ≤ nI k := by rw [show (8 : Int32) = nI 8 from rfl, zle' (by decide) (by omega)]; omega
      have eix : (8 : Int32) * nI s + nI k = nI (8 * s + k) := by rw [show (8 : Int32) = nI 8 from rfl, zmul, zadd]
      have hv : vp_in ((8 : Int32) * nI s + nI k) 16 := by rw [eix]; exact zvin (by omega) (by decide)
      obtain ⟨I2, e2⟩ : ∃ I2 : zI, I2 = zu (zu I1 445 (8 * s + k) 0) 446 (8 * s + k) 0 := ⟨_, rfl⟩
      obtain ⟨I', g1, g2⟩ := ih (k + 1) I2 (by omega) (h1.tr (by rw [e2]; exact (zfS.put (n := 8) (by decide) (by decide) (by decide) (by omega) (by omega)).tr (zfS.put (n := 8) (by decide) (by decide) (by decide) (by omega) (by omega)))) (fun a r w => by rw [e2, zu_ne w, zu_ne r, h2 a r w]) (fun p hp => by
        rw [e2]
        by_cases e : p = k
        · rw [e, zu_eq, zu_ne (by decide), zu_eq]; exact ⟨rfl, rfl⟩
        · rw [zu_ne (b := 445) (by decide), zu_k (by omega), zu_k (by omega), zu_ne (by decide)]; exact h3 p (by omega))
      exact ⟨I', BX12_plain0_39 _ _ hL ⟨fun q => absurd q n8, fun _ => ⟨hv, fun y1 ey1 => ⟨hv, fun y2 ey2 => by rw [ey2, ey1, eix, zclm (by omega), ← e2, zadd1]; exact g1⟩⟩⟩, g2⟩
  obtain ⟨I', g1, g2, g3, g4, g5⟩ := loop39 8 0 I5 rfl f5 (fun _ _ _ => rfl) (fun p hp => absurd hp (Nat.not_lt_zero _))
  have hv : vp_in (nI s) 2 := zvin hs (by decide)
  have r5 : ∀ a, a ≠ 429 → a ≠ 430 → a ≠ 431 → a ≠ 438 → a ≠ 441 → I5 a = I a := fun a p1 p2 p3 p4 p5 => by rw [e5, zu_ne p5, zu_ne p4, zu_ne p3, zu_ne p2, zu_ne p1]
  refine ⟨I', BX12_plain0_0 _ hL ⟨hv, fun y1 h1 => ⟨hv, fun y2 h2 => ⟨hv, fun y3 h3 => ⟨hv, fun y4 h4 => ⟨hv, fun y5 h5 => ?_⟩⟩⟩⟩⟩, g2, ⟨?_, ?_, ?_⟩, ⟨?_, ?_, ?_, ?_, ?_⟩, g4, g5⟩
  · rw [h5, h4, h3, h2, h1, zclm (by omega), ← e5]; exact g1
  · rw [g3 420 (by decide) (by decide) (by decide) (by decide), r5 420 (by decide) (by decide) (by decide) (by decide) (by decide)]
  · rw [g3 432 (by decide) (by decide) (by decide) (by decide), r5 432 (by decide) (by decide) (by decide) (by decide) (by decide)]
  · rw [g3 433 (by decide) (by decide) (by decide) (by decide), r5 433 (by decide) (by decide) (by decide) (by decide) (by decide)]
  · rw [g3 431 (by decide) (by decide) (by decide) (by decide), e5, zu_ne (by decide), zu_ne (by decide), zu_eq]
  · rw [g3 429 (by decide) (by decide) (by decide) (by decide), e5, zu_ne (by decide), zu_ne (by decide), zu_ne (by decide), zu_ne (by decide), zu_eq]
  · rw [g3 430 (by decide) (by decide) (by decide) (by decide), e5, zu_ne (by decide), zu_ne (by decide), zu_ne (by decide), zu_eq]
  · rw [g3 441 (by decide) (by decide) (by decide) (by decide), e5, zu_eq]
  · rw [g3 438 (by decide) (by decide) (by decide) (by decide), e5, zu_ne (by decide), zu_eq]
theorem zby_and (x : Int32) : (vp_nar .byte x) &&& 255 = x &&& 255 := by rw [vp_nar_byte, bp_b]
theorem M_copy (hL : zLY Z t u) (h4 : I0 420 4 = nI L) (hLL : L ≤ 2000) : ∀ (f i : Nat) (I : zI), i + f = L → (∀ a, a ≠ 422 → I a = I0 a) → (∀ j, j < i → I 422 j = vp_nar .byte (I0 421 j)) → ∃ I', (∀ o, zE (d + 7) kX12_read 10 [some (.ref 420), some (.int (nI L))] [] Z I' J o → zE (d + 7) kX12_read 10 [some (.ref 420), some (.int (nI i))] [] Z I J o) ∧ (∀ a, a ≠ 422 → I' a = I0 a) ∧ ∀ j, j < L → I' 422 j = vp_nar .byte (I0 421 j) := by
  intro f
  induction f with
  | zero =>
    intro i I hi h1 h2
    obtain rfl : i = L := by omega
    exact ⟨I, fun o ho => ho, h1, h2⟩
  | succ f ih =>
    intro i I hi h1 h2
    have n4 : ¬ I 420 4 ≤ nI i := by rw [h1 420 (by decide), h4, zle' (by omega) (by omega)]; omega
    obtain ⟨I2, e2⟩ : ∃ I2 : zI, I2 = zu I 422 i (vp_nar .byte (I 421 i)) := ⟨_, rfl⟩
    obtain ⟨I', g1, g2, g3⟩ := ih (i + 1) I2 (by omega) (fun a p => by rw [e2, zu_ne p, h1 a p]) (fun j hj => by
      rw [e2]
      by_cases e : j = i
      · rw [e, zu_eq, h1 421 (by decide)]
      · rw [zu_k e]; exact h2 j (by omega))
    exact ⟨I', fun o ho => BX12_read_10 _ hL ⟨fun q => absurd q n4, fun _ => ⟨zvin (by omega) (by decide), zvin (by omega) (by decide), fun y ey => by rw [ey, zclm (by omega), ← e2, zadd1]; exact g1 o ho⟩⟩, g2, g3⟩
/-- what the reference's read may write, but for its end -/
def zfH (s : Nat) (I I' : zI) : Prop := (∀ a, a ≠ 420 → ¬ (422 ≤ a ∧ a ≤ 425) → ¬ (429 ≤ a ∧ a ≤ 454) → I' a = I a) ∧ (∀ k, k ∉ [2, 4, 10, 11, 12, 13, 14, 15, 16, 19, 20, 35, 41, 47, 51] → I' 420 k = I 420 k) ∧ ∀ a, 429 ≤ a → a ≤ 453 → ¬ (442 ≤ a ∧ a ≤ 444) → ∀ j, (j < zwid a * s ∨ zwid a * s + zwid a ≤ j) → I' a j = I a j
theorem zfH.tr {I'' : zI} (h1 : zfH s I I') (h2 : zfH s I' I'') : zfH s I I'' := ⟨fun a p q r => (h2.1 a p q r).trans (h1.1 a p q r), fun k p => (h2.2.1 k p).trans (h1.2.1 k p), fun a p q r j z => (h2.2.2 a p q r j z).trans (h1.2.2 a p q r j z)⟩
theorem zfS.H (h : zfS s I I') : zfH s I I' := ⟨fun a p _ r => h.1 a p r, fun k hk => h.2.1 k (fun q => hk ((by decide : ∀ x ∈ [11, 12, 13, 14, 15, 16, 20, 35, 41, 47, 51], x ∈ [2, 4, 10, 11, 12, 13, 14, 15, 16, 19, 20, 35, 41, 47, 51]) k q)), h.2.2⟩
theorem zf4.H {F : List Nat} (h : zf4 F I I') (hF : ∀ k ∈ F, k ∈ [2, 4, 10, 11, 12, 13, 14, 15, 16, 19, 20, 35, 41, 47, 51]) : zfH s I I' := ⟨fun a p _ _ => h.1 a p, fun k hk => h.2 k (fun q => hk (hF k q)), fun a p q r j _ => by rw [h.1 a (by omega)]⟩
theorem M_head (hL : zLY Z t u) (hv : v < 2) (hs : s = 1 - v) (h18 : I 420 18 = nI v) (hLL : L ≤ 2000) (h2 : I 420 2 = nI L) (hb : ∀ i, i < L → B i < 256 ∧ I 421 i &&& 255 = nI (B i)) (hK : zKm J) (hD : zDr I) (C : Nat → Nat × Nat × Nat) : ∃ I' J', (∀ o, zE (d + 7) kX12_read 117 [some (.ref 420), none] [] Z I' J' o → zE (d + 7) kX12_read 0 [some (.ref 420), none] [] Z I J o) ∧ zTM I' J' (zknd B L) (zplc B L) (zvlu B L) (zx27 B L) ∧ zMS I' J' s (zknd B L) (zplc B L) (znam B L) (zx27 B L) (zps0 C) ∧ zfH s I I' ∧ I' 420 2 = 0 ∧ ∀ a, a ≠ 426 → J' a = J a := by
  have hs2 : s < 2 := by omega
  obtain ⟨I0, e0⟩ : ∃ I0 : zI, I0 = zu I 420 4 (nI L) := ⟨_, rfl⟩
  obtain ⟨Ia, a1, a2, a3⟩ := M_copy (d := d) (J := J) hL (I0 := I0) (L := L) (by rw [e0, zu_eq]) hLL L 0 I0 (by omega) (fun _ _ => rfl) (fun j hj => absurd hj (Nat.not_lt_zero _))
  obtain ⟨I1, e1⟩ : ∃ I1 : zI, I1 = zu Ia 420 2 0 := ⟨_, rfl⟩
  have k1 : ∀ k, k ≠ 2 → k ≠ 4 → I1 420 k = I 420 k := fun k p q => by rw [e1, zu_k p, a2 420 (by decide), e0, zu_k q]
  have r1 : ∀ a, a ≠ 420 → a ≠ 422 → I1 a = I a := fun a p q => by rw [e1, zu_ne p, a2 a q, e0, zu_ne p]
  have hBm : zBm I1 B L := ⟨hLL, by rw [e1, zu_k (by decide), a2 420 (by decide), e0, zu_eq], fun i hi => ⟨(hb i hi).1, by rw [e1, zu_ne (by decide), a3 i hi, zby_and, e0, zu_ne (by decide)]; exact (hb i hi).2⟩⟩
  obtain ⟨I2, J3, c1, c2, ⟨c3, c4⟩, c5⟩ := M_cut0 (d := d + 4) hL hBm hK
  obtain ⟨I10, e10⟩ : ∃ I10 : zI, I10 = zu (zu (zu (zu (zu (zu (zu I2 420 11 0) 420 12 0) 420 13 0) 420 15 0) 420 19 (nI s)) 420 20 0) 420 35 0 := ⟨_, rfl⟩
  have f10 : zf4 [11, 12, 13, 15, 19, 20, 35] I2 I10 := by
    rw [e10]
    exact (((((((zf4.put (by decide)).tr (zf4.put (by decide))).tr (zf4.put (by decide))).tr (zf4.put (by decide))).tr (zf4.put (by decide))).tr (zf4.put (by decide))).tr (zf4.put (by decide)))
  have i19 : I10 420 19 = nI s := by rw [e10, zu_k (by decide), zu_k (by decide), zu_eq]
  obtain ⟨I11, p1, p2, ⟨p3, p4, p5⟩, ⟨q1, q2, q3, q4, q5⟩, p6, p7⟩ := M_plain0 (d := d + 6) (J := J3) (I := I10) hL hs2
  obtain ⟨I13, e13⟩ : ∃ I13 : zI, I13 = zu (zu I11 420 41 (nI (130 * s))) 420 47 (nI (420 * s)) := ⟨_, rfl⟩
  have f13 : zf4 [41, 47] I11 I13 := by rw [e13]; exact (zf4.put (by decide)).tr (zf4.put (by decide))
  have i19' : I11 420 19 = nI s := by rw [p3]; exact i19
  have kk : ∀ k, k ≠ 41 → k ≠ 47 → I13 420 k = I10 420 k := fun k x y => by rw [f13.2 k (by simp; omega), p3]
  have hT : zTM I13 J3 (zknd B L) (zplc B L) (zvlu B L) (zx27 B L) := fun i hi hg => by
    rw [f13.1 423 (by decide), f13.1 424 (by decide), f13.1 425 (by decide), p2.1 423 (by decide) (by decide), p2.1 424 (by decide) (by decide), p2.1 425 (by decide) (by decide), f10.1 423 (by decide), f10.1 424 (by decide), f10.1 425 (by decide)]
    exact c2 i hi hg
  have z0 : zsum (ztau0 4) 0 (ztau0 0 0) = 0 := rfl
  have row : ∀ a, a ≠ 420 → I13 a = I11 a := f13.1
  refine ⟨I13, J3, fun o ho => BX12_read_0 hL (fun y ey => ?_), hT, ⟨⟨⟨⟨by decide, fun j hj => absurd hj (Nat.not_lt_zero _)⟩, ?_, ?_⟩, fun t0 q => ?_⟩, ⟨?_, ?_, 0, by decide, ?_⟩, fun t0 q => ?_⟩, ?_, ?_, c5⟩
  · have : y = I0 := by rw [ey, h2, e0]
    rw [this]
    refine a1 o (BX12_read_10 _ hL ⟨fun _ y1 ey1 => ?_, fun q => absurd (by rw [a2 420 (by decide), e0, zu_eq]; exact Int32.le_refl _) q⟩)
    rw [← e1] at ey1
    rw [ey1]
    refine ⟨I2, J3, c1, fun y4 h4 y5 h5 y6 h6 y7 h7 y8 h8 y9 h9 y10 h10 => ?_⟩
    have e18 : (1 : Int32) - y7 420 18 = nI s := by
      rw [h7, zu_k (by decide), h6, zu_k (by decide), h5, zu_k (by decide), h4, zu_k (by decide), c4 18 (by decide), k1 18 (by decide) (by decide), h18, show (1 : Int32) = nI 1 from rfl, zsub (by omega), hs]
    have ey10 : y10 = I10 := by rw [h10, h9, h8, e18, h7, h6, h5, h4, e10]
    rw [ey10]
    refine ⟨I11, by rw [i19]; exact p1, fun y12 h12 y13 h13 => ?_⟩
    have e12 : y12 = zu I11 420 41 (nI (130 * s)) := by rw [h12, i19', show (130 : Int32) = nI 130 from rfl, zmul]
    have e12' : y12 420 19 = nI s := by rw [e12, zu_k (by decide)]; exact i19'
    have : y13 = I13 := by rw [h13, e12', show (420 : Int32) = nI 420 from rfl, zmul, e12, e13]
    rw [this]; exact ho
  · rw [kk 13 (by decide) (by decide), e10, zu_k (by decide), zu_k (by decide), zu_k (by decide), zu_k (by decide), zu_eq]
  · rw [kk 11 (by decide) (by decide), e10, zu_k (by decide), zu_k (by decide), zu_k (by decide), zu_k (by decide), zu_k (by decide), zu_k (by decide), zu_eq]; rfl
  · show I13 420 15 = 0
    rw [kk 15 (by decide) (by decide), e10, zu_k (by decide), zu_k (by decide), zu_k (by decide), zu_eq]
  · rw [kk 19 (by decide) (by decide)]; exact i19
  · exact hD.row (by rw [row 432 (by decide), p4, f10.1 432 (by decide), c3 432 (by decide) (by decide) (by decide) (by decide), r1 432 (by decide) (by decide)]) (by rw [row 433 (by decide), p5, f10.1 433 (by decide), c3 433 (by decide) (by decide) (by decide) (by decide), r1 433 (by decide) (by decide)])
  · rw [e13, zu_k (by decide), zu_eq]; rfl
  · have : t0 = 0 := by have := Except.ok.inj q; exact this.symm
    subst this
    refine ⟨0, 0, ⟨by decide, by decide, by rw [e13, zu_k (by decide), zu_eq]; rfl, by rw [e13, zu_eq]; rfl, by rw [kk 12 (by decide) (by decide), e10, zu_k (by decide), zu_k (by decide), zu_k (by decide), zu_k (by decide), zu_k (by decide), zu_eq]⟩, ?_, ⟨⟨(by decide : 0 ≤ 7), by rw [kk 20 (by decide) (by decide), e10, zu_k (by decide), zu_eq]; rfl⟩, fun m hm => absurd hm (Nat.not_lt_zero _)⟩, ⟨by rw [kk 35 (by decide) (by decide), e10, zu_eq]; rfl, rfl⟩, fun i hi => absurd hi (Nat.not_lt_zero _)⟩
    show zMX I13 s 0 0 ztau0 (fun _ => none)
    unfold zMX
    rw [row 431 (by decide), row 429 (by decide), row 430 (by decide), row 441 (by decide), row 438 (by decide), row 434 (by decide), row 435 (by decide)]
    refine ⟨⟨by decide, by decide, fun m hm => absurd hm (Nat.not_lt_zero _)⟩, ⟨q1, q2, q3, q4, q5⟩, fun m hm => absurd hm (Nat.not_lt_zero _), fun m _ hm => p7 m hm, fun m i hm => absurd hm (Nat.not_lt_zero _), fun i hi => absurd hi (Nat.not_lt_zero _), fun p hp => ?_⟩
    show I13 445 (8 * s + p) = I13 446 (8 * s + p)
    rw [row 445 (by decide), row 446 (by decide), (p6 p hp).1, (p6 p hp).2]
  · have g1 : zfH s I I1 := ⟨fun a x y z => r1 a x (by omega), fun k hk => k1 k (fun e => hk (by rw [e]; decide)) (fun e => hk (by rw [e]; decide)), fun a x y z j _ => by rw [r1 a (by omega) (by omega)]⟩
    have g2 : zfH s I1 I2 := ⟨fun a x y z => c3 a x (by omega) (by omega) (by omega), fun k hk => c4 k (fun e => hk (by rw [e]; decide)), fun a x y z j _ => by rw [c3 a (by omega) (by omega) (by omega) (by omega)]⟩
    exact ((g1.tr g2).tr (f10.H (by decide))).tr (p2.H.tr (f13.H (by decide)))
  · rw [kk 2 (by decide) (by decide), f10.2 2 (by decide), c4 2 (by decide), e1, zu_eq]
end

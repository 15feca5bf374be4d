/-! the reference's reader: a LAW, whole -/
def zfW (s b c : Nat) (I I' : zI) : Prop := (∀ a, a ≠ 420 → ¬ (445 ≤ a ∧ a ≤ 454) → I' a = I a) ∧ (∀ k, k ∉ [11, 12, 13, 14, 41, 47, 51] → I' 420 k = I 420 k) ∧ (∀ a, 447 ≤ a → a ≤ 451 → ∀ j, (j < 130 * s + b ∨ 130 * s + 130 ≤ j) → I' a j = I a j) ∧ (∀ j, (j < 420 * s + c ∨ 420 * s + 420 ≤ j) → I' 452 j = I 452 j ∧ I' 453 j = I 453 j) ∧ ∀ j, (j < 8 * s ∨ 8 * s + 8 ≤ j) → I' 445 j = I 445 j ∧ I' 446 j = I 446 j
theorem zfL.W {s b c : Nat} {I I' : zI} (h : zfL s b c I I') : zfW s b c I I' := ⟨fun a p q => h.1 a p (by omega), h.2.1, h.2.2.1, h.2.2.2, fun j _ => by rw [h.1 445 (by decide) (by decide), h.1 446 (by decide) (by decide)]; exact ⟨rfl, rfl⟩⟩
theorem zfW.tr {s b c : Nat} {I I' I'' : zI} (h1 : zfW s b c I I') (h2 : zfW s b c I' I'') : zfW s b c I I'' := ⟨fun a p q => (h2.1 a p q).trans (h1.1 a p q), fun k p => (h2.2.1 k p).trans (h1.2.1 k p), fun a p q j z => (h2.2.2.1 a p q j z).trans (h1.2.2.1 a p q j z), fun j p => ⟨((h2.2.2.2.1 j p).1).trans (h1.2.2.2.1 j p).1, ((h2.2.2.2.1 j p).2).trans (h1.2.2.2.1 j p).2⟩, fun j p => ⟨((h2.2.2.2.2 j p).1).trans (h1.2.2.2.2 j p).1, ((h2.2.2.2.2 j p).2).trans (h1.2.2.2.2 j p).2⟩⟩
/-- after the last sign of a LAW -/
def zLtl (Z : zZ) (J : zJ) (x1 x2 : Int32) (I3 : zI) (o : zO) : Prop := (0 < (I3 420 13) → o = (none, Z, I3, J)) ∧ (¬ 0 < (I3 420 13) → ((0 ≤ x1 → (vp_in (((8 : Int32) * (I3 420 19)) + x1) 16 ∧ (∀ I4 : zI, I4 = zu I3 445 (((8 : Int32) * (I3 420 19)) + x1).toNatClampNeg x2 → (vp_in (((8 : Int32) * (I4 420 19)) + x1) 16 ∧ (∀ I5 : zI, I5 = zu I4 446 (((8 : Int32) * (I4 420 19)) + x1).toNatClampNeg (I4 420 41) → o = (none, Z, I5, J)))))) ∧ (¬ 0 ≤ x1 → o = (none, Z, I3, J))))
section
variable {d : Nat} {Z : zZ} {I I' : zI} {J : zJ} {t u s c b t0 : Nat} {K P V W X : Nat → Nat} {r : zRt} {o : zO}
theorem M_lawEnd (hL : zLY Z t u) (hT : zTM I J K P V X) (hB : zMB K P V W X) (hs : s < 2) (hb : b < 130) (h41 : I 420 41 = nI (130 * s + b)) (h : zMt I K P r) (hc : ∀ t0, r = .ok t0 → c ≤ t0 ∧ I 420 47 = nI (420 * s + c) ∧ I 420 12 = 0) (x1 x2 : Int32) :
    ∃ I2, (∀ o I3, zE (d + 4) kX12_must 0 [some (.ref 420), some (.int 4)] [] Z I2 J (none, Z, I3, J) → zLtl Z J x1 x2 I3 o → zE (d + 5) kX12_tellLaw 129 [some (.ref 420), some (.int x1), some (.int x2), none] [] Z I J o) ∧ zMt I2 K P (zrt (zxR K V r)) ∧ zfL s b c I I2 ∧ I2 420 41 = nI (130 * s + (b + 1)) ∧ ∀ q, zxR K V r = .ok q → zmlv I2 (130 * s) (130 * s + (b + 1)) (420 * s) (420 * s + (c + q.2.length)) (130 * s + b) [] q.2 ∧ I2 420 47 = nI (420 * s + (c + q.2.length)) ∧ I2 420 12 = 0 ∧ zpw q.2 0 ∧ c + q.2.length ≤ q.1 := by
  obtain ⟨I1, e1⟩ : ∃ I1 : zI, I1 = zu I 447 (130 * s + b) 0 := ⟨_, rfl⟩
  have f1 : zfL s b c I I1 := by rw [e1]; exact zfL.put (by decide) (by decide) (by omega) (by omega)
  have k1 : ∀ k, I1 420 k = I 420 k := fun k => by rw [e1, zu_ne (by decide)]
  obtain ⟨I2, a2, m2, f2, ⟨b2, r2, -, -⟩, q2⟩ := M_term (d := d) (c := c) hL (hT.fl f1) hB hs hb ((k1 41).trans h41) (by rw [e1]; exact h.pt (by decide)) (fun t1 q => by
    obtain ⟨z1, z2, z3⟩ := hc t1 q
    exact ⟨z1, (k1 47).trans z2, (k1 12).trans z3⟩)
  refine ⟨I2, fun o I3 hm ht => BX12_tellLaw_129 _ _ hL ⟨by rw [h41]; exact zvin (by omega) (by decide), fun y ey => ?_⟩, m2, f1.tr f2, b2, fun q hq => ?_⟩
  · have : y = I1 := by rw [ey, h41, zclm (by omega), e1]; rfl
    rw [this]
    exact ⟨I2, a2, I3, hm, ht⟩
  · obtain ⟨⟨z1, z1'⟩, z2, z3, z4, z5, z6⟩ := q2 q hq
    exact ⟨⟨⟨by omega, by omega⟩, by rw [r2, e1, zu_eq], 420 * s + c, z1, z1', ⟨by omega, by omega⟩, z3⟩, by rw [z2, Nat.add_assoc], z4, z5, z6⟩
theorem M_law12E (hL : zLY Z t u) (hT : zTM I J K P V X) (hB : zMB K P V W X) (hs : s < 2) (hb : b < 130) (h41 : I 420 41 = nI (130 * s + b)) {e : Nat × Nat} (h : zMt I K P (.error e)) (x1 x2 x3 : Int32) : ∃ I', zE (d + 5) kX12_tellLaw 12 [some (.ref 420), some (.int x1), some (.int x2), some (.int x3)] [] Z I J (none, Z, I', J) ∧ zMt I' K P (.error e) ∧ zfL s b c I I' ∧ I' 420 41 = nI (130 * s + (b + 1)) := by
  obtain ⟨I2, a2, m2, f2, b2, -⟩ := M_lawEnd (d := d) (c := c) hL hT hB hs hb h41 h (fun t1 q => absurd q (by simp)) x1 x2
  obtain ⟨I3, a3, m3, f3⟩ := M_must (d := d + 2) hL (hT.fl f2) hB m2 (k := 59) (by decide) (by decide)
  have m3' : zMt I3 K P (.error e) := m3
  exact ⟨I3, BX12_tellLaw_12 _ _ _ hL ⟨fun _ => a2 _ I3 a3 ⟨fun _ => rfl, fun q => absurd m3'.e0.2.2 q⟩, fun q => absurd q h.e0.1⟩, m3', f2.tr (f3.L (by decide)), by rw [f3.2 41 (by decide)]; exact b2⟩
/-- a LAW, up to its last sign -/
theorem M_law12 (hL : zLY Z t u) (hB : zMB K P V W X) (hs : s < 2) (x1 x2 : Int32) : ∀ (f t0 b c : Nat) (I : zI), f ≤ 4 → zTM I J K P V X → zMt I K P (.ok t0) → I 420 41 = nI (130 * s + b) → 4 * b + 2 ≤ t0 → (c ≤ t0 ∧ I 420 47 = nI (420 * s + c) ∧ I 420 12 = 0) →
    ∃ I2, zfL s b c I I2 ∧ match zlawp K V f t0 with
      | .error e => zMt I2 K P (.error e) ∧ zE (d + 5) kX12_tellLaw 12 [some (.ref 420), some (.int x1), some (.int x2), some (.int (nI (4 - f)))] [] Z I J (none, Z, I2, J) ∧ ∃ b', b' ≤ 130 ∧ I2 420 41 = nI (130 * s + b')
      | .ok q => zMt I2 K P (.ok q.1) ∧ I2 420 41 = nI (130 * s + (b + q.2.1.length + 1)) ∧ (∃ m, I2 420 47 = nI (420 * s + (c + m)) ∧ c + m ≤ q.1 ∧ zmlv I2 (130 * s) (130 * s + (b + q.2.1.length + 1)) (420 * s) (420 * s + (c + m)) (130 * s + b) q.2.1 q.2.2) ∧ (I2 420 12 = 0 ∧ zlwOK q.2 ∧ 4 * (b + q.2.1.length + 1) ≤ q.1 + 1) ∧ ∀ o I3, zE (d + 4) kX12_must 0 [some (.ref 420), some (.int 4)] [] Z I2 J (none, Z, I3, J) → zLtl Z J x1 x2 I3 o → zE (d + 5) kX12_tellLaw 12 [some (.ref 420), some (.int x1), some (.int x2), some (.int (nI (4 - f)))] [] Z I J o := by
  have ends : ∀ (x3 : Int32) (t0 b c : Nat) (I : zI), zTM I J K P V X → zMt I K P (.ok t0) → I 420 41 = nI (130 * s + b) → 4 * b + 2 ≤ t0 → (c ≤ t0 ∧ I 420 47 = nI (420 * s + c) ∧ I 420 12 = 0) → ¬ K t0 = 136 → ∃ I2, zfL s b c I I2 ∧ match zlend K V t0 with
      | .error e => zMt I2 K P (.error e) ∧ zE (d + 5) kX12_tellLaw 12 [some (.ref 420), some (.int x1), some (.int x2), some (.int x3)] [] Z I J (none, Z, I2, J) ∧ ∃ b', b' ≤ 130 ∧ I2 420 41 = nI (130 * s + b')
      | .ok q => zMt I2 K P (.ok q.1) ∧ I2 420 41 = nI (130 * s + (b + q.2.1.length + 1)) ∧ (∃ m, I2 420 47 = nI (420 * s + (c + m)) ∧ c + m ≤ q.1 ∧ zmlv I2 (130 * s) (130 * s + (b + q.2.1.length + 1)) (420 * s) (420 * s + (c + m)) (130 * s + b) q.2.1 q.2.2) ∧ (I2 420 12 = 0 ∧ zlwOK q.2 ∧ 4 * (b + q.2.1.length + 1) ≤ q.1 + 1) ∧ ∀ o I3, zE (d + 4) kX12_must 0 [some (.ref 420), some (.int 4)] [] Z I2 J (none, Z, I3, J) → zLtl Z J x1 x2 I3 o → zE (d + 5) kX12_tellLaw 12 [some (.ref 420), some (.int x1), some (.int x2), some (.int x3)] [] Z I J o := by
    intro x3 t0 b c I hT h h41 hb hc hk
    have ht := h.1.1
    obtain ⟨v, v1, v2⟩ := M_is (d := d + 4) hL hT hB h (k := 136) (by decide)
    have hv : v = 0 := Classical.not_not.mp fun q => by
      obtain ⟨t1, q1, q2⟩ := v2.mp q
      cases q1; exact hk q2
    obtain ⟨I2, a2, m2, f2, b2, q2⟩ := M_lawEnd (d := d) (c := c) (r := .ok t0) hL hT hB hs (by omega) h41 h (fun t1 q => by cases q; exact hc) x1 x2
    have go : ∀ o, zE (d + 5) kX12_tellLaw 129 [some (.ref 420), some (.int x1), some (.int x2), none] [] Z I J o → zE (d + 5) kX12_tellLaw 12 [some (.ref 420), some (.int x1), some (.int x2), some (.int x3)] [] Z I J o := fun o ho => BX12_tellLaw_12 _ _ _ hL ⟨fun _ => ho, fun _ => ⟨v, v1, fun _ => ho, fun q => absurd hv q⟩⟩
    have ez : zxR K V (.ok t0) = zxr K V t0 := rfl
    rw [ez] at m2 q2
    unfold zlend
    cases hx : zxr K V t0 with
    | error e =>
      rw [hx] at m2
      obtain ⟨I3, a3, m3, f3⟩ := M_must (d := d + 2) hL (hT.fl f2) hB m2 (k := 59) (by decide) (by decide)
      have m3' : zMt I3 K P (.error e) := m3
      exact ⟨I3, f2.tr (f3.L (by decide)), m3', go _ (a2 _ I3 a3 ⟨fun _ => rfl, fun q => absurd m3'.e0.2.2 q⟩), b + 1, by omega, by rw [f3.2 41 (by decide)]; exact b2⟩
    | ok q =>
      rw [hx] at m2
      obtain ⟨z1, z2, z3, z4, z5⟩ := q2 q hx
      have := zxr_lt hx
      exact ⟨I2, f2, m2, b2, ⟨q.2.length, z2, z5, z1⟩, ⟨z3, ⟨fun x hx => absurd hx (by simp), z4⟩, by show 4 * (b + 0 + 1) ≤ q.1 + 1; omega⟩, fun o I3 p1 p2 => go o (a2 o I3 p1 p2)⟩
  intro f
  induction f with
  | zero =>
    intro t0 b c I hf hT h h41 hb hc
    have ht := h.1.1
    by_cases hk : K t0 = 136
    · obtain ⟨v, v1, v2⟩ := M_is (d := d + 4) hL hT hB h (k := 136) (by decide)
      have hv : ¬ v = 0 := v2.mpr ⟨t0, rfl, hk⟩
      obtain ⟨I2, a2, m2, f2⟩ := M_fail (d := d + 4) hL hT h (k := 2) (by decide)
      have m2' : zMt I2 K P (.error (2, t0)) := m2
      have e : zlawp K V 0 t0 = .error (2, t0) := by simp only [zlawp]; rw [if_pos hk]
      rw [e]
      exact ⟨I2, f2.L (by decide), m2', BX12_tellLaw_12 _ _ _ hL ⟨fun q => absurd h.2.1 q, fun _ => ⟨v, v1, fun q => absurd q hv, fun _ => ⟨fun q => absurd rfl q, fun _ => ⟨I2, a2, BX12_tellLaw_38 _ _ _ hL ⟨fun q => absurd q m2'.e0.2.1, fun _ => rfl⟩⟩⟩⟩⟩, b, by omega, by rw [f2.2 41 (by decide)]; exact h41⟩
    · have e : zlawp K V 0 t0 = zlend K V t0 := by simp only [zlawp]; rw [if_neg hk]
      rw [e]
      exact ends _ t0 b c I hT h h41 hb hc hk
  | succ f ih =>
    intro t0 b c I hf hT h h41 hb hc
    have ht := h.1.1
    by_cases hk : K t0 = 136
    · obtain ⟨v, v1, v2⟩ := M_is (d := d + 4) hL hT hB h (k := 136) (by decide)
      have hv : ¬ v = 0 := v2.mpr ⟨t0, rfl, hk⟩
      have n4 : ¬ nI (4 - (f + 1)) = 4 := by rw [show (4 : Int32) = nI 4 from rfl, zeq (by omega) (by decide)]; omega
      obtain ⟨I9, a9, m9, f9, b9, q9⟩ := M_lif (d := d) hL hT hB hs (by omega) h41 h hc hk x1 x2 (nI (4 - (f + 1)))
      have T9 := hT.fl f9
      have e3 : nI (4 - (f + 1)) + 1 = nI (4 - f) := by rw [zadd1]; congr 1; omega
      rw [e3] at a9
      have go : ∀ o, zE (d + 5) kX12_tellLaw 12 [some (.ref 420), some (.int x1), some (.int x2), some (.int (nI (4 - f)))] [] Z I9 J o → zE (d + 5) kX12_tellLaw 12 [some (.ref 420), some (.int x1), some (.int x2), some (.int (nI (4 - (f + 1))))] [] Z I J o := fun o ho => BX12_tellLaw_12 _ _ _ hL ⟨fun q => absurd h.2.1 q, fun _ => ⟨v, v1, fun q => absurd q hv, fun _ => ⟨fun _ => a9 o ho, fun q => absurd q n4⟩⟩⟩
      simp only [zlawp]
      rw [if_pos hk]
      cases hz : (zlif K V (zgn t0)).1 with
      | error e =>
        rw [hz] at m9
        dsimp only
        obtain ⟨I2, a2, m2, f2, f2'⟩ := M_law12E (d := d) (c := c) hL T9 hB hs (by omega) b9 m9 x1 x2 (nI (4 - f))
        exact ⟨I2, f9.tr (f2.mono (by omega) (Nat.le_refl _)), m2, go _ a2, b + 1 + 1, by omega, f2'⟩
      | ok t4 =>
        rw [hz] at m9 q9
        dsimp only
        obtain ⟨⟨a1, a2, a3⟩, ha⟩ : ∃ a, a = (zlif K V (zgn t0)).2 := ⟨_, rfl⟩
        obtain ⟨⟨y1, y2, y3, y4, y5⟩, ⟨w1, w2, w3⟩, hpw, z2, z3, z4, z5⟩ := q9 t4 rfl a1 a2 a3 ha.symm
        rw [← ha]
        obtain ⟨I2, g1, g2⟩ := ih t4 (b + 1) (c + a1.length + a2.length + a3.length) I9 (by omega) T9 m9 b9 (by omega) ⟨z4, z2, z3⟩
        have g1' : zfL s b c I I2 := f9.tr (g1.mono (by omega) (by omega))
        refine ⟨I2, g1', ?_⟩
        cases hq : zlawp K V f t4 with
        | error e =>
          rw [hq] at g2
          exact ⟨g2.1, go _ g2.2.1, g2.2.2⟩
        | ok q =>
          rw [hq] at g2
          obtain ⟨h1, h2, ⟨m, h3, h3', h4⟩, ⟨h5, h6, h7⟩, h8⟩ := g2
          dsimp only
          have sb : ∀ a, 447 ≤ a → a ≤ 451 → I2 a (130 * s + b) = I9 a (130 * s + b) := fun a p1 p2 => g1.2.2.1 a p1 p2 _ (Or.inl (by omega))
          have sc : ∀ j, j < 420 * s + (c + a1.length + a2.length + a3.length) → I2 452 j = I9 452 j ∧ I2 453 j = I9 453 j := fun j hj => g1.2.2.2 j (Or.inl hj)
          have seg : ∀ {l : List zTok} {k : Nat}, k + l.length ≤ 420 * s + (c + a1.length + a2.length + a3.length) → zseg (I9 452) (I9 453) k l → zseg (I2 452) (I2 453) k l := fun hh hz => zseg_agree _ _ (fun j _ p => sc j (by omega)) hz
          have el : b + ((a1, a2, a3) :: q.2.1).length + 1 = b + 1 + q.2.1.length + 1 := by simp only [List.length_cons]; omega
          rw [el]
          have em : c + (a1.length + a2.length + a3.length + m) = c + a1.length + a2.length + a3.length + m := by omega
          refine ⟨h1, h2, ⟨a1.length + a2.length + a3.length + m, by rw [em]; exact h3, by omega, ?_⟩, ⟨h5, ⟨fun x hx => ?_, h6.2⟩, by omega⟩, fun o I3 p1 p2 => go o (h8 o I3 p1 p2)⟩
          · rw [em]
            refine ⟨⟨by omega, by omega⟩, (sb 447 (by decide) (by decide)).trans y1, ⟨420 * s + c, (sb 448 (by decide) (by decide)).trans y2, (sb 449 (by decide) (by decide)).trans y3, (sb 450 (by decide) (by decide)).trans y4, (sb 451 (by decide) (by decide)).trans y5, ⟨by omega, by omega⟩, seg (by omega) w1, seg (by omega) w2, seg (by omega) w3⟩, ?_⟩
            exact h4
          · rcases List.mem_cons.mp hx with e | e
            · rw [e]; exact hpw
            · exact h6.1 x e
    · have e : zlawp K V (f + 1) t0 = zlend K V t0 := by simp only [zlawp]; rw [if_neg hk]
      rw [e]
      exact ends _ t0 b c I hT h h41 hb hc hk
/-- a LAW of a tell -/
theorem M_tellLaw (hL : zLY Z t u) (hT : zTM I J K P V X) (hB : zMB K P V W X) (hs : s < 2) (h19 : I 420 19 = nI s) (hb : b < 120) (h41 : I 420 41 = nI (130 * s + b)) (h : zMt I K P r) (hc : ∀ t0, r = .ok t0 → 4 * b + 1 ≤ t0 ∧ c ≤ t0 ∧ I 420 47 = nI (420 * s + c) ∧ I 420 12 = 0) {om : Option Nat} (ho : ∀ m, om = some m → m < 8) :
    ∃ I', zE (d + 5) kX12_tellLaw 0 [some (.ref 420), some (.int (zoi om)), none, none] [] Z I J (none, Z, I', J) ∧ zMt I' K P (ztk K 59 (zrt (zlawR K V r))) ∧ zfW s b c I I' ∧ (∃ b', b' ≤ 130 ∧ I' 420 41 = nI (130 * s + b')) ∧ ∀ q t', zlawR K V r = .ok q → ztk K 59 (.ok q.1) = .ok t' → ∃ b' c', I' 420 41 = nI (130 * s + b') ∧ I' 420 47 = nI (420 * s + c') ∧ 4 * b' ≤ t' ∧ c' ≤ t' ∧ (c ≤ c' ∧ b ≤ b') ∧ I' 420 12 = 0 ∧ zlwOK q.2 ∧ zmlv I' (130 * s) (130 * s + b') (420 * s) (420 * s + c') (130 * s + b) q.2.1 q.2.2 ∧ (∀ m, om = some m → I' 445 (8 * s + m) = nI (130 * s + b) ∧ I' 446 (8 * s + m) = nI (130 * s + b + q.2.1.length + 1) ∧ 130 * s + b + q.2.1.length + 1 ≤ 260) ∧ ∀ j, (∀ m, om = some m → j ≠ 8 * s + m) → I' 445 j = I 445 j ∧ I' 446 j = I 446 j := by
  obtain ⟨I1, a1, m1, f1⟩ := M_must (d := d + 2) hL hT hB h (k := 61) (by decide) (by decide)
  have T1 := hT.f4 f1
  have b1 : I1 420 41 = nI (130 * s + b) := by rw [f1.2 41 (by decide)]; exact h41
  have F1 : zfL s b c I I1 := f1.L (by decide)
  have st : ∀ o, zE (d + 5) kX12_tellLaw 12 [some (.ref 420), some (.int (zoi om)), some (.int (nI (130 * s + b))), some (.int 0)] [] Z I1 J o → zE (d + 5) kX12_tellLaw 0 [some (.ref 420), some (.int (zoi om)), none, none] [] Z I J o := fun o k => BX12_tellLaw_0 _ hL ⟨I1, a1, by rw [b1]; exact k⟩
  unfold zlawR
  cases hr : ztk K 61 r with
  | error e =>
    rw [hr] at m1
    obtain ⟨I2, a2, m2, f2, f2'⟩ := M_law12E (d := d) (c := c) hL T1 hB hs (by omega) b1 m1 (zoi om) (nI (130 * s + b)) 0
    exact ⟨I2, st _ a2, m2, (F1.tr f2).W, ⟨b + 1, by omega, f2'⟩, fun q t' hq => absurd hq (by simp)⟩
  | ok t1 =>
    rw [hr] at m1
    obtain ⟨t0, e0, -, -, e5⟩ := ztk_ok hr
    obtain ⟨c1, c2, c3, c4⟩ := hc t0 e0
    dsimp only
    obtain ⟨I2, g1, g2⟩ := M_law12 (d := d) (J := J) hL hB hs (zoi om) (nI (130 * s + b)) 4 t1 b c I1 (by decide) T1 m1 b1 (by omega) ⟨by omega, by rw [f1.2 47 (by decide)]; exact c3, by rw [f1.2 12 (by decide)]; exact c4⟩
    cases hq : zlawp K V 4 t1 with
    | error e =>
      rw [hq] at g2
      exact ⟨I2, st _ g2.2.1, g2.1, (F1.tr g1).W, g2.2.2, fun q t' hq => absurd hq (by simp)⟩
    | ok q =>
      rw [hq] at g2
      obtain ⟨h1, h2, ⟨m, h3, h3', h4⟩, ⟨h5, h6, h7⟩, h8⟩ := g2
      have ht400 : q.1 ≤ 400 := h1.1.1
      obtain ⟨I3, a3, m3, f3⟩ := M_must (d := d + 2) hL ((hT.fl F1).fl g1) hB h1 (k := 59) (by decide) (by decide)
      have F3 : zfL s b c I I3 := (F1.tr g1).tr (f3.L (by decide))
      have x19 : I3 420 19 = nI s := by rw [F3.2.1 19 (by decide)]; exact h19
      have er : zrt (Except.ok q : Except (Nat × Nat) (Nat × zLaw)) = .ok q.1 := rfl
      rw [er]
      cases ht : ztk K 59 (.ok q.1) with
      | error e =>
        rw [ht] at m3
        exact ⟨I3, st _ (h8 _ I3 a3 ⟨fun _ => rfl, fun z => absurd m3.e0.2.2 z⟩), m3, F3.W, ⟨b + q.2.1.length + 1, by omega, by rw [f3.2 41 (by decide)]; exact h2⟩, fun q' t' hq' ht' => by
          cases hq'; rw [ht] at ht'; exact absurd ht' (by simp)⟩
      | ok t' =>
        rw [ht] at m3
        obtain ⟨t2, e2, -, -, e25⟩ := ztk_ok ht
        have e2' : q.1 = t2 := by cases e2; rfl
        have n0 : ¬ 0 < I3 420 13 := by rw [m3.2.1]; decide
        have k41 : I3 420 41 = nI (130 * s + (b + q.2.1.length + 1)) := by rw [f3.2 41 (by decide)]; exact h2
        have fin : ∀ I' : zI, (∀ a, a ≠ 445 → a ≠ 446 → I' a = I3 a) → zmlv I' (130 * s) (130 * s + (b + q.2.1.length + 1)) (420 * s) (420 * s + (c + m)) (130 * s + b) q.2.1 q.2.2 := fun I' hI => zmlv_agree (I := I2) (fun a p1 p2 j _ _ => by rw [hI a (by omega) (by omega), f3.1 a (by omega)]) (fun a p1 p2 j _ _ => by rw [hI a (by omega) (by omega), f3.1 a (by omega)]) _ _ _ h4
        cases om with
        | none =>
          refine ⟨I3, st _ (h8 _ I3 a3 ⟨fun z => absurd z n0, fun _ => ⟨fun z => absurd z (by decide), fun _ => rfl⟩⟩), m3, F3.W, ⟨b + q.2.1.length + 1, by omega, k41⟩, fun q' t'' hq' ht' => ?_⟩
          cases hq'
          rw [ht] at ht'
          cases ht'
          exact ⟨b + q.2.1.length + 1, c + m, k41, by rw [f3.2 47 (by decide)]; exact h3, by omega, by omega, ⟨by omega, by omega⟩, by rw [f3.2 12 (by decide)]; exact h5, h6, fin I3 (fun _ _ _ => rfl), fun m hm => absurd hm (by simp), fun j _ => by rw [F3.1 445 (by decide) (by decide), F3.1 446 (by decide) (by decide)]; exact ⟨rfl, rfl⟩⟩
        | some n =>
          have hn := ho n rfl
          have eix : (8 : Int32) * I3 420 19 + zoi (some n) = nI (8 * s + n) := by
            show (8 : Int32) * I3 420 19 + nI n = _
            rw [x19, show (8 : Int32) = nI 8 from rfl, zmul, zadd]
          obtain ⟨I4, e4⟩ : ∃ I4 : zI, I4 = zu I3 445 (8 * s + n) (nI (130 * s + b)) := ⟨_, rfl⟩
          obtain ⟨I5, e5'⟩ : ∃ I5 : zI, I5 = zu I4 446 (8 * s + n) (nI (130 * s + (b + q.2.1.length + 1))) := ⟨_, rfl⟩
          have r5 : ∀ a, a ≠ 445 → a ≠ 446 → I5 a = I3 a := fun a p1 p2 => by rw [e5', zu_ne p2, e4, zu_ne p1]
          have n5 : zLtl Z J (zoi (some n)) (nI (130 * s + b)) I3 (none, Z, I5, J) := ⟨fun z => absurd z n0, fun _ => ⟨fun _ => ⟨by rw [eix]; exact zvin (by omega) (by decide), fun y4 ey4 => by
            rw [eix, zclm (by omega), ← e4] at ey4
            have y19 : (8 : Int32) * y4 420 19 + zoi (some n) = nI (8 * s + n) := by rw [ey4, e4, zu_ne (by decide)]; exact eix
            refine ⟨by rw [y19]; exact zvin (by omega) (by decide), fun y5 ey5 => ?_⟩
            rw [y19, zclm (by omega), ey4, show I4 420 41 = nI (130 * s + (b + q.2.1.length + 1)) by rw [e4, zu_ne (by decide)]; exact k41, ← e5'] at ey5
            rw [ey5]⟩, fun z => absurd (znn (a := n) (by omega)) z⟩⟩
          have j5 : ∀ j, j ≠ 8 * s + n → I5 445 j = I 445 j ∧ I5 446 j = I 446 j := fun j hj => ⟨by rw [e5', zu_ne (by decide), e4, zu_k hj, F3.1 445 (by decide) (by decide)], by rw [e5', zu_k hj, e4, zu_ne (by decide), F3.1 446 (by decide) (by decide)]⟩
          refine ⟨I5, st _ (h8 _ I3 a3 n5), ?_, ⟨fun a p1 p2 => by rw [r5 a (by omega) (by omega), F3.1 a p1 (by omega)], fun k hk => by rw [r5 420 (by decide) (by decide)]; exact F3.2.1 k hk, fun a p1 p2 j hj => by rw [r5 a (by omega) (by omega)]; exact F3.2.2.1 a p1 p2 j hj, fun j hj => by rw [r5 452 (by decide) (by decide), r5 453 (by decide) (by decide)]; exact F3.2.2.2 j hj, fun j hj => j5 j (by omega)⟩, ⟨b + q.2.1.length + 1, by omega, by rw [r5 420 (by decide) (by decide)]; exact k41⟩, fun q' t'' hq' ht' => ?_⟩
          · rw [e5', e4]; exact (m3.pt (by decide)).pt (by decide)
          · cases hq'
            rw [ht] at ht'
            cases ht'
            refine ⟨b + q.2.1.length + 1, c + m, by rw [r5 420 (by decide) (by decide)]; exact k41, by rw [r5 420 (by decide) (by decide), f3.2 47 (by decide)]; exact h3, by omega, by omega, ⟨by omega, by omega⟩, by rw [r5 420 (by decide) (by decide), f3.2 12 (by decide)]; exact h5, h6, fin I5 r5, fun m' hm => ?_, fun j hj => j5 j (hj n rfl)⟩
            cases hm
            have ht1 := h1.1.1
            exact ⟨by rw [e5', zu_ne (by decide), e4, zu_eq], by rw [e5', zu_eq]; congr 1; omega, by omega⟩
end

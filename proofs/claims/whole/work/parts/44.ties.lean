/-! who lies on whom, by men: the class's look, the reference's sums -/
theorem zsum_pos {f : Nat → Nat} {i k : Nat} : 0 < zsum f i k ↔ ∃ j, i ≤ j ∧ j < i + k ∧ 0 < f j := by
  constructor
  · intro h
    apply Classical.byContradiction
    intro hn
    have : zsum f i k = 0 := zsum_0 fun j h1 h2 => by
      apply Classical.byContradiction
      intro h3; exact hn ⟨j, h1, h2, by omega⟩
    omega
  · rintro ⟨j, h1, h2, h3⟩
    have := zsum_ge1 (f := f) h1 h2; omega
theorem zb_ex {a m o : Nat} (ho : o < 7) : (a &&& (127 ^^^ 2 ^ m)).testBit o = (a.testBit o && !decide (m = o)) := by
  have t127 : (127 : Nat).testBit o = true := by
    have : ∀ m, m < 7 → (127 : Nat).testBit m = true := by decide
    exact this o ho
  rw [Nat.testBit_and, Nat.testBit_xor, zb_tp, t127]
  cases decide (m = o) <;> simp
section
variable {d : Nat} {Z : zZ} {J : zJ} {I I' : zI} {t u v b : Nat} {τ : Nat → Nat → Nat} {Λ : Nat → Option zLaw} {ρ : Nat → Nat}
def zSon (τ : Nat → Nat → Nat) (ρ : Nat → Nat) (s o : Nat) : Prop := ∃ q, zlive τ ρ q ∧ ρ (870 + q) = s ∧ q / 60 = o
def zSov (τ : Nat → Nat → Nat) (ρ : Nat → Nat) (s o m : Nat) : Prop := ∃ qa qb, zlive τ ρ qa ∧ zlive τ ρ qb ∧ ρ (870 + qa) = s ∧ ρ (870 + qb) = s ∧ qa / 60 = o ∧ qb / 60 = m ∧ ρ (450 + qb) < ρ (450 + qa)
/-- rows of sets -/
def zbrow (I : zI) (a : Nat) (P : Nat → Nat → Prop) : Prop := ∀ m, m < 7 → ∃ A, I a m = nI A ∧ A < 128 ∧ ∀ o, o < 7 → (A.testBit o = true ↔ P m o)
theorem zbrow.iff {a : Nat} {P Q : Nat → Nat → Prop} (h : zbrow I a P) (hq : ∀ m o, m < 7 → o < 7 → (P m o ↔ Q m o)) : zbrow I a Q := fun m hm => by
  obtain ⟨A, h1, h2, h3⟩ := h m hm
  exact ⟨A, h1, h2, fun o ho => (h3 o ho).trans (hq m o hm ho)⟩
theorem zbrow.same {a : Nat} {P : Nat → Nat → Prop} (h : zbrow I a P) (hs : I' a = I a) : zbrow I' a P := fun m hm => by rw [hs]; exact h m hm
/-- bits are added to one of the rows -/
theorem zbrow.put {a k B : Nat} {P : Nat → Nat → Prop} (h : zbrow I a P) (hk : k < 7) (hB : B < 128) : ∃ I1 : zI, zpt I a 7 (nI k) (zat I a 7 (nI k) ||| nI B) = I1 ∧ (∀ a', a' ≠ a → I1 a' = I a') ∧ zbrow I1 a (fun m o => P m o ∨ (m = k ∧ B.testBit o = true)) := by
  obtain ⟨A, h1, h2, h3⟩ := h k hk
  refine ⟨_, rfl, fun a' ha => ?_, fun m hm => ?_⟩
  · rw [zptI hk (by decide)]; exact zu_ne ha
  · rw [zptI hk (by decide), zatI hk (by decide), h1, zb_or A h2 B hB]
    by_cases e : m = k
    · subst e
      refine ⟨A ||| B, zu_eq, zb_lt h2 hB, fun o ho => ?_⟩
      rw [Nat.testBit_or, Bool.or_eq_true, h3 o ho]
      simp
    · obtain ⟨A', g1, g2, g3⟩ := h m hm
      refine ⟨A', by rw [zu_k e]; exact g1, g2, fun o ho => ?_⟩
      rw [g3 o ho]; simp [e]
theorem C_lookAt_walk (hL : zLY Z t u) {d1 : Nat} (hd : zDy Z d1) (hd2 : d1 + 9 < 401) (hH : zH τ ρ) (hU : zTU τ ρ) {s : Nat} : ∀ (n i v T ab : Nat) (I : zI) (P : Nat → Nat → Prop), zCP I d1 τ ρ → zcb τ ρ s T = n → zbel τ ρ s T v → i + n ≤ 420 → ab < 128 → (∀ o, o < 7 → (ab.testBit o = true ↔ ∃ q, zlive τ ρ q ∧ ρ (870 + q) = s ∧ T ≤ ρ (450 + q) ∧ q / 60 = o)) → zbrow I 402 P →
    ∃ (I1 : zI) (ab' : Nat), (∀ a, a ≠ 402 → I1 a = I a) ∧ ab' < 128 ∧ (∀ o, o < 7 → (ab'.testBit o = true ↔ zSon τ ρ s o)) ∧ zbrow I1 402 (fun m o => P m o ∨ (o ≠ m ∧ ∃ qa qb, zlive τ ρ qa ∧ zlive τ ρ qb ∧ ρ (870 + qa) = s ∧ ρ (870 + qb) = s ∧ qa / 60 = o ∧ qb / 60 = m ∧ ρ (450 + qb) < ρ (450 + qa) ∧ ρ (450 + qb) < T)) ∧ ∀ o, zE (d + 1) kX7_lookAt 86 [some (.ref 401), none, none, some (.int (nI ab')), none, some (.int 0), none, none] [] Z I1 J o → zE (d + 1) kX7_lookAt 8 [some (.ref 401), some (.ref d1), none, some (.int (nI ab)), some (.int (nI v)), some (.int (nI i)), none, none] [] Z I J o := by
  have h7 := hH.1
  intro n
  induction n with
  | zero =>
    intro i v T ab I P hC hn hb hi hab hbit hrow
    cases v with
    | succ q => have := zcbS hH hU hb; omega
    | zero =>
      have h0 := zbel_0 hb
      refine ⟨I, ab, fun _ _ => rfl, hab, fun o ho => ?_, hrow.iff (fun m o _ _ => ?_), fun o ho => BX7_lookAt_8 _ _ _ hL hd ⟨fun _ => ho, fun _ => ⟨fun _ => ho, fun z => absurd rfl z⟩⟩⟩
      · rw [hbit o ho]
        constructor
        · rintro ⟨q, g1, g2, -, g3⟩; exact ⟨q, g1, g2, g3⟩
        · rintro ⟨q, g1, g2, g3⟩; exact ⟨q, g1, g2, by have := h0 q g1 g2; omega, g3⟩
      · constructor
        · exact Or.inl
        · rintro (h | ⟨-, qa, qb, g1, g2, g3, g4, g5, g6, g7, g8⟩)
          · exact h
          · exact absurd g8 (h0 qb g2 g4)
  | succ n ih =>
    intro i v T ab I P hC hn hb hi hab hbit hrow
    cases v with
    | zero => have := zcb0 hH hb; omega
    | succ q =>
      obtain ⟨v', e, hb'⟩ := hC.under hH hb
      obtain ⟨a1, a2, a3, a4⟩ := zbel_q hb
      have hl := zlive_lt hH a1
      have hq7 : q / 60 < 7 := by have := a1.1; omega
      have hcb := zcbS hH hU hb
      have eo : zow (nI (q + 1)) = nI (q / 60) := zowI (by omega)
      have hoth : nI ab &&& (((1 : Int32) <<< (nI (q / 60) &&& 31)) ^^^ (-1)) = nI (ab &&& (127 ^^^ 2 ^ (q / 60))) := by rw [zb_one _ hq7, zb_andn _ hab _ (zb_p _ hq7)]
      obtain ⟨I2, p1, p2, p3⟩ := hrow.put hq7 (B := ab &&& (127 ^^^ 2 ^ (q / 60))) (zb_al hab)
      have hC2 : zCP I2 d1 τ ρ := hC.same fun a h1 h2 => p2 a (by omega)
      -- who is seen now
      have seen : ∀ q', zlive τ ρ q' → ρ (870 + q') = s → (ρ (450 + q) ≤ ρ (450 + q') ↔ T ≤ ρ (450 + q') ∨ q' = q) := fun q' h1 h2 => by
        constructor
        · intro h3
          by_cases hT : T ≤ ρ (450 + q')
          · exact Or.inl hT
          · right
            have := a4 q' h1 h2 (by omega)
            exact hU q' q h1 a1 (by omega)
        · rintro (h3 | rfl)
          · omega
          · exact Nat.le_refl _
      obtain ⟨I1, ab', f1, f2, f3, f4, f5⟩ := ih (i + 1) v' (ρ (450 + q)) (ab ||| 2 ^ (q / 60)) I2 _ hC2 (by omega) hb' (by omega) (zb_lt hab (zb_p _ hq7)) (fun o ho => by
        rw [Nat.testBit_or, zb_tp, Bool.or_eq_true, hbit o ho]
        constructor
        · rintro (⟨q', g1, g2, g3, g4⟩ | h)
          · exact ⟨q', g1, g2, (seen q' g1 g2).mpr (Or.inl g3), g4⟩
          · exact ⟨q, a1, a2, Nat.le_refl _, by simpa using h⟩
        · rintro ⟨q', g1, g2, g3, g4⟩
          rcases (seen q' g1 g2).mp g3 with h | rfl
          · exact Or.inl ⟨q', g1, g2, h, g4⟩
          · right; simpa using g4) p3
      refine ⟨I1, ab', fun a ha => (f1 a ha).trans (p2 a ha), f2, f3, f4.iff (fun m o hm ho => ?_), fun o ho => BX7_lookAt_8 _ _ _ hL hd ⟨fun z => absurd z (zlim hi), fun _ => ⟨fun z => ?_, fun _ y1 e1 I3 e3 y3 e4 => ?_⟩⟩⟩
      · -- pairs found now
        rw [zb_ex ho, Bool.and_eq_true, hbit o ho]
        constructor
        · rintro ((h | ⟨rfl, ⟨q', g1, g2, g3, g4⟩, h2⟩) | ⟨h0, qa, qb, g1, g2, g3, g4, g5, g6, g7, g8⟩)
          · exact Or.inl h
          · refine Or.inr ⟨fun z => ?_, q', q, g1, a1, g2, a2, g4, rfl, by omega, a3⟩
            rw [z] at h2; simp at h2
          · exact Or.inr ⟨h0, qa, qb, g1, g2, g3, g4, g5, g6, g7, by omega⟩
        · rintro (h | ⟨h0, qa, qb, g1, g2, g3, g4, g5, g6, g7, g8⟩)
          · exact Or.inl (Or.inl h)
          · by_cases hq : qb = q
            · subst hq
              refine Or.inl (Or.inr ⟨g6.symm, ⟨qa, g1, g3, ?_, g5⟩, ?_⟩)
              · rcases (seen qa g1 g3).mp (by omega) with h | rfl
                · exact h
                · omega
              · have : ¬ qb / 60 = o := fun z => h0 (by omega)
                simp [this]
            · refine Or.inr ⟨h0, qa, qb, g1, g2, g3, g4, g5, g6, g7, ?_⟩
              have := a4 qb g2 g4 g8
              have hne : ρ (450 + qb) ≠ ρ (450 + q) := fun z => hq (hU qb q g2 a1 z)
              omega
      · rw [zn0 (by omega)] at z; omega
      · rw [eo] at e1 e3 e4
        rw [hoth] at e1
        rw [e1, p1] at e3
        rw [zb_set hab hq7] at e4
        have eu : zat I2 (d1 + 7) 421 (nI (q + 1)) = nI v' := by
          have e27 : I2 (d1 + 7) = I (d1 + 7) := p2 _ (by omega)
          unfold zat at e ⊢
          rw [e27]; exact e
        rw [e3, e4, eu, zadd1]
        exact f5 o ho
theorem C_lookAt (hL : zLY Z t u) {d1 : Nat} (hd : zDy Z d1) (hd2 : d1 + 9 < 401) (hW : zTW τ Λ) (hD : zDW τ ρ) {s V : Nat} {P Q : Nat → Nat → Prop} (hC : zCP I d1 τ ρ) (hb : zbel τ ρ s (ρ 29) V) (hrow : zbrow I 402 P) (hrow2 : zbrow I 403 Q) :
    ∃ I', zE (d + 1) kX7_lookAt 0 [some (.ref 401), some (.ref d1), some (.int (nI V)), none, none, none, none, none] [] Z I J (none, Z, I', J) ∧ (∀ a, a ≠ 402 → a ≠ 403 → I' a = I a) ∧ zbrow I' 402 (fun m o => P m o ∨ (o ≠ m ∧ zSov τ ρ s o m)) ∧ zbrow I' 403 (fun m o => Q m o ∨ (o ≠ m ∧ zSon τ ρ s o ∧ zSon τ ρ s m)) := by
  have hH := hD.h hW
  obtain ⟨I1, ab, f1, f2, f3, f4, f5⟩ := C_lookAt_walk (d := d) (J := J) hL hd hd2 hH hD.2.2.2 _ 0 V (ρ 29) 0 I P hC rfl hb (by have := zcb_le (s := s) (T := ρ 29) hH; omega) (by decide) (fun o ho => by
    constructor
    · intro h; simp at h
    · rintro ⟨q, g1, g2, g3, g4⟩; have := zlive_t hD g1; omega) hrow
  have loop : ∀ m, m ≤ 7 → ∀ (I2 : zI), (∀ a, a ≠ 403 → I2 a = I1 a) → zbrow I2 403 (fun m' o => Q m' o ∨ (m' < m ∧ o ≠ m' ∧ zSon τ ρ s o ∧ zSon τ ρ s m')) → ∃ I', zE (d + 1) kX7_lookAt 86 [some (.ref 401), none, none, some (.int (nI ab)), none, some (.int (nI m)), none, none] [] Z I2 J (none, Z, I', J) ∧ (∀ a, a ≠ 403 → I' a = I1 a) ∧ zbrow I' 403 (fun m o => Q m o ∨ (o ≠ m ∧ zSon τ ρ s o ∧ zSon τ ρ s m)) := by
    refine zloop _ _ ?_ ?_
    · intro I2 h1 h2
      exact ⟨I2, BX7_lookAt_86 _ _ hL ⟨fun _ => rfl, fun q => absurd (by decide) q⟩, h1, h2.iff (fun m o hm _ => by
        constructor
        · rintro (h | ⟨-, h⟩)
          · exact Or.inl h
          · exact Or.inr h
        · rintro (h | h)
          · exact Or.inl h
          · exact Or.inr ⟨hm, h⟩)⟩
    · intro m hm ih I2 h1 h2
      have n7 : ¬ (7 : Int32) ≤ nI m := by rw [show (7 : Int32) = nI 7 from rfl, zle' (by decide) (by omega)]; omega
      have hbt := zb_bit0 (m := m) f2 hm
      by_cases q : ab.testBit m = true
      · have hm' := (f3 m hm).mp q
        obtain ⟨I3, p1, p2, p3⟩ := h2.put hm (B := ab &&& (127 ^^^ 2 ^ m)) (zb_al f2)
        obtain ⟨I', k1, k2, k3⟩ := ih I3 (fun a ha => (p2 a ha).trans (h1 a ha)) (p3.iff (fun m' o hm7 ho => by
          rw [zb_ex ho, Bool.and_eq_true, f3 o ho]
          constructor
          · rintro ((h | ⟨g1, g2⟩) | ⟨rfl, g1, g2⟩)
            · exact Or.inl h
            · exact Or.inr ⟨by omega, g2⟩
            · refine Or.inr ⟨by omega, fun z => ?_, g1, hm'⟩
              rw [z] at g2; simp at g2
          · rintro (h | ⟨g1, g2, g3, g4⟩)
            · exact Or.inl (Or.inl h)
            · by_cases e : m' = m
              · subst e
                have : ¬ m' = o := fun z => g2 z.symm
                exact Or.inr ⟨rfl, g3, by simp [this]⟩
              · exact Or.inl (Or.inr ⟨by omega, g2, g3, g4⟩)))
        refine ⟨I', BX7_lookAt_86 _ _ hL ⟨fun z => absurd z n7, fun _ => ⟨fun z => ?_, fun _ I4 e4 => ?_⟩⟩, k2, k3⟩
        · rw [hbt, q] at z; exact absurd z (by decide)
        · rw [zb_one m hm, zb_andn _ f2 _ (zb_p m hm), p1] at e4
          rw [e4, zadd1]; exact k1
      · have hm' : ¬ zSon τ ρ s m := fun z => q ((f3 m hm).mpr z)
        obtain ⟨I', k1, k2, k3⟩ := ih I2 h1 (h2.iff (fun m' o hm7 ho => by
          constructor
          · rintro (h | ⟨g1, g2⟩)
            · exact Or.inl h
            · exact Or.inr ⟨by omega, g2⟩
          · rintro (h | ⟨g1, g2, g3, g4⟩)
            · exact Or.inl h
            · by_cases e : m' = m
              · subst e; exact absurd g4 hm'
              · exact Or.inr ⟨by omega, g2, g3, g4⟩))
        refine ⟨I', BX7_lookAt_86 _ _ hL ⟨fun z => absurd z n7, fun _ => ⟨fun _ => by rw [zadd1]; exact k1, fun z => ?_⟩⟩, k2, k3⟩
        rw [hbt] at z; exact absurd (by simpa using q) z
  obtain ⟨I', k1, k2, k3⟩ := loop 0 (by decide) I1 (fun _ _ => rfl) ((hrow2.same (f1 403 (by decide))).iff (fun m o _ _ => by
    constructor
    · exact Or.inl
    · rintro (h | ⟨h, -⟩)
      · exact h
      · omega))
  refine ⟨I', BX7_lookAt_0 _ hL hd (f5 _ k1), fun a h1 h2 => (k2 a h2).trans (f1 a h1), (f4.same (k2 402 (by decide))).iff (fun m o _ _ => ?_), k3⟩
  constructor
  · rintro (h | ⟨h0, qa, qb, g1, g2, g3, g4, g5, g6, g7, -⟩)
    · exact Or.inl h
    · exact Or.inr ⟨h0, qa, qb, g1, g2, g3, g4, g5, g6, g7⟩
  · rintro (h | ⟨h0, qa, qb, g1, g2, g3, g4, g5, g6, g7⟩)
    · exact Or.inl h
    · exact Or.inr ⟨h0, qa, qb, g1, g2, g3, g4, g5, g6, g7, zlive_t hD g2⟩
/-- for whom a man waits; whom he knows -/
def zWs (τ : Nat → Nat → Nat) (ρ : Nat → Nat) (m : Nat) : Nat := if m < τ 0 0 then zbs (fun o => !decide (o = m) && decide (0 < zov ρ o m)) (τ 0 0) else 0
def zKs (τ : Nat → Nat → Nat) (ρ : Nat → Nat) (m : Nat) : Nat := if m < τ 0 0 then zbs (fun o => !decide (o = m) && (decide (0 < zov ρ m o) || decide (0 < zov ρ o m))) (τ 0 0) else 0
theorem zWs_lt (h7 : τ 0 0 ≤ 7) (m : Nat) : zWs τ ρ m < 128 := by
  unfold zWs; split
  · exact zbs_lt h7
  · decide
theorem zKs_lt (h7 : τ 0 0 ≤ 7) (m : Nat) : zKs τ ρ m < 128 := by
  unfold zKs; split
  · exact zbs_lt h7
  · decide
theorem zov_pos (hH : zH τ ρ) {a c : Nat} (ha : a < τ 0 0) (hc : c < τ 0 0) : 0 < zov ρ a c ↔ ∃ s, zSov τ ρ s a c := by
  have h60a := hH.2 a ha
  have h60c := hH.2 c hc
  unfold zov
  rw [zsum_pos]
  constructor
  · rintro ⟨i, -, hi, h⟩
    obtain ⟨j, -, hj, h2⟩ := zsum_pos.mp h
    have hz : zblw ρ (ρ (870 + (60 * a + i))) (ρ (450 + (60 * a + i))) (60 * c + j) = true := by
      cases hz : zblw ρ (ρ (870 + (60 * a + i))) (ρ (450 + (60 * a + i))) (60 * c + j) with
      | true => rfl
      | false => rw [hz] at h2; simp at h2
    obtain ⟨z1, z2⟩ := zblw_iff.mp hz
    exact ⟨_, 60 * a + i, 60 * c + j, zlive_mk hH ha (by omega), zlive_mk hH hc (by omega), rfl, z1, by omega, by omega, z2⟩
  · rintro ⟨s, qa, qb, g1, g2, g3, g4, g5, g6, g7⟩
    have i1 := g1.2
    have i2 := g2.2
    rw [g5] at i1
    rw [g6] at i2
    refine ⟨qa % 60, Nat.zero_le _, by omega, zsum_pos.mpr ⟨qb % 60, Nat.zero_le _, by omega, ?_⟩⟩
    rw [show 60 * a + qa % 60 = qa by omega, show 60 * c + qb % 60 = qb by omega, zblw_iff.mpr ⟨by omega, g7⟩]
    decide
theorem C_look (h : zR0 Z I t u v τ Λ b ρ) : ∃ I', zE (d + 2) kX7_look 0 [some (.ref 401), some (.ref t), some (.ref 47), none] [] Z I J (none, Z, I', J) ∧ zscr I I' ∧ I' 401 3 = nI (zbs (zthr ρ true) (τ 0 0)) ∧ ∀ m, m < 7 → I' 402 m = nI (zWs τ ρ m) ∧ I' 403 m = nI (zKs τ ρ m) := by
  have h7 := h.n7
  have hH := h.H
  have loop : ∀ c, c ≤ 288 → ∀ (I1 : zI), (∀ a, a ≠ 401 → a ≠ 402 → a ≠ 403 → I1 a = I a) → zbrow I1 402 (fun m o => o ≠ m ∧ ∃ s, s < 288 ∧ zenc s < c ∧ zSov τ ρ s o m) → zbrow I1 403 (fun m o => o ≠ m ∧ ∃ s, s < 288 ∧ zenc s < c ∧ zSon τ ρ s o ∧ zSon τ ρ s m) → ∃ I', zE (d + 2) kX7_look 28 [some (.ref 401), none, some (.ref 47), some (.int (nI c))] [] Z I1 J (none, Z, I', J) ∧ I' 401 = I1 401 ∧ (∀ a, a ≠ 401 → a ≠ 402 → a ≠ 403 → I' a = I a) ∧ zbrow I' 402 (fun m o => o ≠ m ∧ ∃ s, s < 288 ∧ zSov τ ρ s o m) ∧ zbrow I' 403 (fun m o => o ≠ m ∧ ∃ s, s < 288 ∧ zSon τ ρ s o ∧ zSon τ ρ s m) := by
    refine zloop _ _ ?_ ?_
    · intro I1 f0 f1 f2
      refine ⟨I1, BX7_look_28 _ h.L (ly_d47 h.L) ⟨fun _ => rfl, fun q => absurd (by decide) q⟩, rfl, f0, f1.iff (fun m o _ _ => ?_), f2.iff (fun m o _ _ => ?_)⟩
      · exact ⟨fun ⟨a, s, s1, _, s3⟩ => ⟨a, s, s1, s3⟩, fun ⟨a, s, s1, s3⟩ => ⟨a, s, s1, zenc_lt s1, s3⟩⟩
      · exact ⟨fun ⟨a, s, s1, _, s3⟩ => ⟨a, s, s1, s3⟩, fun ⟨a, s, s1, s3⟩ => ⟨a, s, s1, zenc_lt s1, s3⟩⟩
    · intro c hc ih I1 f0 f1 f2
      obtain ⟨s, hs, rfl⟩ := zenc_sur hc
      have hC1 : zCP I1 47 τ ρ := h.P.same fun a h1 h2 => f0 a (by omega) (by omega) (by omega)
      obtain ⟨V, eV, hb⟩ := hC1.2 s hs
      obtain ⟨I2, g1, g2, g3, g4⟩ := C_lookAt (d := d) (J := J) h.L (ly_d47 h.L) (by decide) h.W h.D hC1 hb f1 f2
      have mg : ∀ s', s' < 288 → (zenc s' < zenc s + 1 ↔ zenc s' < zenc s ∨ s' = s) := fun s' _ => by
        constructor
        · intro z
          by_cases e : s' = s
          · exact Or.inr e
          · left
            have : zenc s' ≠ zenc s := fun y => e (zenc_inj y)
            omega
        · rintro (z | rfl) <;> omega
      obtain ⟨I', k1, k2, k3, k4, k5⟩ := ih I2 (fun a h1 h2 h3 => (g2 a h2 h3).trans (f0 a h1 h2 h3)) (g3.iff (fun m o _ _ => by
        constructor
        · rintro (⟨a, s', s1, s2, s3⟩ | ⟨a, s3⟩)
          · exact ⟨a, s', s1, (mg s' s1).mpr (Or.inl s2), s3⟩
          · exact ⟨a, s, hs, (mg s hs).mpr (Or.inr rfl), s3⟩
        · rintro ⟨a, s', s1, s2, s3⟩
          rcases (mg s' s1).mp s2 with z | rfl
          · exact Or.inl ⟨a, s', s1, z, s3⟩
          · exact Or.inr ⟨a, s3⟩)) (g4.iff (fun m o _ _ => by
        constructor
        · rintro (⟨a, s', s1, s2, s3⟩ | ⟨a, s3⟩)
          · exact ⟨a, s', s1, (mg s' s1).mpr (Or.inl s2), s3⟩
          · exact ⟨a, s, hs, (mg s hs).mpr (Or.inr rfl), s3⟩
        · rintro ⟨a, s', s1, s2, s3⟩
          rcases (mg s' s1).mp s2 with z | rfl
          · exact Or.inl ⟨a, s', s1, z, s3⟩
          · exact Or.inr ⟨a, s3⟩))
      refine ⟨I', BX7_look_28 _ h.L (ly_d47 h.L) ⟨fun q => ?_, fun _ => ⟨I2, ?_, by rw [zadd1]; exact k1⟩⟩, k2.trans (g2 401 (by decide) (by decide)), k3, k4, k5⟩
      · exfalso; rw [show (288 : Int32) = nI 288 from rfl, zle' (by decide) (by omega)] at q; omega
      · rw [zatI hc (by decide), eV]; exact g1
  generalize hI4 : zrw (zrw (zu I 401 3 (nI (zbs (zthr ρ true) (τ 0 0)))) 402 0 (fun _ => 0) 7) 403 0 (fun _ => 0) 7 = I4
  have e402 : ∀ m, m < 7 → I4 402 m = nI 0 := fun m hm => by rw [← hI4, zrw_ne (by decide), zrw_at0 hm]; rfl
  have e403 : ∀ m, m < 7 → I4 403 m = nI 0 := fun m hm => by rw [← hI4, zrw_at0 hm]; rfl
  have e401 : I4 401 3 = nI (zbs (zthr ρ true) (τ 0 0)) := by rw [← hI4, zrw_ne (by decide), zrw_ne (by decide), zu_eq]
  have eo : ∀ a, a ≠ 401 → a ≠ 402 → a ≠ 403 → I4 a = I a := fun a h1 h2 h3 => by rw [← hI4, zrw_ne h3, zrw_ne h2, zu_ne h1]
  obtain ⟨I', k1, k2, k3, k4, k5⟩ := loop 0 (by decide) I4 eo (fun m hm => ⟨0, e402 m hm, by decide, fun o ho => by
    constructor
    · intro z; simp at z
    · rintro ⟨-, s, -, z, -⟩; omega⟩) (fun m hm => ⟨0, e403 m hm, by decide, fun o ho => by
    constructor
    · intro z; simp at z
    · rintro ⟨-, s, -, z, -⟩; omega⟩)
  refine ⟨I', BX7_look_0 h.L (ly_tx h.L) (ly_d47 h.L) ⟨_, C_whose (sm := true) (ly_d47 h.L) (ly_tx h.L) h7 h.men h.C h.B, fun I2 e2 => ⟨_, S_fill (by decide) (ly_a402 h.L), _, S_fill (by decide) (ly_a403 h.L), by rw [e2, hI4]; exact k1⟩⟩, zscr.of fun a p _ => k3 a (fun e => p (by subst e; decide)) (fun e => p (by subst e; decide)) (fun e => p (by subst e; decide)), by rw [k2]; exact e401, fun m hm => ⟨?_, ?_⟩⟩
  · obtain ⟨A, a1, a2, a3⟩ := k4 m hm
    rw [a1]
    congr 1
    refine zb_ext a2 (zWs_lt h7 m) (fun o ho => ?_)
    rw [Bool.eq_iff_iff, a3 o ho]
    unfold zWs
    by_cases hmn : m < τ 0 0
    · rw [if_pos hmn, zbs_bit]
      simp only [Bool.and_eq_true, decide_eq_true_eq, Bool.not_eq_true', decide_eq_false_iff_not]
      constructor
      · rintro ⟨g0, s, -, g2⟩
        have ho' : o < τ 0 0 := by obtain ⟨qa, qb, z1, z2, z3, z4, z5, z6, z7⟩ := g2; have := z1.1; omega
        exact ⟨ho', g0, (zov_pos hH ho' hmn).mpr ⟨s, g2⟩⟩
      · rintro ⟨g0, g1, g2⟩
        obtain ⟨s, g3⟩ := (zov_pos hH g0 hmn).mp g2
        refine ⟨g1, s, ?_, g3⟩
        obtain ⟨qa, qb, z1, z2, z3, z4, z5, z6, z7⟩ := g3
        rw [← z3]; exact zlive_s h.W h.D z1
    · rw [if_neg hmn]
      constructor
      · rintro ⟨g0, s, -, qa, qb, z1, z2, z3, z4, z5, z6, z7⟩
        have := z2.1; omega
      · intro z; simp at z
  · obtain ⟨A, a1, a2, a3⟩ := k5 m hm
    rw [a1]
    congr 1
    refine zb_ext a2 (zKs_lt h7 m) (fun o ho => ?_)
    rw [Bool.eq_iff_iff, a3 o ho]
    unfold zKs
    by_cases hmn : m < τ 0 0
    · rw [if_pos hmn, zbs_bit]
      simp only [Bool.and_eq_true, Bool.or_eq_true, decide_eq_true_eq, Bool.not_eq_true', decide_eq_false_iff_not]
      constructor
      · rintro ⟨g0, s, -, ⟨qa, z1, z2, z3⟩, qb, y1, y2, y3⟩
        have ho' : o < τ 0 0 := by have := z1.1; omega
        refine ⟨ho', g0, ?_⟩
        rcases Nat.lt_trichotomy (ρ (450 + qa)) (ρ (450 + qb)) with g | g | g
        · exact Or.inl ((zov_pos hH hmn ho').mpr ⟨s, qb, qa, y1, z1, y2, z2, y3, z3, g⟩)
        · have := h.U qa qb z1 y1 g; subst this; omega
        · exact Or.inr ((zov_pos hH ho' hmn).mpr ⟨s, qa, qb, z1, y1, z2, y2, z3, y3, g⟩)
      · rintro ⟨g0, g1, g2⟩
        refine ⟨g1, ?_⟩
        rcases g2 with g2 | g2
        · obtain ⟨s, qa, qb, z1, z2, z3, z4, z5, z6, z7⟩ := (zov_pos hH hmn g0).mp g2
          exact ⟨s, by rw [← z3]; exact zlive_s h.W h.D z1, ⟨qb, z2, z4, z6⟩, qa, z1, z3, z5⟩
        · obtain ⟨s, qa, qb, z1, z2, z3, z4, z5, z6, z7⟩ := (zov_pos hH g0 hmn).mp g2
          exact ⟨s, by rw [← z3]; exact zlive_s h.W h.D z1, ⟨qa, z1, z3, z5⟩, qb, z2, z4, z6⟩
    · rw [if_neg hmn]
      constructor
      · rintro ⟨g0, s, -, -, qb, y1, y2, y3⟩
        have := y1.1; omega
      · intro z; simp at z
end

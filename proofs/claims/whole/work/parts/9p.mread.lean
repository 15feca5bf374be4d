/-! a text that is read, a text that stays -/
section
variable {d : Nat} {Z : zZ} {I I' : zI} {J J' : zJ} {t u s v br cd b : Nat} {τ : Nat → Nat → Nat} {Λ : Nat → Option zLaw} {DX DY DX' DY' ρ ρ' : Nat → Nat}
theorem zCD_bg {d1 : Nat} (h7 : τ 0 0 ≤ 7) (h : zCD I d1 τ (zbg DX DY ρ)) (hD : ∀ m, m < τ 0 0 → DX' m = DX m ∧ DY' m = DY m) : zCD I d1 τ (zbg DX' DY' ρ') := by
  obtain ⟨a1, a2, a3, a4⟩ := h
  rw [zbg_0 29 (by decide) (by decide)] at a1 a4
  unfold zCD
  rw [zbg_0 (DX := DX') 29 (by decide) (by decide)]
  refine ⟨a1, fun m hm => ?_, fun q hq => absurd hq (zbg_l h7 q), fun s hs => ?_⟩
  · have := a2 m hm
    rw [zbg_n m (by omega), zbg_y m (by omega), zbg_0 (14 + m) (by omega) (by omega), zbg_0 (21 + m) (by omega) (by omega)] at this ⊢
    rw [(hD m hm).1, (hD m hm).2]; exact this
  · obtain ⟨w, w1, w2⟩ := a4 s hs
    refine ⟨w, w1, ?_⟩
    rcases w2 with ⟨w2, -⟩ | ⟨q, -, hq, -⟩
    · exact Or.inl ⟨w2, fun q hq => absurd hq (zbg_l h7 q)⟩
    · exact absurd hq (zbg_l h7 q)
/-- the text that was read lies on its side -/
theorem zMX.mt (h : zMX I s br cd τ Λ) (hs : s < 2) (h18 : I 420 18 = nI s) (hc : cd ≤ 420) : zMT I s τ Λ := by
  obtain ⟨d1, d2, d3, d4, d5, d6, d7⟩ := h
  have lm : ∀ p, p < 8 → zLM I (8 * s + p) (Λ p) := fun p hp => by
    have := d7 p hp
    cases e : Λ p with
    | none => rw [e] at this; exact this
    | some w =>
      rw [e] at this
      obtain ⟨g1, b0, g2, g3, g4, g5⟩ := this
      exact ⟨⟨b0, g2, g3, g4, (zmlv_w (by omega) _ _ _ g5).1⟩, g1⟩
  exact ⟨⟨hs, h18⟩, d2, d3, d5, d6, fun m hm => lm m (by have := d1.1; omega), lm 7 (by decide)⟩
theorem zMX.hv (h : zMX I s br cd τ Λ) (hb : br ≤ 130) (hc : cd ≤ 420) : zHv I s (τ 0 0) Λ := fun p w hp hw => by
  have := h.2.2.2.2.2.2 p (by have := h.1.1; omega)
  rw [hw] at this
  obtain ⟨-, b0, g2, -, -, g5⟩ := this
  exact ⟨b0, g2, zmlv_mono (by omega) (by omega) _ _ _ g5⟩
theorem zwid_e : zwid 429 = 1 ∧ zwid 430 = 1 ∧ zwid 431 = 1 ∧ zwid 432 = 7 ∧ zwid 433 = 7 ∧ zwid 434 = 7 ∧ zwid 435 = 7 ∧ zwid 436 = 42 ∧ zwid 437 = 42 ∧ zwid 438 = 1 ∧ zwid 439 = 6 ∧ zwid 440 = 6 ∧ zwid 441 = 1 ∧ zwid 452 = 420 ∧ zwid 453 = 420 := by decide
/-- the other side stays -/
theorem zHv_side (h : zHv I v (τ 0 0) Λ) (h7 : τ 0 0 ≤ 7) (hv : v < 2) (hs : s = 1 - v) (hf : zfH s I I') : zHv I' v (τ 0 0) Λ := fun p w hp hw => by
  obtain ⟨b0, g1, g2⟩ := h p w hp hw
  refine ⟨b0, ?_, zmlv_agree (fun a p1 p2 j q1 q2 => ?_) (fun a p1 p2 j q1 q2 => ?_) _ _ _ g2⟩
  · rw [hf.2.2 445 (by decide) (by decide) (by decide) _ (by rw [zwid_8.1]; omega)]; exact g1
  · exact hf.2.2 a (by omega) (by omega) (by omega) j (by rw [zwid_130 a p1 p2]; omega)
  · have e : a = 452 ∨ a = 453 := by omega
    rcases e with rfl | rfl
    · exact hf.2.2 452 (by decide) (by decide) (by decide) j (by rw [zwid_e.2.2.2.2.2.2.2.2.2.2.2.2.2.1]; omega)
    · exact hf.2.2 453 (by decide) (by decide) (by decide) j (by rw [zwid_e.2.2.2.2.2.2.2.2.2.2.2.2.2.2]; omega)
theorem zMT_side (h : zMT I v τ Λ) (hH : zHv I v (τ 0 0) Λ) (hW : zTW τ Λ) (hs : s = 1 - v) (hf : zfH s I I') : zMT I' v τ Λ := by
  obtain ⟨⟨hv, h18⟩, ⟨b1, b2, b3, b4, b5⟩, c1, c2, c3, c4, c5⟩ := h
  have h7 := hW.1.1
  have h6 := hW.1.2.2.2.2.2.2
  have hH' := zHv_side hH h7 hv hs hf
  obtain ⟨e29, e30, e31, e32, e33, e34, e35, e36, e37, e38, e39, e40, e41, -, -⟩ := zwid_e
  have rd : ∀ a n, zwid a = n → 429 ≤ a → a ≤ 453 → ¬ (442 ≤ a ∧ a ≤ 444) → ∀ j, (j < n * s ∨ n * s + n ≤ j) → I' a j = I a j := fun a n e p q r j hj => hf.2.2 a p q r j (by rw [e]; exact hj)
  have lm : ∀ p, (p < τ 0 0 ∨ p = 7) → zLM I (8 * v + p) (Λ p) → zLM I' (8 * v + p) (Λ p) := fun p hp hl => by
    have i45 := rd 445 8 zwid_8.1 (by decide) (by decide) (by decide) (8 * v + p) (by omega)
    have i46 := rd 446 8 zwid_8.2 (by decide) (by decide) (by decide) (8 * v + p) (by omega)
    cases e : Λ p with
    | none => rw [e] at hl; show I' 445 _ = I' 446 _; rw [i45, i46]; exact hl
    | some w =>
      rw [e] at hl
      obtain ⟨⟨b0, g1, g2, g3, -⟩, g5⟩ := hl
      obtain ⟨b1, k1, k2⟩ := hH' p w hp e
      have kb : b1 < 130 * v + 130 := by
        have := (zmlv_w (by omega) _ _ _ k2).2; omega
      rw [i45, g1, zeq (by omega) (by omega)] at k1
      rw [← k1] at k2
      exact ⟨⟨b0, i45.trans g1, i46.trans g2, g3, (zmlv_w (by omega) _ _ _ k2).1⟩, g5⟩
  refine ⟨⟨hv, by rw [hf.2.1 18 (by decide)]; exact h18⟩, ⟨by rw [rd 431 1 e31 (by decide) (by decide) (by decide) v (by omega)]; exact b1, by rw [rd 429 1 e29 (by decide) (by decide) (by decide) v (by omega)]; exact b2, by rw [rd 430 1 e30 (by decide) (by decide) (by decide) v (by omega)]; exact b3, by rw [rd 441 1 e41 (by decide) (by decide) (by decide) v (by omega)]; exact b4, by rw [rd 438 1 e38 (by decide) (by decide) (by decide) v (by omega)]; exact b5⟩, fun m hm => ?_, fun m i hm hi => ?_, fun i hi => ?_, fun m hm => lm m (Or.inl hm) (c4 m hm), lm 7 (Or.inr rfl) c5⟩
  · rw [rd 432 7 e32 (by decide) (by decide) (by decide) _ (by omega), rd 433 7 e33 (by decide) (by decide) (by decide) _ (by omega), rd 434 7 e34 (by decide) (by decide) (by decide) _ (by omega), rd 435 7 e35 (by decide) (by decide) (by decide) _ (by omega)]; exact c1 m hm
  · have := (hW.2.1 m hm).2.2.2.1
    rw [rd 436 42 e36 (by decide) (by decide) (by decide) _ (by omega), rd 437 42 e37 (by decide) (by decide) (by decide) _ (by omega)]; exact c2 m i hm hi
  · rw [rd 439 6 e39 (by decide) (by decide) (by decide) _ (by omega), rd 440 6 e40 (by decide) (by decide) (by decide) _ (by omega)]; exact c3 i hi
theorem zRb_bg2 (hb : 10000 ≤ b) (h6 : ∀ k, k < 1290 → ρ k ≤ 600000000) (hD : ∀ m, m < 7 → DX m ≤ 9999 ∧ DY m ≤ 9999) : zRb b (zbg DX DY ρ) := by
  refine ⟨hb, fun k hk h28 => ?_, by rw [zbg_0 28 (by decide) (by decide)]; exact Nat.zero_le _⟩
  have h6k := h6 k hk
  have v6 := zK6_v
  unfold zbg
  by_cases k7 : k < 7
  · rw [if_pos k7]; have := (hD k k7).1; exact ⟨fun _ => by omega, Or.inl (by omega)⟩
  · rw [if_neg k7]
    by_cases k14 : k < 14
    · rw [if_pos k14]; have := (hD (k - 7) (by omega)).2; exact ⟨fun _ => by omega, Or.inl (by omega)⟩
    · rw [if_neg k14]
      by_cases k30 : k < 30
      · rw [if_pos k30]; exact ⟨fun _ => Nat.zero_le _, Or.inl (Nat.zero_le _)⟩
      · rw [if_neg k30]; exact ⟨fun q => absurd q k30, Or.inr (by omega)⟩
end

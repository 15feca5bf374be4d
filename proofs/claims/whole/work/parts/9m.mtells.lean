/-! the tokens of the reference, and its loop -/
def zx27 (B : Nat → Nat) (L i : Nat) : Nat := zc27 B (zplc B L i) (zpos B L (i + 1) - zplc B L i)
theorem zsgL_zkL : ∀ c ∈ zsgL, c ∈ zkL := by decide
theorem z128_zkL : ∀ k, k < 17 → 128 + k ∈ zkL := by decide
section
variable {L : Nat} {B : Nat → Nat}
theorem zwf_zkL (x : Nat) : ∀ (f k : Nat), k + f = 17 → zwf x f k ∈ zkL := by
  intro f
  induction f with
  | zero => intro k _; exact (by decide : 2 ∈ zkL)
  | succ f ih =>
    intro k hk
    simp only [zwf]
    split
    · exact z128_zkL k (by omega)
    · exact ih (k + 1) (by omega)
theorem zknd_zkL (i : Nat) : zknd B L i ∈ zkL := by
  unfold zknd zkn
  split
  · decide
  · split
    · split
      · exact zwf_zkL _ 17 0 rfl
      · decide
    · split
      · split <;> decide
      · split
        · exact zsgL_zkL _ ‹_›
        · decide
theorem zknd2_let {i : Nat} (h : zknd B L i = 2) : zpos B L (i + 1) - zplc B L i ≤ 8 ∧ ∀ j, j < zpos B L (i + 1) - zplc B L i → zPlt B (zplc B L i + j) = true := by
  have hp : zpos B L (i + 1) = zte B L (zplc B L i) := rfl
  unfold zknd zkn at h
  split at h
  · exact absurd h (by decide)
  · rename_i c0
    split at h
    · rename_i c1
      split at h
      · rename_i c3
        have hl : zplc B L i < L := by
          refine Nat.lt_of_not_le fun q => c0 ?_
          rw [hp, zte, if_neg (by omega)]
          exact Nat.le_refl _
        have he : zpos B L (i + 1) = zrn (zPlt B) L (zplc B L i) := by rw [hp, zte, if_pos hl, if_pos c1]
        exact ⟨c3, fun j hj => (zrn_ok (P := zPlt B) (L := L) _ (zplc B L i) rfl).2.2.1 _ (by omega) (by rw [← he]; omega)⟩
      · exact absurd h (by decide)
    · split at h
      · split at h <;> exact absurd h (by decide)
      · split at h
        · rename_i hm
          have := zsg_ne hm
          omega
        · exact absurd h (by decide)
theorem zMB_tok (hB : ∀ i, i < L → B i < 256) (hL : L ≤ 2000) : zMB (zknd B L) (zplc B L) (zvlu B L) (znam B L) (zx27 B L) := by
  refine ⟨zknd_zkL, (zTB_tok hB).2.1, fun i h => ?_, fun i j hi hj => ?_, fun i => ?_, fun i h => zplc_lt h⟩
  · obtain ⟨h1, h2⟩ := zknd2_let h
    exact zc27_b h1 h2
  · obtain ⟨h1, h2⟩ := zknd2_let hi
    obtain ⟨h3, h4⟩ := zknd2_let hj
    exact zc_inj _ _ h4 h2
  · have := zplc_le (B := B) (L := L) i; omega
end
section
variable {K V W N : Nat → Nat} {t0 : Nat} {wo : Option (Nat × Nat)} {τ : Nat → Nat → Nat} {Λ : Nat → Option zLaw} {cn : Nat} {C : Nat → Nat × Nat × Nat}
theorem ztk_up {k t' : Nat} {r : zRt} (h : ztk K k r = .ok t') (hr : ∀ t1, r = .ok t1 → t0 < t1) : t0 < t' := by
  obtain ⟨t1, e, -, -, e5⟩ := ztk_ok h
  have := hr t1 e; omega
theorem zgn_up {t1 : Nat} (h : zgn t0 = .ok t1) : t0 < t1 := by have := (zgn_ok h).2; omega
/-- a tell goes on -/
theorem ztell_up {s : Option (Nat × Nat) × (Nat → Nat → Nat) × (Nat → Option zLaw) × (Nat → Nat) × Nat × (Nat → Nat × Nat × Nat)} {t' : Nat} (h : (ztell K V W t0 s).1 = .ok t') : t0 < t' := by
  obtain ⟨wo, τ, Λ, N, cn, C⟩ := s
  unfold ztell at h
  dsimp only at h
  split at h
  · exact ztk_up h (fun t1 q => ztk_up q (fun t2 q => ztk_up q (fun t3 q => zgn_up q)))
  · split at h
    · refine ztk_up h (fun t1 q => ztk_up q (fun t2 q => ztk_up q (fun t3 q => ztk_up q (fun t4 q => ?_))))
      split at q
      · exact absurd q (by simp)
      · exact zgn_up q
    · split at h
      · refine ztk_up h (fun t1 q => ?_)
        obtain ⟨a, ea⟩ := zrt_ok q
        cases hz : ztk K 2 (zgn t0) with
        | error e => rw [hz] at ea; exact absurd ea (by simp [zlawR, ztk])
        | ok t2 =>
          have q1 := zlawR_le ea t2 hz
          have q2 : t0 < t2 := ztk_up hz (fun t3 q => zgn_up q)
          simp only at q1; omega
      · split at h
        · refine ztk_up h (fun t1 q => ?_)
          obtain ⟨a, ea⟩ := zrt_ok q
          cases hz : zgn t0 with
          | error e => rw [hz] at ea; exact absurd ea (by simp [zlawR, ztk])
          | ok t2 =>
            have q1 := zlawR_le ea t2 hz
            have q2 : t0 < t2 := zgn_up hz
            simp only at q1; omega
        · split at h
          · refine ztk_up h (fun t1 q => ztk_up q (fun t2 q => ztk_up q (fun t3 q => ztk_up q (fun t4 q => ?_))))
            split at q
            · exact absurd q (by simp)
            · exact zgn_up q
          · split at h
            · refine ztk_up h (fun t1 q => ?_)
              have q' : (if τ 0 4 = 6 then .error (2, t0) else ztk K 3 (ztk K 3 (zgn t0))) = (.ok t1 : zRt) := q
              split at q'
              · exact absurd q' (by simp)
              · exact ztk_up q' (fun t2 q => ztk_up q (fun t3 q => zgn_up q))
            · split at h
              · exact ztk_up h (fun t1 q => ztk_up q (fun t2 q => ztk_up q (fun t3 q => zgn_up q)))
              · split at h
                · exact ztk_up h (fun t1 q => ztk_up q (fun t2 q => zgn_up q))
                · exact absurd h (by simp)
end
section
variable {d : Nat} {Z : zZ} {I I' : zI} {J J' : zJ} {t u s : Nat} {K P V W X : Nat → Nat}
theorem zTM.fS (h : zTM I J K P V X) (hf : zfS s I I') (hj : ∀ a, a ≠ 428 → J' a = J a) : zTM I' J' K P V X := fun i hi hg => by
  rw [hf.1 423 (by decide) (by decide), hf.1 424 (by decide) (by decide), hf.1 425 (by decide) (by decide), hj 426 (by decide)]; exact h i hi hg
/-- all tells -/
theorem M_tells (hL : zLY Z t u) (hs : s < 2) (hB : zMB K P V W X) : ∀ (f : Nat) (st : zPs) (I : zI) (J : zJ), zTM I J K P V X → zGl st.2.2.1 st.2.2.2.1 → zMS I J s K P W X st → (∀ t0, st.1 = .ok t0 → 401 ≤ f + t0) → ∃ I' J', (∀ o, zE (d + 7) kX12_read 139 [some (.ref 420), none] [] Z I' J' o → zE (d + 7) kX12_read 117 [some (.ref 420), none] [] Z I J o) ∧ (zfS s I I' ∧ ∀ a, a ≠ 428 → J' a = J a) ∧ zMS I' J' s K P W X (ztls K V W f st) := by
  intro f
  induction f with
  | zero =>
    intro st I J hT hG h hf
    obtain ⟨r, wo, τ, Λ, N, cn, C⟩ := st
    cases r with
    | error e =>
      have h1 : zMt I K P (.error e) := h.1.1
      exact ⟨I, J, fun o ho => BX12_read_117 hL ⟨fun _ => ho, fun q => absurd q h1.e0.1⟩, ⟨zfS.rf, fun _ _ => rfl⟩, h⟩
    | ok t0 =>
      have h1 : zMt I K P (.ok t0) := h.1.1
      have := hf t0 rfl
      have := h1.1.1
      omega
  | succ f ih =>
    intro st I J hT hG h hf
    obtain ⟨r, wo, τ, Λ, N, cn, C⟩ := st
    cases r with
    | error e =>
      have h1 : zMt I K P (.error e) := h.1.1
      exact ⟨I, J, fun o ho => BX12_read_117 hL ⟨fun _ => ho, fun q => absurd q h1.e0.1⟩, ⟨zfS.rf, fun _ _ => rfl⟩, h⟩
    | ok t0 =>
      have h1 : zMt I K P (.ok t0) := h.1.1
      obtain ⟨v, v1, v2⟩ := M_is (d := d + 6) hL hT hB h1 (k := 0) (by decide)
      simp only [ztls]
      by_cases c : K t0 = 0
      · rw [if_pos c]
        have nv : ¬ v = 0 := v2.mpr ⟨t0, rfl, c⟩
        exact ⟨I, J, fun o ho => BX12_read_117 hL ⟨fun _ => ho, fun _ => ⟨v, v1, fun _ => ho, fun q => absurd q nv⟩⟩, ⟨zfS.rf, fun _ _ => rfl⟩, h⟩
      · rw [if_neg c]
        have nv : v = 0 := Classical.not_not.mp fun q => by
          obtain ⟨t1, q1, q2⟩ := v2.mp q
          cases q1; exact c q2
        obtain ⟨I1, J1, a1, ⟨a2, a3⟩, a4⟩ := M_tell1 (d := d) hL hs hT hB hG h
        obtain ⟨I2, J2, b1, ⟨b2, b3⟩, b4⟩ := ih _ I1 J1 (hT.fS a2 a3) (zGl_tell hG) a4 (fun t1 q => by
          have := ztell_up q
          have := hf t0 rfl
          omega)
        exact ⟨I2, J2, fun o ho => BX12_read_117 hL ⟨fun q => absurd h1.2.1 q, fun _ => ⟨v, v1, fun q => absurd nv q, fun _ => ⟨I1, J1, a1, b1 o ho⟩⟩⟩, ⟨a2.tr b2, fun a p => (b3 a p).trans (a3 a p)⟩, b4⟩
end

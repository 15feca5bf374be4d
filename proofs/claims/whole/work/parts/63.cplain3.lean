/-! A PLAIN DAY chosen, class: the choices -/
section
variable {d : Nat} {Z : zZ} {J : zJ} {I I' : zI} {t u v b : Nat} {τ : Nat → Nat → Nat} {Λ : Nat → Option zLaw} {ρ : Nat → Nat}
theorem zprw_I {S m : Nat} (hS : S < 128) (hm : m < 7) : ((2 : Int32) * nI m) + ((nI S >>> (nI m &&& 31)) &&& 1) = nI (zprw S m) := by
  rw [zb_bit S hS m hm, show (2 : Int32) = nI 2 from rfl, zmul, zadd]; rfl
theorem C_countAll2 (hL : zLY Z t u) (h7 : τ 0 0 ≤ 7) (hM : zlM I τ (2 * τ 0 0)) {S : Nat} (hS : S < 128) : zE (d + 1) kX4_countAll 0 [some (.ref 410), some (.int (nI (τ 0 0))), some (.int (nI S)), none, none, none, none, none] [] Z I J (some (.int (nI (zpcc τ S (τ 0 0)))), Z, I, J) := by
  have outer : ∀ m, m ≤ τ 0 0 → ∀ acc, zE (d + 1) kX4_countAll 5 [some (.ref 410), some (.int (nI (τ 0 0))), some (.int (nI S)), some (.int (nI acc)), some (.int (nI m)), none, none, none] [] Z I J (some (.int (nI (acc + zsum (fun m => zsum (fun o => zPm τ (zprw S m) (zprw S o)) 0 m) m (τ 0 0 - m)))), Z, I, J) := by
    refine zloop _ _ ?_ ?_
    · intro acc
      exact BX4_countAll_5 _ _ _ _ hL ⟨fun _ => by rw [zsum_end]; rfl, fun q => absurd (Int32.le_refl _) q⟩
    · intro m hm ih acc
      rw [zsum_lt hm, ← Nat.add_assoc]
      have inner : ∀ o, o ≤ m → ∀ acc', acc' + zsum (fun o => zPm τ (zprw S m) (zprw S o)) o (m - o) = acc + zsum (fun o => zPm τ (zprw S m) (zprw S o)) 0 m → zE (d + 1) kX4_countAll 27 [some (.ref 410), some (.int (nI (τ 0 0))), some (.int (nI S)), some (.int (nI acc')), some (.int (nI m)), some (.int (nI (zprw S m))), some (.int (nI o)), none] [] Z I J (some (.int (nI (acc + zsum (fun o => zPm τ (zprw S m) (zprw S o)) 0 m + zsum (fun m => zsum (fun o => zPm τ (zprw S m) (zprw S o)) 0 m) (m + 1) (τ 0 0 - (m + 1))))), Z, I, J) := by
        refine zloop _ _ ?_ ?_
        · intro acc' e
          rw [zsum_end, Nat.add_zero] at e
          have := ih acc'
          rw [e] at this
          exact BX4_countAll_27 _ _ _ _ _ _ hL ⟨fun _ => by rw [zadd1, e]; exact this, fun q => absurd (Int32.le_refl _) q⟩
        · intro o ho iho acc' e
          rw [zsum_lt ho, ← Nat.add_assoc] at e
          have h1 : zprw S m < 2 * τ 0 0 := zprw_lt hm
          have h2 : zprw S o < zprw S m := by
            have := zprw_lt (S := S) ho
            have : 2 * m ≤ zprw S m := by unfold zprw; omega
            omega
          refine BX4_countAll_27 _ _ _ _ _ _ hL ⟨fun q => ?_, fun _ y1 ey1 y2 ey2 => ?_⟩
          · rw [zle' (by omega) (by omega)] at q; omega
          · rw [zprw_I hS (by omega)] at ey1
            rw [ey1, show (nI (zprw S m) * 2) * 7 + nI (zprw S o) = nI (14 * zprw S m + zprw S o) by
              rw [show (2 : Int32) = nI 2 from rfl, show (7 : Int32) = nI 7 from rfl, zmul, zmul, zadd, show zprw S m * 2 * 7 + zprw S o = 14 * zprw S m + zprw S o by omega], zatI (by omega) (by decide), hM _ _ h1 h2, zadd] at ey2
            rw [ey2, zadd1]
            exact iho _ e
      refine BX4_countAll_5 _ _ _ _ hL ⟨fun q => ?_, fun _ y1 ey1 => ?_⟩
      · rw [zle' (by omega) (by omega)] at q; omega
      · rw [zprw_I hS (by omega)] at ey1
        rw [ey1]; exact inner 0 (Nat.zero_le _) acc (by rw [Nat.sub_zero])
  have := outer 0 (Nat.zero_le _) 0
  rw [Nat.zero_add, Nat.sub_zero] at this
  exact BX4_countAll_0 _ _ hL this
theorem C_choose (hL : zLY Z t u) {t1 : Nat} (ht : zTx Z t1) (ht5 : t1 < 300) (hW : zTW τ Λ) (hT : zCT I t1 τ Λ) :
    ∃ (I' : zI) (p : Nat × Nat), zPb (fun S => zpcc τ S (τ 0 0)) (2 ^ τ 0 0) = some p ∧ zE (d + 6) kX4_choose 0 [some (.ref 410), some (.ref t1), some (.ref 407), none, none] [] Z I J (none, Z, I', J) ∧ I' 410 0 = nI p.1 ∧ I' 410 1 = nI p.2 ∧ ∀ a, a ≠ 408 → a ≠ 409 → a ≠ 410 → a ≠ 411 → a ≠ 412 → I' a = I a := by
  have h7 := hW.1.1
  have p128 : ∀ k, k ≤ 7 → 2 ^ k ≤ 128 := by decide
  have p2 := p128 _ h7
  have p1 : 1 ≤ 2 ^ τ 0 0 := Nat.one_le_two_pow
  obtain ⟨c, hc⟩ : ∃ c, c = fun S => zpcc τ S (τ 0 0) := ⟨_, rfl⟩
  have cB : ∀ S, c S < 1000000 := fun S => by rw [hc]; exact zpcc_le hW
  have last : ∀ S, S ≤ 2 ^ τ 0 0 → ∀ I0 : zI, zlM I0 τ (2 * τ 0 0) → I0 t1 2 = nI (τ 0 0) → (match zPb c S with | none => I0 410 0 = 1000000 | some p => I0 410 0 = nI p.1 ∧ I0 410 1 = nI p.2) →
      ∃ (I' : zI) (p : Nat × Nat), zPb c (2 ^ τ 0 0) = some p ∧ zE (d + 6) kX4_choose 116 [some (.ref 410), some (.ref t1), none, some (.int (nI S)), none] [] Z I0 J (none, Z, I', J) ∧ I' 410 0 = nI p.1 ∧ I' 410 1 = nI p.2 ∧ ∀ a, a ≠ 410 → I' a = I0 a := by
    refine zloop _ _ ?_ ?_
    · intro I0 hM hn hs
      obtain ⟨p, hp⟩ := zPb_some (c := c) p1
      rw [hp] at hs
      refine ⟨I0, p, hp, BX4_choose_116 _ hL ht ⟨fun _ => rfl, fun _ => ⟨fun _ => rfl, fun q => absurd ?_ q⟩⟩, hs.1, hs.2, fun _ _ => rfl⟩
      rw [hn, show (1 : Int32) <<< (nI (τ 0 0) &&& 31) = nI (2 ^ τ 0 0) by
        have : ∀ k, k ≤ 7 → (1 : Int32) <<< (nI k &&& 31) = nI (2 ^ k) := by decide +kernel
        exact this _ h7]
      exact Int32.le_refl _
    · intro S hS ih I0 hM hn hs
      have sh : (1 : Int32) <<< (nI (τ 0 0) &&& 31) = nI (2 ^ τ 0 0) := by
        have : ∀ k, k ≤ 7 → (1 : Int32) <<< (nI k &&& 31) = nI (2 ^ k) := by decide +kernel
        exact this _ h7
      have g1 : ¬ (128 : Int32) ≤ nI S := by rw [show (128 : Int32) = nI 128 from rfl, zle' (by omega) (by omega)]; omega
      have g2 : ¬ (1 : Int32) <<< (I0 t1 2 &&& 31) ≤ nI S := by rw [hn, sh, zle' (by omega) (by omega)]; omega
      have ca := C_countAll2 (d := d + 4) (J := J) hL h7 hM (S := S) (by omega)
      have ecS : zpcc τ S (τ 0 0) = c S := by rw [hc]
      rw [ecS] at ca
      have cS := cB S
      have keep : (¬ I0 410 0 ≤ nI (c S) → zPb c (S + 1) = some (c S, S)) → (I0 410 0 ≤ nI (c S) → zPb c (S + 1) = zPb c S) → ∃ (I' : zI) (p : Nat × Nat), zPb c (2 ^ τ 0 0) = some p ∧ zE (d + 6) kX4_choose 116 [some (.ref 410), some (.ref t1), none, some (.int (nI S)), none] [] Z I0 J (none, Z, I', J) ∧ I' 410 0 = nI p.1 ∧ I' 410 1 = nI p.2 ∧ ∀ a, a ≠ 410 → I' a = I0 a := by
        intro k1 k2
        by_cases q : I0 410 0 ≤ nI (c S)
        · obtain ⟨I', p, e1, e2, e3, e4, e5⟩ := ih I0 hM hn (by rw [k2 q]; exact hs)
          exact ⟨I', p, e1, BX4_choose_116 _ hL ht ⟨fun z => absurd z g1, fun _ => ⟨fun z => absurd z g2, fun _ => ⟨nI (c S), by rw [hn]; exact ca, fun _ => by rw [zadd1]; exact e2, fun z => absurd q z⟩⟩⟩, e3, e4, e5⟩
        · obtain ⟨I', p, e1, e2, e3, e4, e5⟩ := ih (zu (zu I0 410 0 (nI (c S))) 410 1 (nI S)) (fun a c' h1 h2 => by rw [zu_ne (by decide), zu_ne (by decide)]; exact hM a c' h1 h2) (by
            by_cases e : t1 = 410
            · omega
            · rw [zu_ne e, zu_ne e]; exact hn) (by rw [k1 q]; exact ⟨by rw [zu_k (by decide), zu_eq], zu_eq⟩)
          refine ⟨I', p, e1, BX4_choose_116 _ hL ht ⟨fun z => absurd z g1, fun _ => ⟨fun z => absurd z g2, fun _ => ⟨nI (c S), by rw [hn]; exact ca, fun z => absurd z q, fun _ I2 x2 I3 x3 => ?_⟩⟩⟩, e3, e4, fun a ha => by rw [e5 a ha, zu_ne ha, zu_ne ha]⟩
          rw [x3, x2, zadd1]; exact e2
      cases hz : zPb c S with
      | none =>
        rw [hz] at hs
        refine keep (fun _ => by rw [zPb_s, hz]) (fun q => ?_)
        exfalso; rw [hs, show (1000000 : Int32) = nI 1000000 from rfl, zle' (by decide) (by omega)] at q; omega
      | some p =>
        rw [hz] at hs
        have hb := zPb_b cB S p hz
        refine keep (fun q => ?_) (fun q => ?_)
        all_goals rw [hs.1, zle' (by omega) (by omega)] at q
        all_goals rw [zPb_s, hz]
        all_goals dsimp only
        · rw [if_pos (by omega)]
        · rw [if_neg (by omega)]
  have hfill : zlC (zrw I 411 0 (fun _ => 0) 4032) (zPa τ 0) := fun r s hr hs => by
    have := zenc_lt hs
    rw [zrw_at0 (by omega)]; unfold zPa; rw [if_neg (by omega)]; rfl
  have hT0 : zCT (zrw I 411 0 (fun _ => 0) 4032) t1 τ Λ := hT.same (fun a _ _ _ _ => zrw_ne (by omega))
  obtain ⟨I1, a1, a2, a3⟩ := C_walks (d := d) (J := J) hL ht ht5 hW hT0 0 (Nat.zero_le _) _ (fun _ _ _ _ => rfl) hfill
  have hT1 : zCT I1 t1 τ Λ := hT0.same (fun a _ _ _ _ => a1 a (by omega) (by omega) (by omega))
  obtain ⟨I2, b1, b2, b3, b4⟩ := C_meets (d := d) (J := J) hL ht ht5 hW hT1 a2 0 (Nat.zero_le _) I1 (fun _ _ => rfl) (fun a c h _ => absurd h (by omega))
  obtain ⟨I', p, e1, e2, e3, e4, e5⟩ := last 0 (by omega) I2 b2 (by rw [b1 _ (by omega) (by omega), hT1.1.1]) b3
  rw [hc] at e1
  exact ⟨I', p, e1, BX4_choose_0 hL ht ⟨_, S_fill (by decide) (ly_a411 hL), a3 _ (b4 _ e2)⟩, e3, e4, fun a h1 h2 h3 h4 h5 => by rw [e5 a h3, b1 a h5 h3, a1 a h1 h2 h4, zrw_ne h4]⟩
end

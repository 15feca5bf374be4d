/-! PLAIN answered -/
section
variable {d : Nat} {Z : zZ} {J : zJ} {I I' : zI} {t u v b : Nat} {τ : Nat → Nat → Nat} {Λ : Nat → Option zLaw} {ρ : Nat → Nat}
theorem ztri {F : Nat → Nat → Nat} (hF : ∀ a c, F a c = F c a) : ∀ n, zsum (fun a => zsum (fun c => F a c) (a + 1) (n - (a + 1))) 0 n = zsum (fun m => zsum (fun o => F m o) 0 m) 0 n := by
  intro n
  induction n with
  | zero => rfl
  | succ n ih =>
    rw [zsum_last, zsum_last, Nat.zero_add, ← ih, Nat.sub_self]
    have h1 : zsum (fun a => zsum (fun c => F a c) (a + 1) (n + 1 - (a + 1))) 0 n = zsum (fun a => zsum (fun c => F a c) (a + 1) (n - (a + 1)) + F a n) 0 n := zsum_congr fun a _ ha => by
      rw [show n + 1 - (a + 1) = (n - (a + 1)) + 1 by omega, zsum_last, show a + 1 + (n - (a + 1)) = n by omega]
    rw [h1, zsum_add]
    have h2 : zsum (fun a => F a n) 0 n = zsum (fun o => F n o) 0 n := zsum_congr fun a _ _ => hF a n
    rw [h2]; rfl
theorem M_rows (hL : zLY Z t u) (hW : zTW τ Λ) (x1 : Int32) : ∀ m, m ≤ τ 0 0 → ∀ I0 : zI, zMT I0 v τ Λ → (∀ r s, r < 2 * m → s < 288 → I0 466 (288 * r + s) = nI (zPt τ r s)) →
    ∃ I1, (∀ r s, r < 2 * τ 0 0 → s < 288 → I1 466 (288 * r + s) = nI (zPt τ r s)) ∧ (∀ a, a ≠ 463 → a ≠ 464 → a ≠ 466 → I1 a = I0 a) ∧ ∀ o : zO, zE (d + 4) kX12_plain 53 [some (.ref 420), some (.int x1), some (.int 0), none, none, none, none, none] [] Z I1 J o → zE (d + 4) kX12_plain 13 [some (.ref 420), some (.int x1), some (.int (nI m)), none, none, none, none, none] [] Z I0 J o := by
  have h7 := hW.1.1
  refine zloop _ _ ?_ ?_
  · intro I0 hM hl
    have hn : I0 431 (I0 420 18).toNatClampNeg = nI (τ 0 0) := by rw [hM.1.2, zclm (by have := hM.1.1; omega)]; exact hM.2.1.1
    exact ⟨I0, hl, fun _ _ _ _ => rfl, fun o K => BX12_plain_13 _ _ hL ⟨by rw [hM.1.2]; exact zvin hM.1.1 (by decide), fun _ => K, fun q => absurd (by rw [hn]; exact Int32.le_refl _) q⟩⟩
  · intro m hm ih I0 hM hl
    have hn : I0 431 (I0 420 18).toNatClampNeg = nI (τ 0 0) := by rw [hM.1.2, zclm (by have := hM.1.1; omega)]; exact hM.2.1.1
    obtain ⟨I1, a1, a2, a3⟩ := M_walks (d := d) (J := J) (c := 0) hL hW hM hm (by decide) hl
    have hM1 : zMT I1 v τ Λ := hM.same (by rw [a3 420 (by decide) (by decide) (by decide)]) (fun a _ _ => a3 a (by omega) (by omega) (by omega))
    obtain ⟨I2, b1, b2, b3⟩ := M_walks (d := d) (J := J) (c := 1) hL hW hM1 hm (by decide) a2
    have hM2 : zMT I2 v τ Λ := hM1.same (by rw [b3 420 (by decide) (by decide) (by decide)]) (fun a _ _ => b3 a (by omega) (by omega) (by omega))
    obtain ⟨I3, c1, c2, c3⟩ := ih I2 hM2 (fun r s hr hs => b2 r s (by omega) hs)
    refine ⟨I3, c1, fun a h1 h2 h3 => by rw [c2 a h1 h2 h3, b3 a h1 h2 h3, a3 a h1 h2 h3], fun o K => BX12_plain_13 _ _ hL ⟨by rw [hM.1.2]; exact zvin hM.1.1 (by decide), fun q => ?_, fun _ => ?_⟩⟩
    · exfalso; rw [hn, zle' (by omega) (by omega)] at q; omega
    · refine BX12_plain_28 _ _ _ hL ⟨fun q => absurd q (by decide), fun _ => ⟨I1, a1, ?_⟩⟩
      refine BX12_plain_28 _ _ _ hL ⟨fun q => absurd q (by decide), fun _ => ⟨I2, b1, ?_⟩⟩
      refine BX12_plain_28 _ _ _ hL ⟨fun _ => by rw [zadd1]; exact c3 o K, fun q => absurd (by decide) q⟩
theorem M_meets (hL : zLY Z t u) (hW : zTW τ Λ) (hM : zMT I v τ Λ) (x1 : Int32) (hl : ∀ r s, r < 2 * τ 0 0 → s < 288 → I 466 (288 * r + s) = nI (zPt τ r s)) : ∀ a, a ≤ 2 * τ 0 0 → ∀ I0 : zI, (∀ a, a ≠ 467 → I0 a = I a) → (∀ r c, r < a → c < 2 * τ 0 0 → I0 467 (14 * r + c) = nI (zPm τ r c)) →
    ∃ I1, (∀ r c, r < 2 * τ 0 0 → c < 2 * τ 0 0 → I1 467 (14 * r + c) = nI (zPm τ r c)) ∧ (∀ a, a ≠ 467 → I1 a = I a) ∧ ∀ o : zO, zE (d + 4) kX12_plain 174 [some (.ref 420), some (.int x1), some (.int 0), some (.int (-1)), some (.int 0), none, none, none] [] Z I1 J o → zE (d + 4) kX12_plain 53 [some (.ref 420), some (.int x1), some (.int (nI a)), none, none, none, none, none] [] Z I0 J o := by
  have h7 := hW.1.1
  have hv := hM.1.1
  have rd : ∀ I0 : zI, (∀ a, a ≠ 467 → I0 a = I a) → vp_in (I0 420 18) 2 ∧ (2 : Int32) * I0 431 (I0 420 18).toNatClampNeg = nI (2 * τ 0 0) := fun I0 h => by
    rw [h 420 (by decide), h 431 (by decide), hM.1.2, zclm (by omega), hM.2.1.1, show (2 : Int32) = nI 2 from rfl, zmul]
    exact ⟨zvin hv (by decide), rfl⟩
  refine zloop _ _ ?_ ?_
  · intro I0 hf hm
    exact ⟨I0, hm, hf, fun o K => BX12_plain_53 _ _ hL ⟨(rd I0 hf).1, fun _ => K, fun q => absurd (by rw [(rd I0 hf).2]; exact Int32.le_refl _) q⟩⟩
  · intro a ha ih I0 hf hm
    have row : ∀ c, c ≤ 2 * τ 0 0 → ∀ I0 : zI, (∀ a, a ≠ 467 → I0 a = I a) → (∀ r c, r < a → c < 2 * τ 0 0 → I0 467 (14 * r + c) = nI (zPm τ r c)) → (∀ c', c' < c → I0 467 (14 * a + c') = nI (zPm τ a c')) →
        ∃ I1, (∀ r c, r < 2 * τ 0 0 → c < 2 * τ 0 0 → I1 467 (14 * r + c) = nI (zPm τ r c)) ∧ (∀ a, a ≠ 467 → I1 a = I a) ∧ ∀ o : zO, zE (d + 4) kX12_plain 174 [some (.ref 420), some (.int x1), some (.int 0), some (.int (-1)), some (.int 0), none, none, none] [] Z I1 J o → zE (d + 4) kX12_plain 70 [some (.ref 420), some (.int x1), some (.int (nI a)), some (.int (nI c)), none, none, none, none] [] Z I0 J o := by
      refine zloop _ _ ?_ ?_
      · intro I0 hf hm hr
        obtain ⟨I1, k1, k2, k3⟩ := ih I0 hf (fun r c h1 h2 => by
          by_cases e : r = a
          · subst e; exact hr c h2
          · exact hm r c (by omega) h2)
        exact ⟨I1, k1, k2, fun o K => BX12_plain_70 _ _ _ hL ⟨(rd I0 hf).1, fun _ => by rw [zadd1]; exact k3 o K, fun q => absurd (by rw [(rd I0 hf).2]; exact Int32.le_refl _) q⟩⟩
      · intro c hc ihc I0 hf hm hr
        have e14 : ((14 : Int32) * nI a) + nI c = nI (14 * a + c) := by rw [show (14 : Int32) = nI 14 from rfl, zmul, zadd]
        have v14 : vp_in (((14 : Int32) * nI a) + nI c) 196 := by rw [e14]; exact zvin (by omega) (by decide)
        have cell : ∀ s, s ≤ 288 → ∀ (I0 : zI), (∀ a, a ≠ 467 → I0 a = I a) → (∀ r c, r < a → c < 2 * τ 0 0 → I0 467 (14 * r + c) = nI (zPm τ r c)) → (∀ c', c' < c → I0 467 (14 * a + c') = nI (zPm τ a c')) → I0 467 (14 * a + c) = nI (zsum (fun s => zPt τ a s * zPt τ c s) 0 s) →
            ∃ I1, (∀ r c, r < 2 * τ 0 0 → c < 2 * τ 0 0 → I1 467 (14 * r + c) = nI (zPm τ r c)) ∧ (∀ a, a ≠ 467 → I1 a = I a) ∧ ∀ o : zO, zE (d + 4) kX12_plain 174 [some (.ref 420), some (.int x1), some (.int 0), some (.int (-1)), some (.int 0), none, none, none] [] Z I1 J o → zE (d + 4) kX12_plain 100 [some (.ref 420), some (.int x1), some (.int (nI a)), some (.int (nI c)), some (.int (nI s)), none, none, none] [] Z I0 J o := by
          refine zloop _ _ ?_ ?_
          · intro I0 hf hm hr he
            obtain ⟨I1, k1, k2, k3⟩ := ihc I0 hf hm (fun c' h => by
              by_cases e : c' = c
              · subst e; exact he
              · exact hr c' (by omega))
            exact ⟨I1, k1, k2, fun o K => BX12_plain_100 _ _ _ _ hL ⟨fun _ => by rw [zadd1]; exact k3 o K, fun q => absurd (by decide) q⟩⟩
          · intro s hs ihs I0 hf hm hr he
            have ea : ∀ r, ((288 : Int32) * nI r) + nI s = nI (288 * r + s) := fun r => by rw [show (288 : Int32) = nI 288 from rfl, zmul, zadd]
            obtain ⟨I1, k1, k2, k3⟩ := ihs (zu I0 467 (14 * a + c) (nI (zsum (fun s => zPt τ a s * zPt τ c s) 0 (s + 1)))) (fun a ha => by rw [zu_ne ha]; exact hf a ha) (fun r c' h1 h2 => by rw [zu_k (by omega)]; exact hm r c' h1 h2) (fun c' h => by rw [zu_k (by omega)]; exact hr c' h) zu_eq
            refine ⟨I1, k1, k2, fun o K => BX12_plain_100 _ _ _ _ hL ⟨fun q => ?_, fun _ => ⟨v14, by rw [ea]; exact zvin (by omega) (by decide), by rw [ea]; exact zvin (by omega) (by decide), v14, fun I2 e2 => ?_⟩⟩⟩
            · exfalso; rw [show (288 : Int32) = nI 288 from rfl, zle' (by omega) (by omega)] at q; omega
            · rw [e14, ea, ea, zclm (by omega), zclm (by omega), zclm (by omega), he, hf 466 (by decide), hl a s ha hs, hl c s hc hs, zmul, zadd] at e2
              rw [zsum_last, Nat.zero_add] at k3
              rw [e2, zadd1]; exact k3 o K
        obtain ⟨I1, k1, k2, k3⟩ := cell 0 (by decide) (zu I0 467 (14 * a + c) 0) (fun a ha => by rw [zu_ne ha]; exact hf a ha) (fun r c' h1 h2 => by rw [zu_k (by omega)]; exact hm r c' h1 h2) (fun c' h => by rw [zu_k (by omega)]; exact hr c' h) zu_eq
        refine ⟨I1, k1, k2, fun o K => BX12_plain_70 _ _ _ hL ⟨(rd I0 hf).1, fun q => ?_, fun _ => ⟨v14, fun I2 e2 => ?_⟩⟩⟩
        · exfalso; rw [(rd I0 hf).2, zle' (by omega) (by omega)] at q; omega
        · rw [e14, zclm (by omega)] at e2
          rw [e2]; exact k3 o K
    obtain ⟨I1, k1, k2, k3⟩ := row 0 (Nat.zero_le _) I0 hf hm (fun c' h => absurd h (by omega))
    refine ⟨I1, k1, k2, fun o K => BX12_plain_53 _ _ hL ⟨(rd I0 hf).1, fun q => ?_, fun _ => k3 o K⟩⟩
    exfalso; rw [(rd I0 hf).2, zle' (by omega) (by omega)] at q; omega
theorem M_choice (hL : zLY Z t u) (hW : zTW τ Λ) (hM : zMT I v τ Λ) (x1 r : Int32) (hm : ∀ r c, r < 2 * τ 0 0 → c < 2 * τ 0 0 → I 467 (14 * r + c) = nI (zPm τ r c)) {p : Nat × Nat} (hp : zPb (fun S => zpcc τ S (τ 0 0)) (2 ^ τ 0 0) = some p) (hr : (x1 = 0 → r = nI p.1) ∧ (¬ x1 = 0 → r = nI p.2)) :
    zE (d + 4) kX12_plain 174 [some (.ref 420), some (.int x1), some (.int 0), some (.int (-1)), some (.int 0), none, none, none] [] Z I J (some (.int r), Z, I, J) := by
  have h7 := hW.1.1
  have hv := hM.1.1
  have hvl : vp_in (I 420 18) 2 := by rw [hM.1.2]; exact zvin hv (by decide)
  have hn : I 431 (I 420 18).toNatClampNeg = nI (τ 0 0) := by rw [hM.1.2, zclm (by omega)]; exact hM.2.1.1
  have p128 : ∀ k, k ≤ 7 → 2 ^ k ≤ 128 := by decide
  have p2 := p128 _ h7
  have sh : (1 : Int32) <<< (I 431 (I 420 18).toNatClampNeg &&& 31) = nI (2 ^ τ 0 0) := by
    rw [hn]
    have : ∀ k, k ≤ 7 → (1 : Int32) <<< (nI k &&& 31) = nI (2 ^ k) := by decide +kernel
    exact this _ h7
  obtain ⟨c, hc⟩ : ∃ c, c = fun S => zpcc τ S (τ 0 0) := ⟨_, rfl⟩
  rw [← hc] at hp
  have cB : ∀ S, c S < 1000000 := fun S => by rw [hc]; exact zpcc_le hW
  have sum : ∀ S, S < 128 → c S = zsum (fun a => zsum (fun o => zPm τ (zprw S a) (zprw S o)) (a + 1) (τ 0 0 - (a + 1))) 0 (τ 0 0) := fun S _ => by
    rw [ztri (F := fun a o => zPm τ (zprw S a) (zprw S o)) (fun a o => zPm_sw), hc]; rfl
  -- one choice
  have one : ∀ S, S < 2 ^ τ 0 0 → ∀ (x2 x3 : Int32) (o : zO), (x3 < 0 ∨ nI (c S) < x3 → zE (d + 4) kX12_plain 174 [some (.ref 420), some (.int x1), some (.int (nI S)), some (.int (nI (c S))), some (.int (nI (S + 1))), none, none, none] [] Z I J o) → (¬ (x3 < 0 ∨ nI (c S) < x3) → zE (d + 4) kX12_plain 174 [some (.ref 420), some (.int x1), some (.int x2), some (.int x3), some (.int (nI (S + 1))), none, none, none] [] Z I J o) →
      zE (d + 4) kX12_plain 196 [some (.ref 420), some (.int x1), some (.int x2), some (.int x3), some (.int (nI S)), some (.int 0), some (.int 0), none] [] Z I J o := by
    intro S hS x2 x3 o k1 k2
    have lp : ∀ a, a ≤ τ 0 0 → ∀ acc, acc + zsum (fun a => zsum (fun o => zPm τ (zprw S a) (zprw S o)) (a + 1) (τ 0 0 - (a + 1))) a (τ 0 0 - a) = c S → zE (d + 4) kX12_plain 196 [some (.ref 420), some (.int x1), some (.int x2), some (.int x3), some (.int (nI S)), some (.int (nI acc)), some (.int (nI a)), none] [] Z I J o := by
      refine zloop _ _ ?_ ?_
      · intro acc e
        rw [zsum_end, Nat.add_zero] at e
        rw [e]
        refine BX12_plain_196 _ _ _ _ _ _ hL ⟨hvl, fun _ => ⟨fun q => ?_, fun q => ⟨fun q2 => ?_, fun q2 => ?_⟩⟩, fun q => absurd (by rw [hn]; exact Int32.le_refl _) q⟩
        · rw [zadd1]; exact k1 (Or.inl q)
        · rw [zadd1]; exact k1 (Or.inr q2)
        · rw [zadd1]; exact k2 (fun z => z.elim q q2)
      · intro a ha ih acc e
        rw [zsum_lt ha, ← Nat.add_assoc] at e
        have inner : ∀ j, j ≤ τ 0 0 → a + 1 ≤ j → ∀ acc', acc' + zsum (fun o => zPm τ (zprw S a) (zprw S o)) j (τ 0 0 - j) + zsum (fun a => zsum (fun o => zPm τ (zprw S a) (zprw S o)) (a + 1) (τ 0 0 - (a + 1))) (a + 1) (τ 0 0 - (a + 1)) = c S → zE (d + 4) kX12_plain 216 [some (.ref 420), some (.int x1), some (.int x2), some (.int x3), some (.int (nI S)), some (.int (nI acc')), some (.int (nI a)), some (.int (nI j))] [] Z I J o := by
          refine zloop _ _ ?_ ?_
          · intro _ acc' e
            rw [zsum_end, Nat.add_zero] at e
            exact BX12_plain_216 _ _ _ _ _ _ _ hL ⟨hvl, fun _ => by rw [zadd1]; exact ih acc' e, fun q => absurd (by rw [hn]; exact Int32.le_refl _) q⟩
          · intro j hj ihj hja acc' e
            rw [zsum_lt hj, ← Nat.add_assoc] at e
            have b1 : zprw S a < 2 * τ 0 0 := zprw_lt ha
            have b2 : zprw S j < 2 * τ 0 0 := zprw_lt hj
            have ix : (((14 : Int32) * (((2 : Int32) * nI a) + ((nI S >>> (nI a &&& 31)) &&& 1))) + ((2 : Int32) * nI j)) + ((nI S >>> (nI j &&& 31)) &&& 1) = nI (14 * zprw S a + zprw S j) := by
              rw [Int32.add_assoc, zprw_I (by omega) (by omega), zprw_I (by omega) (by omega), show (14 : Int32) = nI 14 from rfl, zmul, zadd]
            refine BX12_plain_216 _ _ _ _ _ _ _ hL ⟨hvl, fun q => ?_, fun _ => ⟨by rw [ix]; exact zvin (by omega) (by decide), fun y1 ey1 => ?_⟩⟩
            · exfalso; rw [hn, zle' (by omega) (by omega)] at q; omega
            · rw [ix, zclm (by omega), hm _ _ b1 b2, zadd] at ey1
              rw [ey1, zadd1]; exact ihj (by omega) _ e
        refine BX12_plain_196 _ _ _ _ _ _ hL ⟨hvl, fun q => ?_, fun _ => ?_⟩
        · exfalso; rw [hn, zle' (by omega) (by omega)] at q; omega
        · rw [zadd1]; exact inner (a + 1) (by omega) (Nat.le_refl _) acc e
    have := lp 0 (Nat.zero_le _) 0 (by rw [Nat.zero_add, Nat.sub_zero, ← sum S (by omega)])
    exact this
  have loop : ∀ S, S ≤ 2 ^ τ 0 0 → ∀ x2 x3 : Int32, (match zPb c S with | none => x3 = -1 | some p => x3 = nI p.1 ∧ x2 = nI p.2) → zE (d + 4) kX12_plain 174 [some (.ref 420), some (.int x1), some (.int x2), some (.int x3), some (.int (nI S)), none, none, none] [] Z I J (some (.int r), Z, I, J) := by
    refine zloop _ _ ?_ ?_
    · intro x2 x3 h
      rw [hp] at h
      refine BX12_plain_174 _ _ _ _ hL ⟨hvl, fun _ => ⟨fun q => by rw [hr.2 q, h.2], fun q => by rw [hr.1 q, h.1]⟩, fun q => absurd (by rw [sh]; exact Int32.le_refl _) q⟩
    · intro S hS ih x2 x3 h
      refine BX12_plain_174 _ _ _ _ hL ⟨hvl, fun q => ?_, fun _ => ?_⟩
      · exfalso; rw [sh, zle' (by omega) (by omega)] at q; omega
      · have cS := cB S
        cases hz : zPb c S with
        | none =>
          rw [hz] at h
          refine one S hS x2 x3 _ (fun _ => ih _ _ (by rw [zPb_s, hz]; exact ⟨rfl, rfl⟩)) (fun q => absurd (Or.inl (by rw [h]; decide)) q)
        | some p' =>
          rw [hz] at h
          have hb := zPb_b cB S p' hz
          have n3 : ¬ x3 < 0 := by rw [h.1]; exact zneg (by omega)
          refine one S hS x2 x3 _ (fun q => ih _ _ ?_) (fun q => ih _ _ ?_)
          · have q' := q.resolve_left n3
            rw [h.1, zlt (by omega) (by omega)] at q'
            rw [zPb_s, hz]; dsimp only; rw [if_pos q']; exact ⟨rfl, rfl⟩
          · have q' : ¬ nI (c S) < x3 := fun z => q (Or.inr z)
            rw [h.1, zlt (by omega) (by omega)] at q'
            rw [zPb_s, hz]; dsimp only; rw [if_neg q']; exact h
  exact loop 0 (Nat.zero_le _) 0 (-1) rfl
theorem Q_plain (h : zR0 Z I t u v τ Λ b ρ) (x : Int32) : zQ2 kX11_plain kX12_plain [some (.ref 0), some (.int x)] [some (.ref 420), some (.int x), none, none, none, none, none, none] Z I J := by
  have h7 := h.n7
  have ht3 := h.t3
  have hxx : (x = 0 ∨ x = 1) ∨ (¬ x = 0 ∧ ¬ x = 1 ∧ ¬ (0 ≤ x ∧ x ≤ 1)) := by
    rcases zix x (n := 2) (by decide) with g | ⟨j, hj, rfl⟩
    · right
      refine ⟨?_, ?_, fun z => ?_⟩
      · rintro rfl; rcases g with g | g <;> exact absurd g (by decide)
      · rintro rfl; rcases g with g | g <;> exact absurd g (by decide)
      · rcases g with g | g
        · exact absurd g (Int32.not_lt.mpr z.1)
        · exact absurd (Int32.le_trans g z.2) (by decide)
    · left; obtain rfl | rfl : j = 0 ∨ j = 1 := by omega
      · exact Or.inl rfl
      · exact Or.inr rfl
  rcases hxx with hx | ⟨g1, g2, g3⟩
  · obtain ⟨I1, p, k1, k2, k3, k4, k5⟩ := C_choose (d := 3) (J := J) h.L (ly_tx h.L) (by omega) h.W h.T
    obtain ⟨r, hr⟩ : ∃ r : Int32, (x = 0 → r = nI p.1) ∧ (¬ x = 0 → r = nI p.2) := ⟨if x = 0 then nI p.1 else nI p.2, fun e => if_pos e, fun e => if_neg e⟩
    refine zQ2.of h r ⟨I1, ?_, zscr.of fun a q _ => k5 a (fun z => q (by rw [z]; decide)) (fun z => q (by rw [z]; decide)) (fun z => q (by rw [z]; decide)) (fun z => q (by rw [z]; decide)) (fun z => q (by rw [z]; decide))⟩ (fun I1 h => ?_)
    · have e1 : ¬ x = 0 → (some (Value.int r), Z, I1, J) = (some (Value.int (I1 410 1)), Z, I1, J) := fun q => by rw [hr.2 q, k4]
      have e0 : x = 0 → (some (Value.int r), Z, I1, J) = (some (Value.int (I1 410 0)), Z, I1, J) := fun q => by rw [hr.1 q, k3]
      exact BX11_plain_0 (d := 3) _ h.L ⟨fun _ => ⟨I1, k2, e1, e0⟩, fun q0 => ⟨fun _ => ⟨I1, k2, e1, e0⟩, fun q1 => absurd hx (fun z => z.elim q0 q1)⟩⟩
    · obtain ⟨I2, a1, a2, a3⟩ := M_rows (d := 6) (J := J) h.L h.W x 0 (Nat.zero_le _) I1 h.M (fun r s hr _ => absurd hr (by omega))
      have hM2 : zMT I2 v τ Λ := h.M.same (by rw [a2 420 (by decide) (by decide) (by decide)]) (fun a _ _ => a2 a (by omega) (by omega) (by omega))
      obtain ⟨I3, b1, b2, b3⟩ := M_meets (d := 6) (J := J) h.L h.W hM2 x a1 0 (Nat.zero_le _) I2 (fun _ _ => rfl) (fun r c hr _ => absurd hr (by omega))
      have hM3 : zMT I3 v τ Λ := hM2.same (by rw [b2 420 (by decide)]) (fun a _ _ => b2 a (by omega))
      have ch := M_choice (d := 6) (J := J) h.L h.W hM3 x r b1 k1 hr
      refine ⟨I3, BX12_plain_0 (d := 6) _ h.L ⟨fun _ => a3 _ (b3 _ ch), fun q => absurd (by rcases hx with rfl | rfl <;> decide) (zbi_eq0.mp q)⟩, zscr.of fun a q _ => ?_⟩
      rw [b2 a (fun z => q (by rw [z]; decide)), a2 a (fun z => q (by rw [z]; decide)) (fun z => q (by rw [z]; decide)) (fun z => q (by rw [z]; decide))]
  · exact zQ2.of h (-1) ⟨I, BX11_plain_0 (d := 3) _ h.L ⟨fun q => absurd q g1, fun _ => ⟨fun q => absurd q g2, fun _ => rfl⟩⟩, zscr.rf⟩ (fun I1 h => ⟨I1, BX12_plain_0 (d := 6) _ h.L ⟨fun q => absurd (zbi_eq0.mpr g3) q, fun _ => rfl⟩, zscr.rf⟩)
end

/-! A PLAIN DAY, the reference: a whole walk -/
section
variable {d : Nat} {Z : zZ} {J : zJ} {I I' : zI} {t u v b : Nat} {τ : Nat → Nat → Nat} {Λ : Nat → Option zLaw} {ρ : Nat → Nat}
theorem zwl_1b {E : Nat → Nat × Nat} {a : Nat} {l : List Nat} {x y s : Nat} : zwl E 1 (a :: l) x y s = zly x y (E a).2 s + (zlx (E a).2 x (E a).1 s + zwl E 1 l (E a).1 (E a).2 s) := by
  rw [zwl_1]; omega
theorem M_walks (hL : zLY Z t u) (hW : zTW τ Λ) (hM : zMT I v τ Λ) {m c : Nat} (hm : m < τ 0 0) (hc : c < 2) (hl : ∀ r s, r < 2 * m + c → s < 288 → I 466 (288 * r + s) = nI (zPt τ r s)) :
    ∃ I', zE (d + 3) kX12_walks 0 [some (.ref 420), some (.int (nI m)), some (.int (nI c)), none, none, none, none, none, none, none, none] [] Z I J (none, Z, I', J) ∧ (∀ r s, r < 2 * m + c + 1 → s < 288 → I' 466 (288 * r + s) = nI (zPt τ r s)) ∧ ∀ a, a ≠ 463 → a ≠ 464 → a ≠ 466 → I' a = I a := by
  have h4 := (hW.2.1 m hm).2.2.2.1
  have h7 := hW.1.1
  have w1 := hW.1
  have hv2 := hM.1.1
  have hdr := hW.2.1 m hm
  have hR : 2 * m + c < 14 := by omega
  obtain ⟨R, hRe⟩ : ∃ R, R = 2 * m + c := ⟨_, rfl⟩
  rw [← hRe] at hl hR ⊢
  -- behind the fill and the order
  have body : ∀ I0 : zI, zMT I0 v τ Λ → (∀ i, i < τ 4 m → I0 464 i = nI (zga2 (zLo τ m) i)) → ∀ (l : List Nat) (i x y : Nat) (T : Nat → Nat → Nat) (I1 : zI), (zLo τ m).drop i = l → i ≤ τ 4 m → x < 12 → y < 12 → zlR I1 R T → (∀ a, a ≠ 466 → I1 a = I0 a) →
      ∃ I', zE (d + 3) kX12_walks 78 [some (.ref 420), some (.int (nI m)), some (.int (nI c)), some (.int (nI (288 * R))), some (.int (nI x)), some (.int (nI y)), some (.int (nI i)), none, none, none, none] [] Z I1 J (none, Z, I', J) ∧ zlR I' R (zbm T R (zwl (zer τ m) c l x y)) ∧ ∀ a, a ≠ 466 → I' a = I0 a := by
    intro I0 hM0 hO l
    have ev : ∀ I1 : zI, (∀ a, a ≠ 466 → I1 a = I0 a) → ((7 : Int32) * (I1 420 18)) + nI m = nI (7 * v + m) := fun I1 h => by rw [h _ (by decide), hM0.1.2, show (7 : Int32) = nI 7 from rfl, zmul, zadd]
    have v14 : ∀ I1 : zI, (∀ a, a ≠ 466 → I1 a = I0 a) → vp_in (((7 : Int32) * (I1 420 18)) + nI m) 14 ∧ I1 435 (((7 : Int32) * (I1 420 18)) + nI m).toNatClampNeg = nI (τ 4 m) := fun I1 h => by
      rw [ev I1 h, zclm (by omega), h _ (by decide)]
      exact ⟨zvin (by omega) (by decide), (hM0.2.2.1 m hm).2.2.2⟩
    induction l with
    | nil =>
      intro i x y T I1 hs hi hx hy hl hf
      have e0 : τ 4 m ≤ i := by rw [← zLo_len hW hm]; exact List.drop_eq_nil_iff.mp hs
      have e : i = τ 4 m := by omega
      refine ⟨I1, BX12_walks_78 _ _ _ _ _ _ hL ⟨(v14 I1 hf).1, fun _ => rfl, fun q => absurd (by rw [(v14 I1 hf).2, e]; exact Int32.le_refl _) q⟩, ?_, hf⟩
      rw [zbm_0 (g := zwl (zer τ m) c [] x y) (fun s => rfl)]; exact hl
    | cons a l ih =>
      intro i x y T I1 hs hi hx hy hl hf
      obtain ⟨e1, e2, e3⟩ := zdrop hs
      rw [zLo_len hW hm] at e3
      have ha : a < τ 4 m := by have := zLo_in hW hm i e3; rw [e1] at this; exact this
      have hE := zer_lt hW hm a ha
      have hMe := hM0.2.2.2.1 m a hm ha
      have k84 : 42 * v + 6 * m + a < 84 := by omega
      have nle : ¬ I1 435 (((7 : Int32) * (I1 420 18)) + nI m).toNatClampNeg ≤ nI i := by rw [(v14 I1 hf).2, zle' (by omega) (by omega)]; omega
      have ey3 : (((42 : Int32) * (I1 420 18)) + ((6 : Int32) * nI m)) + (I1 464 (nI i).toNatClampNeg) = nI (42 * v + 6 * m + a) := by
        rw [zclm (by omega), hf 464 (by decide), hO i e3, e1, hf 420 (by decide), hM0.1.2, show (42 : Int32) = nI 42 from rfl, show (6 : Int32) = nI 6 from rfl, zmul, zmul, zadd, zadd]
      have x436 : ∀ I2 : zI, (∀ a, a ≠ 466 → I2 a = I0 a) → I2 436 (42 * v + 6 * m + a) = nI (zer τ m a).1 ∧ I2 437 (42 * v + 6 * m + a) = nI (zer τ m a).2 := fun I2 h => by
        rw [h 436 (by decide), h 437 (by decide)]; exact hMe
      have dist : ∀ p q : Nat, ∃ n, q = p + n ∨ p = q + n := fun p q => by
        rcases Nat.le_total p q with g | g
        · exact ⟨q - p, Or.inl (by omega)⟩
        · exact ⟨p - q, Or.inr (by omega)⟩
      obtain ⟨nx, hnx⟩ := dist x (zer τ m a).1
      obtain ⟨ny, hny⟩ := dist y (zer τ m a).2
      have fin : ∀ (I3 : zI) (o : zO), zE (d + 3) kX12_walks 78 [some (.ref 420), some (.int (nI m)), some (.int (nI c)), some (.int (nI (288 * R))), some (.int (nI (zer τ m a).1)), some (.int (nI (zer τ m a).2)), some (.int (nI (i + 1))), none, none, none, none] [] Z I3 J o →
          zE (d + 3) kX12_walks 260 [some (.ref 420), some (.int (nI m)), some (.int (nI c)), some (.int (nI (288 * R))), some (.int (nI (zer τ m a).1)), some (.int (nI (zer τ m a).2)), some (.int (nI i)), some (.int (nI (42 * v + 6 * m + a))), some (.int 1), none, none] [] Z I3 J o := fun I3 o K =>
        BX12_walks_260 _ _ _ _ _ _ _ _ hL (BX12_walks_122 _ _ _ _ _ _ _ _ hL ⟨fun _ => by rw [zadd1]; exact K, fun q => absurd (by decide) q⟩)
      have hc' : c = 0 ∨ c = 1 := by omega
      rcases hc' with rfl | rfl
      · obtain ⟨I2, k1, k2, k3⟩ := M_goX (d := d) (J := J) (m := m) (c := 0) (i := i) hL hR hy hE.1 k84 0 nx x T I1 hnx hx (x436 I1 hf).1 hl
        have f2 : ∀ a, a ≠ 466 → I2 a = I0 a := fun a h => (k2 a h).trans (hf a h)
        obtain ⟨I3, l1, l2, l3⟩ := M_goY (d := d) (J := J) (m := m) (c := 0) (i := i) hL hR hE.1 hE.2 k84 1 ny y _ I2 hny hy (x436 I2 f2).2 k1
        have f3 : ∀ a, a ≠ 466 → I3 a = I0 a := fun a h => (l2 a h).trans (f2 a h)
        obtain ⟨I', g1, g2, g3⟩ := ih (i + 1) _ _ _ I3 e2 (by omega) hE.1 hE.2 l1 f3
        refine ⟨I', BX12_walks_78 _ _ _ _ _ _ hL ⟨(v14 I1 hf).1, fun q => absurd q nle, fun _ => ⟨zvin (by omega) (by decide), fun y1 ey1 => ?_⟩⟩, ?_, g3⟩
        · rw [ey1, ey3]
          refine BX12_walks_122 _ _ _ _ _ _ _ _ hL ⟨fun q => absurd q (by decide), fun _ => ⟨fun _ => k3 _ ?_, fun q => absurd rfl q⟩⟩
          refine BX12_walks_260 _ _ _ _ _ _ _ _ hL (BX12_walks_122 _ _ _ _ _ _ _ _ hL ⟨fun q => absurd q (by decide), fun _ => ⟨fun q => absurd q (by decide), fun _ => l3 _ ?_⟩⟩)
          exact fin I3 _ g1
        · rw [zbm_bm, zbm_bm] at g2; rw [zbm_c (fun s => zwl_0)]; exact g2
      · obtain ⟨I2, k1, k2, k3⟩ := M_goY (d := d) (J := J) (m := m) (c := 1) (i := i) hL hR hx hE.2 k84 0 ny y T I1 hny hy (x436 I1 hf).2 hl
        have f2 : ∀ a, a ≠ 466 → I2 a = I0 a := fun a h => (k2 a h).trans (hf a h)
        obtain ⟨I3, l1, l2, l3⟩ := M_goX (d := d) (J := J) (m := m) (c := 1) (i := i) hL hR hE.2 hE.1 k84 1 nx x _ I2 hnx hx (x436 I2 f2).1 k1
        have f3 : ∀ a, a ≠ 466 → I3 a = I0 a := fun a h => (l2 a h).trans (f2 a h)
        obtain ⟨I', g1, g2, g3⟩ := ih (i + 1) _ _ _ I3 e2 (by omega) hE.1 hE.2 l1 f3
        refine ⟨I', BX12_walks_78 _ _ _ _ _ _ hL ⟨(v14 I1 hf).1, fun q => absurd q nle, fun _ => ⟨zvin (by omega) (by decide), fun y1 ey1 => ?_⟩⟩, ?_, g3⟩
        · rw [ey1, ey3]
          refine BX12_walks_122 _ _ _ _ _ _ _ _ hL ⟨fun q => absurd q (by decide), fun _ => ⟨fun q => absurd q (by decide), fun _ => k3 _ ?_⟩⟩
          refine BX12_walks_260 _ _ _ _ _ _ _ _ hL (BX12_walks_122 _ _ _ _ _ _ _ _ hL ⟨fun q => absurd q (by decide), fun _ => ⟨fun _ => l3 _ ?_, fun q => absurd rfl q⟩⟩)
          exact fin I3 _ g1
        · rw [zbm_bm, zbm_bm] at g2; rw [zbm_c (fun s => zwl_1b)]; exact g2
  -- the fill
  have fill : ∀ s, s ≤ 288 → ∀ I0 : zI, (∀ a, a ≠ 466 → I0 a = I a) → (∀ k, ¬ (288 * R ≤ k ∧ k < 288 * R + 288) → I0 466 k = I 466 k) → (∀ j, j < s → I0 466 (288 * R + j) = 0) →
      ∃ I', zE (d + 3) kX12_walks 13 [some (.ref 420), some (.int (nI m)), some (.int (nI c)), some (.int (nI (288 * R))), some (.int (nI s)), none, none, none, none, none, none] [] Z I0 J (none, Z, I', J) ∧ (∀ r s, r < R + 1 → s < 288 → I' 466 (288 * r + s) = nI (zPt τ r s)) ∧ ∀ a, a ≠ 463 → a ≠ 464 → a ≠ 466 → I' a = I a := by
    refine zloop _ _ ?_ ?_
    · intro I0 h1 h2 h3
      have hM0 : zMT I0 v τ Λ := hM.same (by rw [h1 420 (by decide)]) (fun a _ _ => h1 a (by omega))
      obtain ⟨I2, k1, k2, k3⟩ := M_wayOf (d := d) (J := J) hL hW hM0 hm
      have hM2 : zMT I2 v τ Λ := hM0.same (by rw [k3 420 (by decide) (by decide)]) (fun a _ _ => k3 a (by omega) (by omega))
      have ev : ((7 : Int32) * (I2 420 18)) + nI m = nI (7 * v + m) := by rw [hM2.1.2, show (7 : Int32) = nI 7 from rfl, zmul, zadd]
      have v14 : vp_in (((7 : Int32) * (I2 420 18)) + nI m) 14 := by rw [ev]; exact zvin (by omega) (by decide)
      have rx : I2 432 (((7 : Int32) * (I2 420 18)) + nI m).toNatClampNeg = nI (τ 1 m) := by rw [ev, zclm (by omega)]; exact (hM2.2.2.1 m hm).1
      have ry : I2 433 (((7 : Int32) * (I2 420 18)) + nI m).toNatClampNeg = nI (τ 2 m) := by rw [ev, zclm (by omega)]; exact (hM2.2.2.1 m hm).2.1
      have hl2 : zlR I2 R (fun r s => if r < R then zPt τ r s else 0) := fun r s hr hs => by
        rw [k3 466 (by decide) (by decide)]
        by_cases e : r < R
        · dsimp only; rw [if_pos e, h2 _ (by omega)]; exact hl r s e hs
        · obtain rfl : r = R := by omega
          dsimp only; rw [if_neg e]; exact h3 s hs
      obtain ⟨I', g1, g2, g3⟩ := body I2 hM2 k2 (zLo τ m) 0 (τ 1 m) (τ 2 m) _ I2 rfl (Nat.zero_le _) (by omega) (by omega) hl2 (fun _ _ => rfl)
      refine ⟨I', BX12_walks_13 _ _ _ _ hL ⟨fun _ => ⟨_, I2, k1, v14, fun y3 e3 => ⟨v14, fun y4 e4 => ?_⟩⟩, fun q => absurd (by decide) q⟩, fun r s hr hs => ?_, fun a a1 a2 a3 => by rw [g3 a a3, k3 a a1 a2, h1 a a3]⟩
      · rw [rx] at e3
        rw [ry] at e4
        rw [e3, e4]; exact g1
      · rw [g2 r s (by omega) hs]
        unfold zbm
        by_cases e : r = R
        · subst e
          rw [if_pos rfl]; dsimp only; rw [if_neg (by omega), Nat.zero_add]
          unfold zPt
          rw [show r / 2 = m by omega, show r % 2 = c by omega]
        · rw [if_neg e]; dsimp only; rw [if_pos (by omega)]
    · intro s hs ih I0 h1 h2 h3
      obtain ⟨I', k1, k2, k3⟩ := ih (zu I0 466 (288 * R + s) 0) (fun a ha => by rw [zu_ne ha]; exact h1 a ha) (fun k hk => by rw [zu_k (by omega)]; exact h2 k hk) (fun j hj => by
        by_cases e : j = s
        · subst e; rw [zu_eq]
        · rw [zu_k (by omega)]; exact h3 j (by omega))
      refine ⟨I', BX12_walks_13 _ _ _ _ hL ⟨fun q => ?_, fun _ => ⟨by rw [zadd]; exact zvin (by omega) (by decide), fun I5 e5 => ?_⟩⟩, k2, k3⟩
      · exfalso; rw [show (288 : Int32) = nI 288 from rfl, zle' (by omega) (by omega)] at q; omega
      · rw [zadd, zclm (by omega)] at e5
        rw [e5, zadd1]; exact k1
  obtain ⟨I', k1, k2, k3⟩ := fill 0 (by decide) I (fun _ _ => rfl) (fun _ _ => rfl) (fun j h => absurd h (by omega))
  refine ⟨I', BX12_walks_0 _ _ hL (fun y1 ey1 => ?_), k2, k3⟩
  have : y1 = nI (288 * R) := by rw [ey1, show (2 : Int32) = nI 2 from rfl, show (288 : Int32) = nI 288 from rfl, zmul, zadd, zmul, hRe]
  rw [this]; exact k1
end

/-! WAYS prepared; the order, the corners -/
section
variable {d : Nat} {Z : zZ} {J : zJ} {I I' : zI} {t u v b : Nat} {τ : Nat → Nat → Nat} {Λ : Nat → Option zLaw} {ρ : Nat → Nat}
theorem zp2 : ∀ k, k ≤ 6 → 2 ^ k ≤ 64 := by decide
theorem zp2cd : ∀ k, k ≤ 6 → zcd (2 ^ k - 1) 7 = k := by decide +kernel
theorem zbit_k {S i k : Nat} (hS : S < 2 ^ k) (h : S.testBit i = true) : i < k := by
  refine Nat.lt_of_not_le fun g => ?_
  rw [Nat.testBit_lt_two_pow (Nat.lt_of_lt_of_le hS (Nat.pow_le_pow_right (by decide) g))] at h
  exact absurd h (by decide)
theorem zrm_l {S i : Nat} (hS : S < 128) (hi : i < 7) (h : S.testBit i = true) : zrm S i < S := zrm_ls S hS i hi h
theorem C_prepare (hL : zLY Z t u) {t1 : Nat} (ht : zTx Z t1) (ht5 : t1 < 300) (hW : zTW τ Λ) (hT : zCT I t1 τ Λ) {m : Nat} (hm : m < τ 0 0) :
    ∃ I', zE (d + 5) kX10_prepare 0 [some (.ref 407), some (.ref t1), some (.int (nI m)), none, none, none, none, none, none] [] Z I J (none, Z, I', J) ∧ (∀ S, S < 2 ^ τ 4 m → zrst I' (zer τ m) (τ 4 m) S) ∧ ∀ a, a ≠ 409 → I' a = I a := by
  have h4 := (hW.2.1 m hm).2.2.2.1
  have h7 := hW.1.1
  have w1 := hW.1
  have h64 := zp2 _ h4
  have a4 : ∀ I0 : zI, (∀ a, a ≠ 409 → I0 a = I a) → zat I0 (t1 + 11) 7 (nI m) = nI (τ 4 m) := fun I0 h => by rw [zatI (by omega) (by decide), h _ (by omega), (hT.2.1 m hm).2.2.2.1]
  have sh : (1 : Int32) <<< (nI (τ 4 m) &&& 31) = nI (2 ^ τ 4 m) := zb_one _ (by omega)
  have sets : ∀ S, S ≤ 2 ^ τ 4 m → 1 ≤ S → ∀ I0 : zI, (∀ a, a ≠ 409 → I0 a = I a) → (∀ S', S' < S → zrst I0 (zer τ m) (τ 4 m) S') → ∃ I', zE (d + 5) kX10_prepare 12 [some (.ref 407), some (.ref t1), some (.int (nI m)), some (.int (nI (τ 4 m))), some (.int (nI S)), none, none, none, none] [] Z I0 J (none, Z, I', J) ∧ (∀ S, S < 2 ^ τ 4 m → zrst I' (zer τ m) (τ 4 m) S) ∧ ∀ a, a ≠ 409 → I' a = I a := by
    refine zloop _ _ ?_ ?_
    · intro _ I0 h1 h2
      refine ⟨I0, BX10_prepare_12 _ _ _ hL ht ⟨fun _ => rfl, fun _ => ⟨fun _ => rfl, fun q => absurd (by rw [sh]; exact Int32.le_refl _) q⟩⟩, h2, h1⟩
    · intro S hS ihS hS1 I0 h1 h2
      have firsts : ∀ i, i ≤ τ 4 m → ∀ I1 : zI, (∀ a, a ≠ 409 → I1 a = I a) → (∀ S', S' < S → zrst I1 (zer τ m) (τ 4 m) S') → (∀ j, j < i → S.testBit j = true → I1 409 (6 * S + j) = nI (zbp (zer τ m) 6 (zrm S j) (zer τ m j).1 (zer τ m j).2).1) → ∃ I', zE (d + 5) kX10_prepare 30 [some (.ref 407), some (.ref t1), some (.int (nI m)), some (.int (nI (τ 4 m))), some (.int (nI S)), some (.int (nI i)), none, none, none] [] Z I1 J (none, Z, I', J) ∧ (∀ S, S < 2 ^ τ 4 m → zrst I' (zer τ m) (τ 4 m) S) ∧ ∀ a, a ≠ 409 → I' a = I a := by
        refine zloop _ _ ?_ ?_
        · intro I1 g1 g2 g3
          obtain ⟨I', k1, k2, k3⟩ := ihS (by omega) I1 g1 (fun S' hS' => by
            by_cases e : S' = S
            · subst e; exact fun i hi hb => g3 i hi hb
            · exact g2 S' (by omega))
          exact ⟨I', BX10_prepare_30 _ _ _ _ hL ht ⟨fun _ => by rw [zadd1]; exact k1, fun q => absurd (Int32.le_refl _) q⟩, k2, k3⟩
        · intro i hi ih I1 g1 g2 g3
          have nle : ¬ nI (τ 4 m) ≤ nI i := by rw [zle' (by omega) (by omega)]; omega
          have hrm := zrm_I (S := S) (m := i) (by omega) (by omega)
          by_cases g : S.testBit i = true
          · have hlt := zrm_l (by omega) (by omega) g
            have hE := zer_lt hW hm i hi
            have hT1 : zCT I1 t1 τ Λ := hT.same (fun a _ _ _ _ => g1 a (by omega))
            have e6 : nI m * 6 + nI i = nI (6 * m + i) := by rw [show (6 : Int32) = nI 6 from rfl, zmul, zadd, Nat.mul_comm]
            have e6S : nI S * 6 + nI i = nI (6 * S + i) := by rw [show (6 : Int32) = nI 6 from rfl, zmul, zadd, Nat.mul_comm]
            have ch := C_cheapest (d := d) (J := J) (S := zrm S i) hL ht hW hT1 hm hE.1 hE.2 (by omega) (fun j hj => by rw [Nat.testBit_and] at hj; simp only [Bool.and_eq_true] at hj; exact zbit_k hS hj.1) (g2 _ hlt)
            obtain ⟨I', k1, k2, k3⟩ := ih (zu I1 409 (6 * S + i) (nI (zbp (zer τ m) 6 (zrm S i) (zer τ m i).1 (zer τ m i).2).1)) (fun a ha => by rw [zu_ne ha]; exact g1 a ha) (fun S' hS' j hj hb => by rw [zu_k (by omega)]; exact g2 S' hS' j hj hb) (fun j hj hb => by
              by_cases e : j = i
              · subst e; rw [zu_eq]
              · rw [zu_k (by omega)]; exact g3 j (by omega) hb)
            refine ⟨I', BX10_prepare_30 _ _ _ _ hL ht ⟨fun q => absurd q nle, fun _ y1 ey1 => ⟨fun q => ?_, fun _ y2 ey2 y3 ey3 => ⟨nI (zbp (zer τ m) 6 (zrm S i) (zer τ m i).1 (zer τ m i).2).1, ?_, fun I5 e5 => ?_⟩⟩⟩, k2, k3⟩
            · exfalso; rw [ey1, hrm, zeq (by omega) (by omega)] at q; omega
            · rw [ey1, hrm, ey2, ey3, e6, zatI (by omega) (by decide), zatI (by omega) (by decide), (hT1.2.2.1 m i hm hi).1, (hT1.2.2.1 m i hm hi).2]
              exact ch
            · rw [e6S, zptI (by omega) (by decide)] at e5
              rw [e5, zadd1]; exact k1
          · obtain ⟨I', k1, k2, k3⟩ := ih I1 g1 g2 (fun j hj hb => by
              by_cases e : j = i
              · subst e; exact absurd hb g
              · exact g3 j (by omega) hb)
            refine ⟨I', BX10_prepare_30 _ _ _ _ hL ht ⟨fun q => absurd q nle, fun _ y1 ey1 => ⟨fun _ => by rw [zadd1]; exact k1, fun q => ?_⟩⟩, k2, k3⟩
            exfalso; apply q; rw [ey1, hrm, zrm_same (by omega) (by omega) (by simpa using g)]
      obtain ⟨I', k1, k2, k3⟩ := firsts 0 (Nat.zero_le _) I0 h1 h2 (fun j hj => absurd hj (by omega))
      refine ⟨I', BX10_prepare_12 _ _ _ hL ht ⟨fun q => ?_, fun _ => ⟨fun q => ?_, fun _ => k1⟩⟩, k2, k3⟩
      · exfalso; rw [show (64 : Int32) = nI 64 from rfl, zle' (by omega) (by omega)] at q; omega
      · exfalso; rw [sh, zle' (by omega) (by omega)] at q; omega
  obtain ⟨I', k1, k2, k3⟩ := sets 1 (Nat.one_le_two_pow) (Nat.le_refl _) I (fun _ _ => rfl) (fun S' hS' i _ hb => by
    obtain rfl : S' = 0 := by omega
    rw [Nat.zero_testBit] at hb; exact absurd hb (by decide))
  exact ⟨I', BX10_prepare_0 _ hL ht (by rw [a4 I (fun _ _ => rfl)]; exact k1), k2, k3⟩
theorem zall_I {k : Nat} (hk : k ≤ 6) : ((1 : Int32) <<< (nI k &&& 31)) - 1 = nI (2 ^ k - 1) := by
  have : ∀ k, k ≤ 6 → ((1 : Int32) <<< (nI k &&& 31)) - 1 = nI (2 ^ k - 1) := by decide +kernel
  exact this k hk
theorem C_fewest (hL : zLY Z t u) {t1 : Nat} (ht : zTx Z t1) (hW : zTW τ Λ) (hT : zCT I t1 τ Λ) {m x y : Nat} (hm : m < τ 0 0) (hx : x < 12) (hy : y < 12) (hR : ∀ S, S < 2 ^ τ 4 m → zrst I (zer τ m) (τ 4 m) S) :
    zE (d + 5) kX10_fewest 0 [some (.ref 407), some (.ref t1), some (.int (nI m)), some (.int (nI x)), some (.int (nI y))] [] Z I J (some (.int (nI (zbp (zer τ m) (τ 4 m) (2 ^ τ 4 m - 1) x y).1)), Z, I, J) := by
  have h4 := (hW.2.1 m hm).2.2.2.1
  have h7 := hW.1.1
  have h64 := zp2 _ h4
  have h1 : 1 ≤ 2 ^ τ 4 m := Nat.one_le_two_pow
  have a4 : zat I (t1 + 11) 7 (nI m) = nI (τ 4 m) := by rw [zatI (by omega) (by decide), (hT.2.1 m hm).2.2.2.1]
  have ch := C_cheapest (d := d) (J := J) (S := 2 ^ τ 4 m - 1) hL ht hW hT hm hx hy (by omega) (fun j hj => zbit_k (by omega) hj) (hR _ (by omega))
  have hcd := zp2cd _ h4
  rw [zbp_fuel 6 (τ 4 m) _ x y (by omega) (by omega) (by omega)] at ch
  refine BX10_fewest_0 _ _ _ hL ht ⟨_, ?_, rfl⟩
  rw [a4, zall_I h4]; exact ch
theorem C_findOrder2 (hL : zLY Z t u) {t1 : Nat} (ht : zTx Z t1) (ht5 : t1 < 300) (hW : zTW τ Λ) (hT : zCT I t1 τ Λ) {m : Nat} (hm : m < τ 0 0) (hR : ∀ S, S < 2 ^ τ 4 m → zrst I (zer τ m) (τ 4 m) S) :
    ∃ I', zE (d + 4) kX10_findOrder 0 [some (.ref 407), some (.ref t1), some (.int (nI m)), none, none, none, none, none] [] Z I J (none, Z, I', J) ∧ (∀ i, i < τ 4 m → I' 408 i = nI (zga2 (zbp (zer τ m) (τ 4 m) (2 ^ τ 4 m - 1) (τ 1 m) (τ 2 m)).2 i)) ∧ ∀ a, a ≠ 408 → I' a = I a := by
  have h4 := (hW.2.1 m hm).2.2.2.1
  have h7 := hW.1.1
  have w1 := hW.1
  have hdr := hW.2.1 m hm
  have h64 := zp2 _ h4
  have h1p : 1 ≤ 2 ^ τ 4 m := Nat.one_le_two_pow
  have hcd := zp2cd _ h4
  obtain ⟨L, hLl⟩ : ∃ L, L = (zbp (zer τ m) (τ 4 m) (2 ^ τ 4 m - 1) (τ 1 m) (τ 2 m)).2 := ⟨_, rfl⟩
  have hlen : L.length = τ 4 m := by rw [hLl, zbp_len _ _ _ _ (by omega) (by omega), hcd]
  have loop : ∀ i, i ≤ τ 4 m → ∀ (S x y : Nat) (I0 : zI), S < 2 ^ τ 4 m → x < 12 → y < 12 → (∀ a, a ≠ 408 → I0 a = I a) → (∀ j, j < i → I0 408 j = nI (zga2 L j)) → L.drop i = (zbp (zer τ m) 6 S x y).2 → ∃ I', zE (d + 4) kX10_findOrder 36 [some (.ref 407), some (.ref t1), some (.int (nI m)), some (.int (nI x)), some (.int (nI y)), some (.int (nI S)), some (.int (nI i)), none] [] Z I0 J (none, Z, I', J) ∧ (∀ i, i < τ 4 m → I' 408 i = nI (zga2 L i)) ∧ ∀ a, a ≠ 408 → I' a = I a := by
    refine zloop _ _ ?_ ?_
    · intro S x y I0 hS hx hy g1 g2 g3
      refine ⟨I0, BX10_findOrder_36 _ _ _ _ _ hL ht ⟨fun _ => rfl, fun _ => ⟨fun _ => rfl, fun q => ?_⟩⟩, g2, g1⟩
      exfalso
      have c6 : ∀ S, S < 64 → zcd S 7 ≤ 6 := by decide +kernel
      have hl := zbp_len (E := zer τ m) 6 S x y (by omega) (c6 S (by omega))
      rw [← g3, List.length_drop, hlen, Nat.sub_self] at hl
      rw [zn0 (by omega)] at q
      exact q (zcd_0 (by omega) hl.symm)
    · intro i hi ih S x y I0 hS hx hy g1 g2 g3
      have hT0 : zCT I0 t1 τ Λ := hT.same (fun a _ _ _ _ => g1 a (by omega))
      have hR0 : zrst I0 (zer τ m) (τ 4 m) S := fun j hj hb => by rw [g1 409 (by decide)]; exact hR S hS j hj hb
      have hn := C_nextOf (d := d) (J := J) hL ht hW hT0 hm hx hy (by omega) (fun j hj => zbit_k hS hj) hR0
      rw [zbp_7 (by omega), zbp_s] at g3
      cases hz : zbf (zch (zer τ m) 6 S x y) 6 with
      | none =>
        exfalso
        rw [hz] at g3
        have : (L.drop i).length = 0 := by rw [g3]; rfl
        rw [List.length_drop] at this; omega
      | some p =>
        rw [hz] at g3 hn
        obtain ⟨a, ha, e⟩ := zbf_some 6 hz
        unfold zch at e
        by_cases g : S.testBit a = true
        · rw [if_pos g] at e
          obtain rfl : _ = p := by simpa using e
          have hak := zbit_k hS g
          have hE := zer_lt hW hm a hak
          have hlt := zrm_l (by omega) (by omega) g
          obtain ⟨d1, d2, d3⟩ := zdrop (l := L) (i := i) (a := a) g3
          have hrm := zrm_I (S := S) (m := a) (by omega) (by omega)
          have e6 : nI m * 6 + nI a = nI (6 * m + a) := by rw [show (6 : Int32) = nI 6 from rfl, zmul, zadd, Nat.mul_comm]
          obtain ⟨I', k1, k2, k3⟩ := ih (zrm S a) (zer τ m a).1 (zer τ m a).2 (zu I0 408 i (nI a)) (by omega) hE.1 hE.2 (fun c hc => by rw [zu_ne hc]; exact g1 c hc) (fun j hj => by
            by_cases e : j = i
            · subst e; rw [zu_eq, d1]
            · rw [zu_k e]; exact g2 j (by omega)) d2
          refine ⟨I', BX10_findOrder_36 _ _ _ _ _ hL ht ⟨fun q => ?_, fun _ => ⟨fun q => ?_, fun _ => ⟨_, hn, fun I2 e2 y3 ey3 y4 ey4 y5 ey5 => ?_⟩⟩⟩, k2, k3⟩
          · exfalso; rw [show (6 : Int32) = nI 6 from rfl, zle' (by omega) (by omega)] at q; omega
          · exfalso; rw [zn0 (by omega)] at q; subst q; rw [Nat.zero_testBit] at g; exact absurd g (by decide)
          · have hh : znh (some (zds x y (zer τ m a).1 (zer τ m a).2 + (zbp (zer τ m) 6 (zrm S a) (zer τ m a).1 (zer τ m a).2).1, a :: (zbp (zer τ m) 6 (zrm S a) (zer τ m a).1 (zer τ m a).2).2)) = nI a := rfl
            rw [hh] at e2 ey3 ey4 ey5
            rw [zptI (by omega) (by decide)] at e2
            subst e2
            rw [hrm] at ey3
            rw [e6, zatI (by omega) (by decide), zu_ne (by omega), (hT0.2.2.1 m a hm hak).1] at ey4
            rw [e6, zatI (by omega) (by decide), zu_ne (by omega), (hT0.2.2.1 m a hm hak).2] at ey5
            rw [ey3, ey4, ey5, zadd1]
            exact k1
        · rw [if_neg g] at e; exact absurd e (by simp)
  obtain ⟨I', k1, k2, k3⟩ := loop 0 (Nat.zero_le _) (2 ^ τ 4 m - 1) (τ 1 m) (τ 2 m) I (by omega) (by omega) (by omega) (fun _ _ => rfl) (fun j hj => absurd hj (by omega)) (by rw [hLl, zbp_fuel (τ 4 m) 6 _ _ _ (by omega) (by omega) (by omega)]; rfl)
  have ht1 := hT.2.1 m hm
  refine ⟨I', BX10_findOrder_0 _ hL ht (fun y1 ey1 => ?_), fun i hi => by rw [← hLl]; exact k2 i hi, k3⟩
  rw [zatI (by omega) (by decide), ht1.2.2.2.1, zall_I h4] at ey1
  rw [ey1, zatI (by omega) (by decide), zatI (by omega) (by decide), ht1.1, ht1.2.1]
  exact k1
end

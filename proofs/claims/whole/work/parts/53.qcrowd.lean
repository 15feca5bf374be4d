/-! CROWD, both sides -/
section
variable {d : Nat} {Z : zZ} {J : zJ} {I I' : zI} {t u v b : Nat} {τ : Nat → Nat → Nat} {Λ : Nat → Option zLaw} {ρ : Nat → Nat}
/-- of how many a thread comes to a corner -/
def zcw (τ : Nat → Nat → Nat) (ρ : Nat → Nat) (c : Nat) : Nat := zsum (fun m => (zvs τ ρ c m).toNat) 0 (τ 0 0)
theorem zcd_zbs {P : Nat → Bool} {n : Nat} (hn : n ≤ 7) : zcd (zbs P n) 7 = zsum (fun m => (P m).toNat) 0 n := by
  unfold zcd
  rw [show 7 = n + (7 - n) by omega, zsum_split, zsum_0 (i := 0 + n) (fun j hj _ => ?_), Nat.add_zero, zsum_congr (g := fun m => (P m).toNat) (fun j _ hj => ?_)]
  · rw [zbs_bit]; simp [show j < n by omega]
  · rw [zbs_bit]; simp [show ¬ j < n by omega]
theorem zcw_le (h7 : τ 0 0 ≤ 7) (c : Nat) : zcw τ ρ c ≤ 7 := by
  have := zsum_le (f := fun m => (zvs τ ρ c m).toNat) (b := 1) (i := 0) (k := τ 0 0) (fun j _ _ => by cases zvs τ ρ c j <;> decide)
  unfold zcw; omega
theorem zor_s {P : Nat → Bool} {n : Nat} : zor (zbs P n) n (P n) = zbs P (n + 1) := by
  unfold zor; simp only [zbs]
  split
  · rfl
  · exact (Nat.or_zero _).symm
theorem zam_s {f : Nat → Nat} {k : Nat} : zam f (k + 1) = if f (zam f k) < f (k + 1) then k + 1 else zam f k := rfl
theorem C_mostCrowded {d1 t1 : Nat} (hL : zLY Z t u) (hd : zDy Z d1) (ht : zTx Z t1) (hS : zSx I) (hd5 : d1 < 300) (ht5 : t1 < 300) (hW : zTW τ Λ) (hT : zCT I t1 τ Λ) (hC : zCD I d1 τ ρ) (hD : zDW τ ρ) :
    ∃ I', zE (d + 2) kX7_mostCrowded 0 [some (.ref 401), some (.ref t1), some (.ref d1), none, none] [] Z I J (some (.int (nI (zam (zcw τ ρ) 143))), Z, I', J) ∧ (∀ c, c < 144 → zat I' 405 144 (nI c) = nI (zbs (zvs τ ρ c) (τ 0 0))) ∧ ∀ a, a ≠ 405 → I' a = I a := by
  have hH := hD.h hW
  have h7 := hH.1
  have fin : ∀ I1 : zI, (∀ a, a ≠ 405 → I1 a = I a) → (∀ c, c < 144 → I1 405 c = nI (zbs (zvs τ ρ c) (τ 0 0))) → zE (d + 2) kX7_mostCrowded 47 [some (.ref 401), none, none, some (.int 0), some (.int 1)] [] Z I1 J (some (.int (nI (zam (zcw τ ρ) 143))), Z, I1, J) := by
    intro I1 h1 h2
    have bc : ∀ c, c < 144 → zE (d + 1) kJ6_bitCount_0f7a4 0 [some (.int (zat I1 405 144 (nI c)))] [] Z I1 J (some (.int (nI (zcw τ ρ c))), Z, I1, J) := by
      intro c hc
      rw [zatI hc (by decide), h2 c hc]
      have := S_bitCount (d := d + 1) (Z := Z) (I := I1) (J := J) (zbs_lt (P := zvs τ ρ c) h7)
      rw [zcd_zbs h7] at this
      exact this
    have loop : ∀ k, k ≤ 144 → 1 ≤ k → zE (d + 2) kX7_mostCrowded 47 [some (.ref 401), none, none, some (.int (nI (zam (zcw τ ρ) (k - 1)))), some (.int (nI k))] [] Z I1 J (some (.int (nI (zam (zcw τ ρ) 143))), Z, I1, J) := by
      refine zloop _ _ ?_ ?_
      · intro _
        exact BX7_mostCrowded_47 _ _ hL ⟨fun _ => rfl, fun q => absurd (by decide) q⟩
      · intro k hk ih h1
        obtain ⟨j, rfl⟩ : ∃ j, k = j + 1 := ⟨k - 1, by omega⟩
        have ih := ih (by omega)
        have hj := zam_le (zcw τ ρ) j
        have f1 := zcw_le (ρ := ρ) h7 (zam (zcw τ ρ) j)
        have f2 := zcw_le (ρ := ρ) h7 (j + 1)
        rw [Nat.add_sub_cancel] at ih ⊢
        refine BX7_mostCrowded_47 _ _ hL ⟨fun q => ?_, fun _ => ⟨_, bc (j + 1) (by omega), _, bc (zam (zcw τ ρ) j) (by omega), fun q => ?_, fun q => ?_⟩⟩
        · exfalso; rw [show (144 : Int32) = nI 144 from rfl, zle' (by omega) (by omega)] at q; omega
        all_goals rw [zle' (by omega) (by omega)] at q
        all_goals rw [zam_s] at ih
        · rw [if_neg (by omega)] at ih; rw [zadd1]; exact ih
        · rw [if_pos (by omega)] at ih; rw [zadd1]; exact ih
    exact loop 1 (by decide) (by decide)
  have loop : ∀ m, m ≤ τ 0 0 → ∀ I0 : zI, (∀ a, a ≠ 405 → I0 a = I a) → (∀ c, c < 144 → I0 405 c = nI (zbs (zvs τ ρ c) m)) → ∃ I', zE (d + 2) kX7_mostCrowded 10 [some (.ref 401), some (.ref t1), some (.ref d1), some (.int (nI m)), none] [] Z I0 J (some (.int (nI (zam (zcw τ ρ) 143))), Z, I', J) ∧ (∀ c, c < 144 → I' 405 c = nI (zbs (zvs τ ρ c) (τ 0 0))) ∧ ∀ a, a ≠ 405 → I' a = I a := by
    refine zloop _ _ ?_ ?_
    · intro I0 h1 h2
      have hn : I0 t1 2 = nI (τ 0 0) := by rw [h1 _ (by omega), hT.1.1]
      exact ⟨I0, BX7_mostCrowded_10 _ hL ht hd ⟨fun _ => fin I0 h1 h2, fun q => absurd (by rw [hn]; exact Int32.le_refl _) q⟩, h2, h1⟩
    · intro m hm ih I0 h1 h2
      have hn : I0 t1 2 = nI (τ 0 0) := by rw [h1 _ (by omega), hT.1.1]
      have a3 : zat I0 (d1 + 3) 7 (nI m) = nI (ρ (14 + m)) := by rw [zatI (by omega) (by decide), h1 _ (by omega), (hC.2.1 m hm).2.2.1]
      have h60 := hH.2 m hm
      have hmm : ¬ I0 t1 2 ≤ nI m := by rw [hn, zle' (by omega) (by omega)]; omega
      by_cases h0 : ρ (14 + m) = 0
      · obtain ⟨I', g1, g2, g3⟩ := ih I0 h1 (fun c hc => by rw [zbs_f (by unfold zvs; rw [h0]; rfl)]; exact h2 c hc)
        refine ⟨I', BX7_mostCrowded_10 _ hL ht hd ⟨fun q => absurd q hmm, fun _ => ⟨fun _ => by rw [zadd1]; exact g1, fun q => absurd (by rw [a3, h0]; decide) q⟩⟩, g2, g3⟩
      · obtain ⟨I1, k1, k2, k3⟩ := C_visit (d := d) (J := J) hL hd ht (hS.same (h1 _ (by decide)) (h1 _ (by decide))) hd5 hW (hT.same (fun a _ _ _ _ => h1 a (by omega))) (hC.same (fun a _ _ => h1 a (by omega))) hD (B := fun c => zbs (zvs τ ρ c) m) (fun c hc => ⟨zbs_lt (by omega), h2 c hc⟩) hm
        obtain ⟨I', g1, g2, g3⟩ := ih I1 (fun a ha => (k3 a ha).trans (h1 a ha)) (fun c hc => by
          rw [k2 c hc, ← zor_s]
          congr 2
          unfold zvs; simp [show 0 < ρ (14 + m) by omega])
        refine ⟨I', BX7_mostCrowded_10 _ hL ht hd ⟨fun q => absurd q hmm, fun _ => ⟨fun q => ?_, fun _ => ⟨I1, k1, by rw [zadd1]; exact g1⟩⟩⟩, g2, g3⟩
        exfalso; rw [a3, show (0 : Int32) = nI 0 from rfl, zle' (by omega) (by decide)] at q; omega
  obtain ⟨I', g1, g2, g3⟩ := loop 0 (Nat.zero_le _) (zrw I 405 0 (fun _ => 0) 144) (fun a ha => zrw_ne ha) (fun c hc => by rw [zrw_at0 hc]; rfl)
  exact ⟨I', BX7_mostCrowded_0 hL ht hd ⟨_, S_fill (by decide) (ly_a405 hL), g1⟩, fun c hc => by rw [zatI hc (by decide)]; exact g2 c hc, g3⟩
theorem C_countAll {d1 t1 : Nat} (hd : zDy Z d1) (ht : zTx Z t1) (h7 : τ 0 0 ≤ 7) (hT : I t1 2 = nI (τ 0 0)) (hC : zCD I d1 τ ρ) : zE (d + 1) kX0_countLying 0 [some (.ref d1), some (.ref t1), some (.int (-1)), none, none] [] Z I J (some (.int (nI (zsum (fun m => ρ (14 + m)) 0 (τ 0 0)))), Z, I, J) := by
  have loop : ∀ m, m ≤ τ 0 0 → ∀ acc, zE (d + 1) kX0_countLying 5 [some (.ref d1), some (.ref t1), some (.int (-1)), some (.int (nI acc)), some (.int (nI m))] [] Z I J (some (.int (nI (acc + zsum (fun m => ρ (14 + m)) m (τ 0 0 - m)))), Z, I, J) := by
    refine zloop _ _ ?_ ?_
    · intro acc
      exact BX0_countLying_5 _ _ _ hd ht ⟨fun _ => by rw [zsum_end]; rfl, fun q => absurd (by rw [hT]; exact Int32.le_refl _) q⟩
    · intro m hm ih acc
      have hb : ∀ m, m < 7 → ¬ ((-1 : Int32) >>> (nI m &&& 31)) &&& 1 = 0 := by decide
      rw [zsum_lt hm, ← Nat.add_assoc]
      refine BX0_countLying_5 _ _ _ hd ht ⟨fun q => ?_, fun _ => ⟨fun q => absurd q (hb m (by omega)), fun q y ey => ?_⟩⟩
      · exfalso; rw [hT, zle' (by omega) (by omega)] at q; omega
      · rw [zatI (by omega) (by decide), (hC.2.1 m hm).2.2.1, zadd] at ey
        rw [ey, zadd1]; exact ih _
  have := loop 0 (Nat.zero_le _) 0
  rw [Nat.zero_add, Nat.sub_zero] at this
  exact BX0_countLying_0 _ hd ht this
theorem zvt_up {m c : Nat} {i : Nat} : ∀ k, zvt τ ρ m c i = true → zvt τ ρ m c (i + k) = true := by
  intro k
  induction k with
  | zero => exact id
  | succ k ih => intro h; show (zvt τ ρ m c (i + k) || decide (zcr τ ρ m (i + k + 1) = c)) = true; rw [ih h, Bool.true_or]
theorem M_comesTo (h : zR0 Z I t u v τ Λ b ρ) (hR : zRM I 458 0 ρ) {m x y : Nat} (hm : m < τ 0 0) (hx : x < 12) (hy : y < 12) : zE (d + 1) kX12_comesTo 0 [some (.ref 420), some (.int (nI m)), some (.int (nI x)), some (.int (nI y)), none, none, none] [] Z I J (some (.int (nI (zvs τ ρ (12 * y + x) m).toNat)), Z, I, J) := by
  have h7 := h.n7
  have hW := h.W
  have hD := h.D
  have h60 := h.H.2 m hm
  have hv2 := h.M.1.1
  have hwt := hW.1
  have e14 : (14 : Int32) + nI m = nI (14 + m) := zk_14
  have vL : vp_in ((14 : Int32) + nI m) 1290 := by rw [e14]; exact zvin (by omega) (by decide)
  have rL : I 458 ((14 : Int32) + nI m).toNatClampNeg = nI (ρ (14 + m)) := by rw [e14, zclm (by omega)]; have := hR (14 + m) (by omega); rwa [Nat.zero_add] at this
  have ev : ((7 : Int32) * (I 420 18)) + nI m = nI (7 * v + m) := by rw [h.M.1.2, show (7 : Int32) = nI 7 from rfl, zmul, zadd]
  have v14 : vp_in (((7 : Int32) * (I 420 18)) + nI m) 14 := by rw [ev]; exact zvin (by omega) (by decide)
  have hdo := h.M.2.2.1 m hm
  have rx : I 432 (((7 : Int32) * (I 420 18)) + nI m).toNatClampNeg = nI (τ 1 m) := by rw [ev, zclm (by omega)]; exact hdo.1
  have ry : I 433 (((7 : Int32) * (I 420 18)) + nI m).toNatClampNeg = nI (τ 2 m) := by rw [ev, zclm (by omega)]; exact hdo.2.1
  have hdb := hW.2.1 m hm
  have cor : ∀ i, i ≤ ρ (14 + m) → (zcr τ ρ m i = 12 * y + x ↔ (zpX τ ρ m i).toNat = x ∧ (zpY τ ρ m i).toNat = y) := by
    intro i hi
    have := zcr_in hW hD hm hi
    unfold zcr
    omega
  have loop : ∀ i, i ≤ ρ (14 + m) → zvt τ ρ m (12 * y + x) i = false → zE (d + 1) kX12_comesTo 61 [some (.ref 420), some (.int (nI m)), some (.int (nI x)), some (.int (nI y)), some (.int (nI (zpX τ ρ m i).toNat)), some (.int (nI (zpY τ ρ m i).toNat)), some (.int (nI i))] [] Z I J (some (.int (nI (zvt τ ρ m (12 * y + x) (ρ (14 + m))).toNat)), Z, I, J) := by
    refine zloop _ _ ?_ ?_
    · intro e
      refine BX12_comesTo_61 _ _ _ _ _ _ h.L ⟨vL, fun _ => by rw [e]; rfl, fun q => absurd (by rw [rL]; exact Int32.le_refl _) q⟩
    · intro i hi ih e
      have hq := zlive_lt h.H (zlive_mk (ρ := ρ) h.H hm hi)
      have e30 : (((30 : Int32) + ((60 : Int32) * nI m)) + nI i) = nI (30 + (60 * m + i)) := by rw [show (60 : Int32) = nI 60 from rfl, zmul, show (30 : Int32) = nI 30 from rfl, zadd, zadd]; congr 1; omega
      have v30 : vp_in (((30 : Int32) + ((60 : Int32) * nI m)) + nI i) 1290 := by rw [e30]; exact zvin (by omega) (by decide)
      have r30 : I 458 (((30 : Int32) + ((60 : Int32) * nI m)) + nI i).toNatClampNeg = nI (ρ (30 + (60 * m + i))) := by rw [e30, zclm (by omega)]; have := hR (30 + (60 * m + i)) (by omega); rwa [Nat.zero_add] at this
      have hw := zlive_w hD (zlive_mk (ρ := ρ) h.H hm hi)
      have h1 := zcr_in hW hD hm (Nat.le_of_lt hi)
      have h2 := zcr_in hW hD hm (i := i + 1) hi
      have ex : zpX τ ρ m (i + 1) = zpX τ ρ m i + zdi (ρ (30 + (60 * m + i))) := rfl
      have ey : zpY τ ρ m (i + 1) = zpY τ ρ m i + zdj (ρ (30 + (60 * m + i))) := rfl
      have nx : nI (zpX τ ρ m i).toNat + zdx (nI (ρ (30 + (60 * m + i)))) = nI (zpX τ ρ m (i + 1)).toNat := by
        rw [zdxI (by omega), zaddI (zdi_b _) (by omega)]; congr 1; omega
      have ny : nI (zpY τ ρ m i).toNat + zdy (nI (ρ (30 + (60 * m + i)))) = nI (zpY τ ρ m (i + 1)).toNat := by
        rw [zdyI (by omega), zaddI (zdj_b _) (by omega)]; congr 1; omega
      have ih := ih
      have cc := cor (i + 1) hi
      have next : ¬ ((zpX τ ρ m (i + 1)).toNat = x ∧ (zpY τ ρ m (i + 1)).toNat = y) → zvt τ ρ m (12 * y + x) (i + 1) = false := by
        intro g
        simp only [zvt, e, Bool.false_or]
        exact decide_eq_false (fun z => g (cc.mp z))
      refine BX12_comesTo_61 _ _ _ _ _ _ h.L ⟨vL, fun q => ?_, fun _ => ⟨v30, fun y1 e1 => ⟨v30, fun y2 e2 => ?_⟩⟩⟩
      · exfalso; rw [rL, zle' (by omega) (by omega)] at q; omega
      · rw [r30, nx] at e1
        rw [r30, ny] at e2
        rw [e1, e2, zeq (by omega) (by omega), zeq (by omega) (by omega), zadd1]
        refine ⟨fun q => ih (next fun z => q z.1), fun q => ⟨fun q2 => ih (next fun z => q2 z.2), fun q2 => ?_⟩⟩
        have h3 : zvt τ ρ m (12 * y + x) (i + 1) = true := by simp only [zvt]; rw [decide_eq_true (cc.mpr ⟨q, q2⟩), Bool.or_true]
        have h4 := zvt_up (ρ (14 + m) - (i + 1)) h3
        rw [show i + 1 + (ρ (14 + m) - (i + 1)) = ρ (14 + m) by omega] at h4
        rw [h4]; rfl
  have ex : (zpX τ ρ m 0).toNat = τ 1 m := rfl
  have ey : (zpY τ ρ m 0).toNat = τ 2 m := rfl
  have st := loop 0 (Nat.zero_le _)
  have cc := cor 0 (Nat.zero_le _)
  rw [ex, ey] at st cc
  have step : 0 < ρ (14 + m) → ¬ (τ 1 m = x ∧ τ 2 m = y) → zE (d + 1) kX12_comesTo 61 [some (.ref 420), some (.int (nI m)), some (.int (nI x)), some (.int (nI y)), some (.int (nI (τ 1 m))), some (.int (nI (τ 2 m))), some (.int 0)] [] Z I J (some (.int (nI (zvs τ ρ (12 * y + x) m).toNat)), Z, I, J) := by
    intro g1 g2
    have := st (decide_eq_false (fun z => g2 (cc.mp z)))
    unfold zvs
    rw [decide_eq_true g1, Bool.true_and]
    exact this
  refine BX12_comesTo_0 _ _ _ h.L ⟨v14, fun y1 e1 => ⟨v14, fun y2 e2 => ⟨vL, fun q => ?_, fun q => ?_⟩⟩⟩
  all_goals rw [rx] at e1
  all_goals rw [ry] at e2
  all_goals rw [e1, e2]
  all_goals rw [rL, show (0 : Int32) = nI 0 from rfl, zle' (by omega) (by decide)] at q
  · have e0 : ρ (14 + m) = 0 := by omega
    refine BX12_comesTo_61 _ _ _ _ _ _ h.L ⟨vL, fun _ => ?_, fun q => absurd (by rw [rL, e0]; decide) q⟩
    unfold zvs; rw [e0]; rfl
  · rw [zeq (by omega) (by omega), zeq (by omega) (by omega)]
    refine ⟨fun q1 => step (by omega) (fun z => q1 z.1), fun q1 => ⟨fun q2 => step (by omega) (fun z => q2 z.2), fun q2 => ?_⟩⟩
    have h3 : zvt τ ρ m (12 * y + x) 0 = true := decide_eq_true (cc.mpr ⟨q1, q2⟩)
    have h4 := zvt_up (ρ (14 + m)) h3
    rw [Nat.zero_add] at h4
    unfold zvs
    rw [h4, decide_eq_true (show 0 < ρ (14 + m) by omega)]; rfl
end

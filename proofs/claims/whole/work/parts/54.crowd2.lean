/-! CROWD answered -/
section
variable {d : Nat} {Z : zZ} {J : zJ} {I I' : zI} {t u v b : Nat} {τ : Nat → Nat → Nat} {Λ : Nat → Option zLaw} {ρ : Nat → Nat}
def zgb (f : Nat → Nat) : Nat → Nat
  | 0 => 0
  | k + 1 => if zgb f k < f k then f k else zgb f k
def zgw (f : Nat → Nat) : Nat → Int32
  | 0 => -2
  | k + 1 => if zgb f k < f k then nI (100 * (k / 12) + k % 12) else zgw f k
theorem zgb_s {f : Nat → Nat} {k : Nat} : zgb f (k + 1) = if zgb f k < f k then f k else zgb f k := rfl
theorem zgw_s {f : Nat → Nat} {k : Nat} : zgw f (k + 1) = if zgb f k < f k then nI (100 * (k / 12) + k % 12) else zgw f k := rfl
theorem zgb_skip {f : Nat → Nat} {k : Nat} : ∀ n, (∀ j, k ≤ j → j < k + n → f j = 0) → zgb f (k + n) = zgb f k ∧ zgw f (k + n) = zgw f k := by
  intro n
  induction n with
  | zero => intro _; exact ⟨rfl, rfl⟩
  | succ n ih =>
    intro h
    have h1 := ih (fun j a b => h j a (by omega))
    have h2 := h (k + n) (by omega) (by omega)
    rw [← Nat.add_assoc, zgb_s, zgw_s, h2, if_neg (by omega), if_neg (by omega)]
    exact h1
theorem zgb_am {f : Nat → Nat} : ∀ k, zgb f (k + 1) = f (zam f k) ∧ (0 < f (zam f k) → zgw f (k + 1) = nI (100 * (zam f k / 12) + zam f k % 12)) := by
  intro k
  induction k with
  | zero =>
    rw [zgb_s, zgw_s]
    show (if 0 < f 0 then f 0 else 0) = f 0 ∧ (0 < f 0 → (if 0 < f 0 then nI (100 * (0 / 12) + 0 % 12) else -2) = nI (100 * (0 / 12) + 0 % 12))
    refine ⟨?_, fun h => by rw [if_pos h]⟩
    split <;> omega
  | succ k ih =>
    rw [zgb_s, zgw_s, zam_s, ih.1]
    by_cases g : f (zam f k) < f (k + 1)
    · rw [if_pos g, if_pos g, if_pos g]; exact ⟨rfl, fun _ => rfl⟩
    · rw [if_neg g, if_neg g, if_neg g]; exact ⟨rfl, ih.2⟩
theorem zgb_ge {f : Nat → Nat} {j : Nat} : ∀ k, j < k → f j ≤ zgb f k := by
  intro k
  induction k with
  | zero => intro h; omega
  | succ k ih =>
    intro h
    rw [zgb_s]
    by_cases e : j = k
    · subst e; split <;> omega
    · have := ih (by omega); split <;> omega
theorem zgb_le {f : Nat → Nat} {c : Nat} (h : ∀ j, f j ≤ c) : ∀ k, zgb f k ≤ c := by
  intro k
  induction k with
  | zero => exact Nat.zero_le _
  | succ k ih => rw [zgb_s]; have := h k; split <;> omega
theorem zgw_neg {f : Nat → Nat} : ∀ k, k ≤ 144 → (0 < zgb f k ∧ ∃ n, n < 2000 ∧ zgw f k = nI n) ∨ (zgb f k = 0 ∧ zgw f k = -2) := by
  intro k
  induction k with
  | zero => intro _; exact Or.inr ⟨rfl, rfl⟩
  | succ k ih =>
    intro h
    rw [zgb_s, zgw_s]
    by_cases g : zgb f k < f k
    · rw [if_pos g, if_pos g]; exact Or.inl ⟨by omega, _, by omega, rfl⟩
    · rw [if_neg g, if_neg g]; exact ih (by omega)
theorem zcw_out (h : zR0 Z I t u v τ Λ b ρ) {c : Nat} (hc : ¬ (c % 12 < τ 0 1 ∧ c / 12 < τ 0 2)) : zcw τ ρ c = 0 := by
  refine zsum_0 fun m _ hm => ?_
  have : zvs τ ρ c m = false := by
    by_cases g : zvs τ ρ c m = true
    · unfold zvs at g
      simp only [Bool.and_eq_true] at g
      exact absurd (zvt_in h.W h.D (by omega) _ (Nat.le_refl _) g.2) hc
    · simpa using g
  rw [this]; rfl
theorem Q_crowd (h : zR0 Z I t u v τ Λ b ρ) (x : Int32) : zQ2 kX11_crowd kX12_crowd [some (.ref 0), some (.int x), none] [some (.ref 420), some (.int x), none, none, none, none, none, none] Z I J := by
  have h7 := h.n7
  have hW1 := h.W.1
  have ht3 := h.t3
  have hxx : (x = 0 ∨ x = 1) ∨ (¬ x = 0 ∧ ¬ x = 1 ∧ ¬ (0 ≤ x ∧ x ≤ 1)) := by
    rcases zix x (n := 2) (by decide) with g | ⟨j, hj, rfl⟩
    · right
      refine ⟨?_, ?_, fun z => ?_⟩
      · rintro rfl; rcases g with g | g <;> exact absurd g (by decide)
      · rintro rfl; rcases g with g | g <;> exact absurd g (by decide)
      · rcases g with g | g
        · exact absurd g (Int32.not_lt.mpr z.1)
        · exact absurd (Int32.le_trans g z.2) (by decide)
    · left; obtain rfl | rfl : j = 0 ∨ j = 1 := by omega
      · exact Or.inl rfl
      · exact Or.inr rfl
  rcases hxx with hx | ⟨g1, g2, g3⟩
  · obtain ⟨f, hf⟩ : ∃ f, f = zcw τ ρ := ⟨_, rfl⟩
    have fle : ∀ c, f c ≤ 7 := fun c => by rw [hf]; exact zcw_le h7 c
    have fout : ∀ c, ¬ (c % 12 < τ 0 1 ∧ c / 12 < τ 0 2) → f c = 0 := fun c hc => by rw [hf]; exact zcw_out h hc
    -- the answer
    obtain ⟨r, hr⟩ : ∃ r : Int32, r = if zgw f 144 < 0 then zgw f 144 else if x = 0 then zgw f 144 else nI (zgb f 144) := ⟨_, rfl⟩
    have hn : zsum (fun m => ρ (14 + m)) 0 (τ 0 0) ≤ 420 := by
      have := zsum_le (f := fun m => ρ (14 + m)) (b := 60) (i := 0) (k := τ 0 0) (fun j _ hj => h.H.2 j (by omega))
      omega
    have am := zgb_am (f := f) 143
    have amle := zam_le f 143
    have hnone : zsum (fun m => ρ (14 + m)) 0 (τ 0 0) = 0 → r = -2 := by
      intro e
      have z : ∀ c, f c = 0 := by
        intro c
        rw [hf]
        refine zsum_0 fun m _ hm => ?_
        have := zsum_ge1 (f := fun m => ρ (14 + m)) (i := 0) (k := τ 0 0) (j := m) (Nat.zero_le _) hm
        have e0 : ρ (14 + m) = 0 := by omega
        unfold zvs; rw [e0]; rfl
      have := zgb_skip (f := f) (k := 0) 144 (fun j _ _ => z j)
      rw [Nat.zero_add] at this
      rw [hr, this.2]; rfl
    have hsome : ¬ zsum (fun m => ρ (14 + m)) 0 (τ 0 0) = 0 → 0 < f (zam f 143) := by
      intro e
      obtain ⟨m, _, hm, h0⟩ := zsum_pos.mp (show 0 < zsum (fun m => ρ (14 + m)) 0 (τ 0 0) by omega)
      rw [Nat.zero_add] at hm
      have hc := zcr_in h.W h.D hm (Nat.zero_le _)
      have h1 : 1 ≤ f (zcr τ ρ m 0) := by
        have := zsum_ge1 (f := fun m' => (zvs τ ρ (zcr τ ρ m 0) m').toNat) (i := 0) (k := τ 0 0) (j := m) (Nat.zero_le _) (by omega)
        have hv : zvs τ ρ (zcr τ ρ m 0) m = true := by
          have h3 : zvt τ ρ m (zcr τ ρ m 0) 0 = true := decide_eq_true rfl
          have h4 := zvt_up (ρ (14 + m)) h3
          rw [Nat.zero_add] at h4
          unfold zvs; rw [h4, decide_eq_true h0]; rfl
        rw [hv] at this
        rw [hf]; exact this
      have := zgb_ge (f := f) 144 hc.2.2
      rw [am.1] at this
      omega
    refine zQ2.of h r ?_ ?_
    · have big : ∀ o : zO, (∃ (v1 : Int32), zE 9 kX0_countLying 0 [some (.ref 47), some (.ref t), some (.int (-1)), none, none] [] Z I J (some (.int v1), Z, I, J) ∧ ((¬ v1 = 0 → (∃ (v2 : Int32) (I3 : zI), zE 9 kX7_mostCrowded 0 [some (.ref 401), some (.ref t), some (.ref 47), none, none] [] Z I J (some (.int v2), Z, I3, J) ∧ ((¬ x = 1 → o = (some (.int (((100 : Int32) * (v2 / 12)) + (v2 - v2 / 12 * 12))), Z, I3, J)) ∧ (x = 1 → (∃ (v4 : Int32), zE 9 kJ6_bitCount_0f7a4 0 [some (.int (zat I3 405 144 v2))] [] Z I3 J (some (.int v4), Z, I3, J) ∧ o = (some (.int v4), Z, I3, J)))))) ∧ (v1 = 0 → o = (some (.int (-2)), Z, I, J)))) → zE 10 kX11_crowd 0 [some (.ref 0), some (.int x), none] [] Z I J o :=
        fun o g => BX11_crowd_0 (d := 7) _ h.L ⟨fun _ => g, fun _ => ⟨fun _ => g, fun q2 => hx.elim (fun e => absurd e ‹¬ x = 0›) (fun e => absurd e q2)⟩⟩
      have cl := C_countAll (d := 8) (J := J) (ly_d47 h.L) (ly_tx h.L) h7 h.men h.C
      by_cases e : zsum (fun m => ρ (14 + m)) 0 (τ 0 0) = 0
      · refine ⟨I, big _ ⟨_, cl, fun q => absurd (by rw [e]; rfl) q, fun _ => by rw [hnone e]⟩, zscr.rf⟩
      · obtain ⟨I1, k1, k2, k3⟩ := C_mostCrowded (d := 7) (J := J) h.L (ly_d47 h.L) (ly_tx h.L) h.S (by decide) (by omega) h.W h.T h.C h.D
        have pos := hsome e
        have wg := am.2 pos
        rw [← hf] at k1
        have wn : ¬ zgw f 144 < 0 := by rw [wg]; exact zneg (by omega)
        refine ⟨I1, big _ ⟨_, cl, fun _ => ⟨_, I1, k1, fun q => ?_, fun q => ⟨nI (f (zam f 143)), ?_, ?_⟩⟩, fun q => ?_⟩, zscr.of fun a p _ => k3 a (fun z => p (by rw [z]; decide))⟩
        · rw [hr, if_neg wn, if_pos (hx.resolve_right q), wg, show (12 : Int32) = nI 12 from rfl, zdiv (by omega) (by decide) (by decide), show (100 : Int32) = nI 100 from rfl, zmul, zmul, zsub (by omega), zadd]
          congr 4; omega
        · rw [k2 _ (by omega)]
          have := S_bitCount (d := 9) (Z := Z) (I := I1) (J := J) (zbs_lt (P := zvs τ ρ (zam f 143)) h7)
          rw [zcd_zbs h7] at this
          rw [show f (zam f 143) = zcw τ ρ (zam f 143) by rw [hf]]
          exact this
        · rw [hr, if_neg wn, if_neg (by rw [q]; decide), am.1]
        · rw [zn0 (by omega)] at q; exact absurd q e
    · intro I1 h1
      obtain ⟨I2, c1, c2, c3, c4, c5⟩ := M_cop (d := 9) (J := J) h1
      refine ⟨I2, BX12_crowd_0 (d := 8) _ h1.L ⟨fun _ => ⟨I2, c1, ?_⟩, fun q => absurd (by rcases hx with rfl | rfl <;> decide) (zbi_eq0.mp q)⟩, c5⟩
      have hv2 := c2.M.1.1
      have hlv := c2.M.1.2
      have hvl : vp_in (I2 420 18) 2 := by rw [hlv]; exact zvin hv2 (by decide)
      have rn : I2 431 (I2 420 18).toNatClampNeg = nI (τ 0 0) := by rw [hlv, zclm (by omega)]; exact c2.M.2.1.1
      have rw1 : I2 429 (I2 420 18).toNatClampNeg = nI (τ 0 1) := by rw [hlv, zclm (by omega)]; exact c2.M.2.1.2.1
      have rd : I2 430 (I2 420 18).toNatClampNeg = nI (τ 0 2) := by rw [hlv, zclm (by omega)]; exact c2.M.2.1.2.2.1
      have gle := zgb_le fle
      -- over the men
      have l60 : ∀ (y' x' : Nat), y' < τ 0 2 → x' < τ 0 1 → ∀ (x2 : Int32) (bb : Nat), bb ≤ 7 → ∀ o : zO,
          (bb < f (12 * y' + x') → zE 10 kX12_crowd 40 [some (.ref 420), some (.int x), some (.int (nI (100 * y' + x'))), some (.int (nI (f (12 * y' + x')))), some (.int (nI y')), some (.int (nI (x' + 1))), none, none] [] Z I2 J o) →
          (¬ bb < f (12 * y' + x') → zE 10 kX12_crowd 40 [some (.ref 420), some (.int x), some (.int x2), some (.int (nI bb)), some (.int (nI y')), some (.int (nI (x' + 1))), none, none] [] Z I2 J o) →
          zE 10 kX12_crowd 60 [some (.ref 420), some (.int x), some (.int x2), some (.int (nI bb)), some (.int (nI y')), some (.int (nI x')), some (.int 0), some (.int 0)] [] Z I2 J o := by
        intro y' x' hy hx' x2 bb hbb o g1 g2
        have ff : f (12 * y' + x') = zsum (fun m => (zvs τ ρ (12 * y' + x') m).toNat) 0 (τ 0 0) := by rw [hf]; rfl
        have f7 := fle (12 * y' + x')
        have lp : ∀ m, m ≤ τ 0 0 → ∀ acc, acc + zsum (fun m => (zvs τ ρ (12 * y' + x') m).toNat) m (τ 0 0 - m) = f (12 * y' + x') → zE 10 kX12_crowd 60 [some (.ref 420), some (.int x), some (.int x2), some (.int (nI bb)), some (.int (nI y')), some (.int (nI x')), some (.int (nI acc)), some (.int (nI m))] [] Z I2 J o := by
          refine zloop _ _ ?_ ?_
          · intro acc e
            rw [zsum_end, Nat.add_zero] at e
            refine BX12_crowd_60 (d := 8) _ _ _ _ _ _ _ h.L ⟨hvl, fun _ => ⟨fun q yy ey => ?_, fun q => ?_⟩, fun q => absurd (by rw [rn]; exact Int32.le_refl _) q⟩
            all_goals rw [e, zlt (by omega) (by omega)] at q
            · have : yy = nI (100 * y' + x') := by rw [ey, show (100 : Int32) = nI 100 from rfl, zmul, zadd]
              rw [this, zadd1, e]; exact g1 q
            · rw [zadd1]; exact g2 q
          · intro m hm ih acc e
            rw [zsum_lt hm, ← Nat.add_assoc] at e
            refine BX12_crowd_60 (d := 8) _ _ _ _ _ _ _ h.L ⟨hvl, fun q => ?_, fun _ => ⟨_, M_comesTo c2 c3 hm (x := x') (y := y') (by omega) (by omega), fun q => ?_, fun q => ?_⟩⟩
            · exfalso; rw [rn, zle' (by omega) (by omega)] at q; omega
            · have := ih _ e
              rw [zn0 (by cases zvs τ ρ (12 * y' + x') m <;> decide)] at q
              rw [q, Nat.add_zero] at this
              rw [zadd1]; exact this
            · have := ih _ e
              rw [zn0 (by cases zvs τ ρ (12 * y' + x') m <;> decide)] at q
              have q1 : (zvs τ ρ (12 * y' + x') m).toNat = 1 := by
                have hb : ∀ p : Bool, ¬ p.toNat = 0 → p.toNat = 1 := by decide
                exact hb _ q
              rw [q1] at this
              rw [zadd1, zadd1]; exact this
        have := lp 0 (Nat.zero_le _) 0 (by rw [Nat.zero_add, Nat.sub_zero, ff])
        exact this
      have res : ∀ o : zO, o = (some (.int r), Z, I2, J) → zE 10 kX12_crowd 23 [some (.ref 420), some (.int x), some (.int (zgw f (12 * τ 0 2))), some (.int (nI (zgb f (12 * τ 0 2)))), some (.int (nI (τ 0 2))), none, none, none] [] Z I2 J o := by
        intro o e
        have sk := zgb_skip (f := f) (k := 12 * τ 0 2) (144 - 12 * τ 0 2) (fun j h1 h2 => fout j (by omega))
        rw [show 12 * τ 0 2 + (144 - 12 * τ 0 2) = 144 by omega] at sk
        rw [sk.1, sk.2] at hr
        refine BX12_crowd_23 (d := 8) _ _ _ _ h.L ⟨hvl, fun _ => ⟨fun q => ?_, fun q => ⟨fun q2 => ?_, fun q2 => ?_⟩⟩, fun q => absurd (by rw [rd]; exact Int32.le_refl _) q⟩
        · rw [e, hr, if_pos q]
        · rw [e, hr, if_neg q, if_neg q2]
        · rw [e, hr, if_neg q, if_pos q2]
      have rows : ∀ y', y' ≤ τ 0 2 → zE 10 kX12_crowd 23 [some (.ref 420), some (.int x), some (.int (zgw f (12 * y'))), some (.int (nI (zgb f (12 * y')))), some (.int (nI y')), none, none, none] [] Z I2 J (some (.int r), Z, I2, J) := by
        refine zloop _ _ (res _ rfl) ?_
        intro y' hy ihy
        have cols : ∀ x', x' ≤ τ 0 1 → zE 10 kX12_crowd 40 [some (.ref 420), some (.int x), some (.int (zgw f (12 * y' + x'))), some (.int (nI (zgb f (12 * y' + x')))), some (.int (nI y')), some (.int (nI x')), none, none] [] Z I2 J (some (.int r), Z, I2, J) := by
          refine zloop _ _ ?_ ?_
          · have sk := zgb_skip (f := f) (k := 12 * y' + τ 0 1) (12 - τ 0 1) (fun j h1 h2 => fout j (by omega))
            rw [show 12 * y' + τ 0 1 + (12 - τ 0 1) = 12 * (y' + 1) by omega] at sk
            rw [sk.1, sk.2] at ihy
            exact BX12_crowd_40 (d := 8) _ _ _ _ _ h.L ⟨hvl, fun _ => by rw [zadd1]; exact ihy, fun q => absurd (by rw [rw1]; exact Int32.le_refl _) q⟩
          · intro x' hx' ihx
            rw [← Nat.add_assoc, zgb_s, zgw_s] at ihx
            refine BX12_crowd_40 (d := 8) _ _ _ _ _ h.L ⟨hvl, fun q => ?_, fun _ => l60 y' x' hy hx' _ _ (gle _) _ (fun q => ?_) (fun q => ?_)⟩
            · exfalso; rw [rw1, zle' (by omega) (by omega)] at q; omega
            · rw [if_pos q, if_pos q, show (12 * y' + x') / 12 = y' by omega, show (12 * y' + x') % 12 = x' by omega] at ihx
              exact ihx
            · rw [if_neg q, if_neg q] at ihx
              exact ihx
        refine BX12_crowd_23 (d := 8) _ _ _ _ h.L ⟨hvl, fun q => ?_, fun _ => cols 0 (Nat.zero_le _)⟩
        exfalso; rw [rd, zle' (by omega) (by omega)] at q; omega
      exact rows 0 (Nat.zero_le _)
  · exact zQ2.of h (-1) ⟨I, BX11_crowd_0 (d := 7) _ h.L ⟨fun q => absurd q g1, fun _ => ⟨fun q => absurd q g2, fun _ => rfl⟩⟩, zscr.rf⟩ (fun I1 h => ⟨I1, BX12_crowd_0 (d := 8) _ h.L ⟨fun q => absurd (zbi_eq0.mpr g3) q, fun _ => rfl⟩, zscr.rf⟩)
end

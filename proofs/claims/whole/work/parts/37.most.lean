/-! who is OVER most -/
section
variable {d : Nat} {Z : zZ} {J : zJ} {I I' : zI} {t u v b : Nat} {τ : Nat → Nat → Nat} {Λ : Nat → Option zLaw} {ρ : Nat → Nat}
theorem M_overAll (h : zR0 Z I t u v τ Λ b ρ) (hR : zRM I 458 0 ρ) {m : Nat} (hm : m < τ 0 0) : zE (d + 1) kX12_overAll 0 [some (.ref 420), some (.int (nI m)), none, none] [] Z I J (some (.int (nI (zova ρ (τ 0 0) m))), Z, I, J) := by
  have h7 := h.n7
  have hlv := h.M.1.2
  have hv2 := h.M.1.1
  have hvl : vp_in (I 420 18) 2 := by rw [hlv]; exact zvin hv2 (by decide)
  have hn : I 431 (I 420 18).toNatClampNeg = nI (τ 0 0) := by rw [hlv, zclm (by omega)]; exact h.M.2.1.1
  have loop : ∀ o, o ≤ τ 0 0 → ∀ acc, zE (d + 1) kX12_overAll 4 [some (.ref 420), some (.int (nI m)), some (.int (nI acc)), some (.int (nI o))] [] Z I J (some (.int (nI (acc + zsum (fun b => if b = m then 0 else zov ρ m b) o (τ 0 0 - o)))), Z, I, J) := by
    refine zloop _ _ ?_ ?_
    · intro acc
      refine BX12_overAll_4 _ _ _ h.L ⟨hvl, fun _ => by rw [zsum_end]; rfl, fun q => absurd (by rw [hn]; exact Int32.le_refl _) q⟩
    · intro o ho ih acc
      rw [zsum_lt ho, ← Nat.add_assoc]
      refine BX12_overAll_4 _ _ _ h.L ⟨hvl, fun q => ?_, fun _ => ⟨fun q => ?_, fun q => ⟨_, M_overOf h.L h.H hR h.B hm ho, ?_⟩⟩⟩
      · exfalso; rw [hn, zle' (by omega) (by omega)] at q; omega
      · rw [zeq (by omega) (by omega)] at q
        have := ih acc
        rw [if_pos q, Nat.add_zero, zadd1]; exact this
      · rw [zeq (by omega) (by omega)] at q
        have := ih (acc + zov ρ m o)
        rw [if_neg q, zadd, zadd1]; exact this
  have := loop 0 (Nat.zero_le _) 0
  rw [Nat.zero_add, Nat.sub_zero] at this
  exact BX12_overAll_0 _ h.L this
/-- the first of the greatest of 0 .. k -/
def zam (f : Nat → Nat) : Nat → Nat
  | 0 => 0
  | k + 1 => if f (zam f k) < f (k + 1) then k + 1 else zam f k
theorem zam_le (f : Nat → Nat) (k : Nat) : zam f k ≤ k := by
  induction k with
  | zero => exact Nat.le_refl _
  | succ k ih => simp only [zam]; split <;> omega
def zmx (f : Nat → Nat) : Nat → Nat
  | 0 => f 0
  | k + 1 => if zmx f k < f (k + 1) then f (k + 1) else zmx f k
def zmn (f : Nat → Nat) : Nat → Nat
  | 0 => f 0
  | k + 1 => if f (k + 1) < zmn f k then f (k + 1) else zmn f k
theorem zmx_le {f : Nat → Nat} {c : Nat} : ∀ k, (∀ i, i ≤ k → f i ≤ c) → zmx f k ≤ c := by
  intro k
  induction k with
  | zero => intro h; exact h 0 (Nat.le_refl _)
  | succ k ih => intro h; simp only [zmx]; have := ih (fun i hi => h i (by omega)); have := h (k + 1) (Nat.le_refl _); split <;> omega
theorem zmn_le {f : Nat → Nat} {c : Nat} : ∀ k, (∀ i, i ≤ k → f i ≤ c) → zmn f k ≤ c := by
  intro k
  induction k with
  | zero => intro h; exact h 0 (Nat.le_refl _)
  | succ k ih => intro h; simp only [zmn]; have := ih (fun i hi => h i (by omega)); have := h (k + 1) (Nat.le_refl _); split <;> omega
theorem Q_most (h : zR0 Z I t u v τ Λ b ρ) (x : Int32) : zQ2 kX11_most kX12_most [some (.ref 0), some (.int x), none, none, none, none] [some (.ref 420), some (.int x), none, none] Z I J := by
  have h7 := h.n7
  obtain ⟨f, hf⟩ : ∃ f : Nat → Nat, f = fun m => zova ρ (τ 0 0) m := ⟨_, rfl⟩
  have fle : ∀ m, m < τ 0 0 → f m ≤ 176400 := fun m hm => by rw [hf]; exact zova_le h.H hm
  have hvl : ∀ {I : zI}, zR0 Z I t u v τ Λ b ρ → vp_in (I 420 18) 2 := fun {I} h => by rw [h.M.1.2]; exact zvin h.M.1.1 (by decide)
  have hn : ∀ {I : zI}, zR0 Z I t u v τ Λ b ρ → I 431 (I 420 18).toNatClampNeg = nI (τ 0 0) := fun {I} h => by rw [h.M.1.2, zclm (by have := h.M.1.1; omega)]; exact h.M.2.1.1
  have hx : ¬ (0 ≤ x ∧ x ≤ 1) ∧ ¬ x = 0 ∧ ¬ x = 1 ∨ x = 0 ∨ x = 1 := by
    rcases zix x (n := 2) (by decide) with g | ⟨j, hj, rfl⟩
    · left
      refine ⟨fun z => ?_, ?_, ?_⟩
      · rcases g with g | g
        · exact absurd g (Int32.not_lt.mpr z.1)
        · exact absurd (Int32.le_trans g z.2) (by decide)
      all_goals rintro rfl; rcases g with g | g <;> exact absurd g (by decide)
    · right
      obtain rfl | rfl : j = 0 ∨ j = 1 := by omega
      · exact Or.inl rfl
      · exact Or.inr rfl
  by_cases hx1 : x = 0 ∨ x = 1
  · have hxin : 0 ≤ x ∧ x ≤ 1 := by rcases hx1 with rfl | rfl <;> decide
    have start : ∀ o, zE 10 kX11_most 20 [some (.ref 0), some (.int x), some (.int (-2)), some (.int (-2)), some (.int 0), none] [] Z I J o → zE 10 kX11_most 0 [some (.ref 0), some (.int x), none, none, none, none] [] Z I J o := fun o g =>
      BX11_most_0 (d := 7) _ h.L ⟨fun _ => g, fun q => ⟨fun _ => g, fun q2 => absurd hx1 (fun z => z.elim q q2)⟩⟩
    by_cases h0 : τ 0 0 = 0
    · refine zQ2.of h (-2) ⟨I, start _ (BX11_most_20 (d := 7) _ _ _ _ h.L ⟨fun _ => ⟨fun _ => rfl, fun _ => rfl⟩, fun q => absurd (by rw [h.men, h0]; decide) q⟩), zscr.rf⟩ (fun I1 h => ⟨I1, BX12_most_0 (d := 8) _ h.L ⟨fun _ => ⟨hvl h, fun q => absurd (by rw [hn h, h0]; rfl) q, fun _ => rfl⟩, fun q => absurd hxin (zbi_eq0.mp q)⟩, zscr.rf⟩)
    · obtain ⟨n, hN⟩ : ∃ n, τ 0 0 = n + 1 := ⟨τ 0 0 - 1, by omega⟩
      have zle6 := zam_le f n
      obtain ⟨r, hr⟩ : ∃ r : Int32, (x = 0 → r = nI (zam f n)) ∧ (x = 1 → r = nI (f (zam f n))) := ⟨if x = 0 then nI (zam f n) else nI (f (zam f n)), fun e => if_pos e, fun e => by rw [if_neg (by rw [e]; decide)]⟩
      have cv : ∀ m, m < τ 0 0 → zE 9 kX0_countOverOthers 0 [some (.ref 47), some (.int (nI m)), none, none] [] Z I J (some (.int (nI (f m))), Z, I, J) := fun m hm => by rw [hf]; exact C_countOverOthers (ly_d47 h.L) h.H h.U h.C hm
      have cl : ∀ i, i ≤ n + 1 → 1 ≤ i → zE 10 kX11_most 20 [some (.ref 0), some (.int x), some (.int (nI (zam f (i - 1)))), some (.int (nI (f (zam f (i - 1))))), some (.int (nI i)), none] [] Z I J (some (.int r), Z, I, J) := by
        refine zloop _ _ ?_ ?_
        · intro _
          refine BX11_most_20 (d := 7) _ _ _ _ h.L ⟨fun _ => ⟨fun q => ?_, fun q => by rw [hr.1 q]; rfl⟩, fun q => absurd (by rw [h.men, hN]; exact Int32.le_refl _) q⟩
          rw [hr.2 (hx1.resolve_left q)]; rfl
        · intro i hi ih h1
          obtain ⟨k, rfl⟩ : ∃ k, i = k + 1 := ⟨i - 1, by omega⟩
          have ih := ih (by omega)
          have hk := zam_le f k
          have f1 := fle (zam f k) (by omega)
          have f2 := fle (k + 1) (by omega)
          rw [Nat.add_sub_cancel] at ih ⊢
          refine BX11_most_20 (d := 7) _ _ _ _ h.L ⟨fun q => ?_, fun _ => ⟨nI (f (k + 1)), cv (k + 1) (by omega), fun q => ?_, fun q => ?_⟩⟩
          · exfalso; rw [h.men, hN, zle' (by omega) (by omega)] at q; omega
          all_goals rw [zle' (by omega) (by omega)] at q
          all_goals simp only [zam] at ih
          · rw [if_neg (by omega)] at ih; rw [zadd1]; exact ih
          · rw [if_pos (by omega)] at ih; rw [zadd1]; exact ih
      refine zQ2.of h r ⟨I, start _ (BX11_most_20 (d := 7) _ _ _ _ h.L ⟨fun q => ?_, fun _ => ⟨nI (f 0), cv 0 (by omega), fun q => ?_, fun _ => ?_⟩⟩), zscr.rf⟩ (fun I1 h => ?_)
      · exfalso; rw [h.men, show (0 : Int32) = nI 0 from rfl, zle' (by omega) (by omega)] at q; omega
      · exfalso; exact absurd (Int32.le_trans (znn (by have := fle 0 (by omega); omega)) q) (by decide)
      · exact cl 1 (by omega) (by omega)
      · obtain ⟨I2, g1, g2, g3, g4, g5⟩ := M_cop (d := 9) (J := J) h
        have ov : ∀ m, m < τ 0 0 → zE 9 kX12_overAll 0 [some (.ref 420), some (.int (nI m)), none, none] [] Z I2 J (some (.int (nI (f m))), Z, I2, J) := fun m hm => by rw [hf]; exact M_overAll g2 g3 hm
        have ml : ∀ i, i ≤ n + 1 → 1 ≤ i → zE 10 kX12_most 34 [some (.ref 420), some (.int x), some (.int (nI (zam f (i - 1)))), some (.int (nI i))] [] Z I2 J (some (.int r), Z, I2, J) := by
          refine zloop _ _ ?_ ?_
          · intro _
            refine BX12_most_34 (d := 8) _ _ _ g2.L ⟨hvl g2, fun _ => ⟨fun q => ⟨nI (f (zam f n)), ov (zam f n) (by omega), by rw [hr.2 (hx1.resolve_left q)]⟩, fun q => by rw [hr.1 q]; rfl⟩, fun q => absurd (by rw [hn g2, hN]; exact Int32.le_refl _) q⟩
          · intro i hi ih h1
            obtain ⟨k, rfl⟩ : ∃ k, i = k + 1 := ⟨i - 1, by omega⟩
            have ih := ih (by omega)
            have hk := zam_le f k
            have f1 := fle (zam f k) (by omega)
            have f2 := fle (k + 1) (by omega)
            rw [Nat.add_sub_cancel] at ih ⊢
            refine BX12_most_34 (d := 8) _ _ _ g2.L ⟨hvl g2, fun q => ?_, fun _ => ⟨nI (f (k + 1)), ov _ (by omega), nI (f (zam f k)), ov _ (by omega), fun q => ?_, fun q => ?_⟩⟩
            · exfalso; rw [hn g2, hN, zle' (by omega) (by omega)] at q; omega
            all_goals rw [zle' (by omega) (by omega)] at q
            all_goals simp only [zam] at ih
            · rw [if_neg (by omega)] at ih; rw [zadd1]; exact ih
            · rw [if_pos (by omega)] at ih; rw [zadd1]; exact ih
        refine ⟨I2, BX12_most_0 (d := 8) _ h.L ⟨fun _ => ⟨hvl h, fun _ => ⟨I2, g1, ml 1 (by omega) (by omega)⟩, fun q => ?_⟩, fun q => absurd hxin (zbi_eq0.mp q)⟩, g5⟩
        exfalso; rw [hn h, zn0 (by omega)] at q; omega
  · have hx' := hx.resolve_right hx1
    exact zQ2.of h (-1) ⟨I, BX11_most_0 (d := 7) _ h.L ⟨fun q => absurd q hx'.2.1, fun _ => ⟨fun q => absurd q hx'.2.2, fun _ => rfl⟩⟩, zscr.rf⟩ (fun I1 h => ⟨I1, BX12_most_0 (d := 8) _ h.L ⟨fun q => absurd (zbi_ne0.mp q) hx'.1, fun _ => rfl⟩, zscr.rf⟩)
theorem Q_unfair (h : zR0 Z I t u v τ Λ b ρ) : zQ2 kX11_unfair kX12_unfair [some (.ref 0), none, none, none, none] [some (.ref 420), none, none, none] Z I J := by
  have h7 := h.n7
  obtain ⟨f, hf⟩ : ∃ f : Nat → Nat, f = fun m => zova ρ (τ 0 0) m := ⟨_, rfl⟩
  have fle : ∀ m, m < τ 0 0 → f m ≤ 176400 := fun m hm => by rw [hf]; exact zova_le h.H hm
  have hvl : ∀ {I : zI}, zR0 Z I t u v τ Λ b ρ → vp_in (I 420 18) 2 := fun {I} h => by rw [h.M.1.2]; exact zvin h.M.1.1 (by decide)
  have hn : ∀ {I : zI}, zR0 Z I t u v τ Λ b ρ → I 431 (I 420 18).toNatClampNeg = nI (τ 0 0) := fun {I} h => by rw [h.M.1.2, zclm (by have := h.M.1.1; omega)]; exact h.M.2.1.1
  by_cases h0 : τ 0 0 = 0
  · exact zQ2.of h 0 ⟨I, BX11_unfair_0 (d := 7) h.L ⟨fun q => absurd (by rw [h.men, h0]; rfl) q, fun _ => rfl⟩, zscr.rf⟩ (fun I1 h => ⟨I1, BX12_unfair_0 (d := 8) h.L ⟨hvl h, fun q => absurd (by rw [hn h, h0]; rfl) q, fun _ => rfl⟩, zscr.rf⟩)
  · obtain ⟨n, hN⟩ : ∃ n, τ 0 0 = n + 1 := ⟨τ 0 0 - 1, by omega⟩
    have mxl := zmx_le (f := f) (c := 176400) n (fun i hi => fle i (by omega))
    have cv : ∀ m, m < τ 0 0 → zE 9 kX0_countOverOthers 0 [some (.ref 47), some (.int (nI m)), none, none] [] Z I J (some (.int (nI (f m))), Z, I, J) := fun m hm => by rw [hf]; exact C_countOverOthers (ly_d47 h.L) h.H h.U h.C hm
    have cl : ∀ i, i ≤ n + 1 → 1 ≤ i → zE 10 kX11_unfair 20 [some (.ref 0), some (.int (nI (zmx f (i - 1)))), some (.int (nI (zmn f (i - 1)))), some (.int (nI i)), none] [] Z I J (some (.int (nI (zmx f n) - nI (zmn f n))), Z, I, J) := by
      refine zloop _ _ ?_ ?_
      · intro _
        exact BX11_unfair_20 (d := 7) _ _ _ h.L ⟨fun _ => rfl, fun q => absurd (by rw [h.men, hN]; exact Int32.le_refl _) q⟩
      · intro i hi ih h1
        obtain ⟨k, rfl⟩ : ∃ k, i = k + 1 := ⟨i - 1, by omega⟩
        have ih := ih (by omega)
        have m1 := zmx_le (f := f) (c := 176400) k (fun i hi => fle i (by omega))
        have m2 := zmn_le (f := f) (c := 176400) k (fun i hi => fle i (by omega))
        have f2 := fle (k + 1) (by omega)
        rw [Nat.add_sub_cancel] at ih ⊢
        refine BX11_unfair_20 (d := 7) _ _ _ h.L ⟨fun q => ?_, fun _ => ⟨nI (f (k + 1)), cv (k + 1) (by omega), fun y2 e2 y3 e3 => ?_⟩⟩
        · exfalso; rw [h.men, hN, zle' (by omega) (by omega)] at q; omega
        · have e2' : y2 = nI (zmx f (k + 1)) := by
            rw [e2]; simp only [zmx]
            by_cases q : zmx f k < f (k + 1)
            · rw [if_pos ((zlt (by omega) (by omega)).mpr q), if_pos q]
            · rw [if_neg (fun z => q ((zlt (by omega) (by omega)).mp z)), if_neg q]
          have e3' : y3 = nI (zmn f (k + 1)) := by
            rw [e3]; simp only [zmn]
            by_cases q : f (k + 1) < zmn f k
            · rw [if_pos ((zlt (by omega) (by omega)).mpr q), if_pos q]
            · rw [if_neg (fun z => q ((zlt (by omega) (by omega)).mp z)), if_neg q]
          rw [e2', e3', zadd1]; exact ih
    refine zQ2.of h (nI (zmx f n) - nI (zmn f n)) ⟨I, BX11_unfair_0 (d := 7) h.L ⟨fun _ => BX11_unfair_20 (d := 7) _ _ _ h.L ⟨fun q => ?_, fun _ => ⟨nI (f 0), cv 0 (by omega), fun y2 e2 y3 e3 => ?_⟩⟩, fun q => ?_⟩, zscr.rf⟩ (fun I1 h => ?_)
    · exfalso; rw [h.men, show (0 : Int32) = nI 0 from rfl, zle' (by omega) (by omega)] at q; omega
    · have f0 := fle 0 (by omega)
      have e2' : y2 = nI (zmx f 0) := by
        rw [e2]
        show (if (0 : Int32) < nI (f 0) then nI (f 0) else 0) = nI (f 0)
        by_cases q : f 0 = 0
        · rw [q]; rfl
        · rw [if_pos (show (0 : Int32) < nI (f 0) from (zlt (a := 0) (by omega) (by omega)).mpr (by omega))]
      have e3' : y3 = nI (zmn f 0) := by
        rw [e3]
        show (if nI (f 0) < (1000000 : Int32) then nI (f 0) else 1000000) = nI (f 0)
        rw [if_pos (show nI (f 0) < (1000000 : Int32) from (zlt (b := 1000000) (by omega) (by omega)).mpr (by omega))]
      rw [e2', e3']
      exact cl 1 (by omega) (by omega)
    · exfalso; rw [h.men, zn0 (by omega)] at q; omega
    · obtain ⟨I2, g1, g2, g3, g4, g5⟩ := M_cop (d := 9) (J := J) h
      have ov : ∀ m, m < τ 0 0 → zE 9 kX12_overAll 0 [some (.ref 420), some (.int (nI m)), none, none] [] Z I2 J (some (.int (nI (f m))), Z, I2, J) := fun m hm => by rw [hf]; exact M_overAll g2 g3 hm
      have ml : ∀ i, i ≤ n + 1 → 1 ≤ i → zE 10 kX12_unfair 28 [some (.ref 420), some (.int (nI (zmn f (i - 1)))), some (.int (nI (zmx f (i - 1)))), some (.int (nI i))] [] Z I2 J (some (.int (nI (zmx f n) - nI (zmn f n))), Z, I2, J) := by
        refine zloop _ _ ?_ ?_
        · intro _
          exact BX12_unfair_28 (d := 8) _ _ _ g2.L ⟨hvl g2, fun _ => rfl, fun q => absurd (by rw [hn g2, hN]; exact Int32.le_refl _) q⟩
        · intro i hi ih h1
          obtain ⟨k, rfl⟩ : ∃ k, i = k + 1 := ⟨i - 1, by omega⟩
          have ih := ih (by omega)
          have m1 := zmx_le (f := f) (c := 176400) k (fun i hi => fle i (by omega))
          have m2 := zmn_le (f := f) (c := 176400) k (fun i hi => fle i (by omega))
          have f2 := fle (k + 1) (by omega)
          have hov := ov (k + 1) (by omega)
          rw [Nat.add_sub_cancel] at ih ⊢
          simp only [zmx, zmn] at ih
          refine BX12_unfair_28 (d := 8) _ _ _ g2.L ⟨hvl g2, fun q => ?_, fun _ => ⟨_, hov, fun q => ⟨_, hov, fun q2 => ?_, fun q2 => ⟨_, hov, ?_⟩⟩, fun q => ⟨_, hov, _, hov, fun q2 => ?_, fun q2 => ⟨_, hov, ?_⟩⟩⟩⟩
          · exfalso; rw [hn g2, hN, zle' (by omega) (by omega)] at q; omega
          all_goals rw [zle' (by omega) (by omega)] at q q2
          all_goals rw [zadd1]
          · rw [if_neg (by omega), if_neg (by omega)] at ih; exact ih
          · rw [if_neg (by omega), if_pos (by omega)] at ih; exact ih
          · rw [if_pos (by omega), if_neg (by omega)] at ih; exact ih
          · rw [if_pos (by omega), if_pos (by omega)] at ih; exact ih
      refine ⟨I2, BX12_unfair_0 (d := 8) h.L ⟨hvl h, fun _ => ⟨I2, g1, nI (f 0), ov 0 (by omega), ml 1 (by omega) (by omega)⟩, fun q => ?_⟩, g5⟩
      exfalso; rw [hn h, zn0 (by omega)] at q; omega
end

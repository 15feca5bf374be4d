/-! the reference: counting PIECES, STEP, WIND -/
/-- a sum of k terms from i on -/
def zsum (f : Nat → Nat) : Nat → Nat → Nat
  | _, 0 => 0
  | i, k + 1 => f i + zsum f (i + 1) k
theorem zsum_lt {f : Nat → Nat} {i e : Nat} (h : i < e) : zsum f i (e - i) = f i + zsum f (i + 1) (e - (i + 1)) := by
  rw [show e - i = (e - (i + 1)) + 1 by omega]; rfl
theorem zsum_end {f : Nat → Nat} {e : Nat} : zsum f e (e - e) = 0 := by rw [Nat.sub_self]; rfl
theorem zsum_congr {f g : Nat → Nat} {i k : Nat} (h : ∀ j, i ≤ j → j < i + k → f j = g j) : zsum f i k = zsum g i k := by
  induction k generalizing i with
  | zero => rfl
  | succ k ih => simp only [zsum]; rw [h i (Nat.le_refl _) (by omega), ih (fun j h1 h2 => h j (by omega) (by omega))]
theorem zsum_le {f : Nat → Nat} {b i k : Nat} (h : ∀ j, i ≤ j → j < i + k → f j ≤ b) : zsum f i k ≤ b * k := by
  induction k generalizing i with
  | zero => exact Nat.zero_le _
  | succ k ih =>
    simp only [zsum]
    have h1 := h i (Nat.le_refl _) (by omega)
    have h2 := ih (i := i + 1) (fun j h1 h2 => h j (by omega) (by omega))
    rw [Nat.mul_succ]; omega
theorem zsum_add {f g : Nat → Nat} {i k : Nat} : zsum (fun j => f j + g j) i k = zsum f i k + zsum g i k := by
  induction k generalizing i with
  | zero => rfl
  | succ k ih => simp only [zsum]; rw [ih]; omega
theorem zsum_split {f : Nat → Nat} {i a b : Nat} : zsum f i (a + b) = zsum f i a + zsum f (i + a) b := by
  induction a generalizing i with
  | zero => simp [zsum]
  | succ a ih =>
    rw [show a + 1 + b = (a + b) + 1 by omega]
    simp only [zsum]
    rw [ih, show i + 1 + a = i + (a + 1) by omega]; omega
theorem zsum_last {f : Nat → Nat} {i k : Nat} : zsum f i (k + 1) = zsum f i k + f (i + k) := by
  rw [zsum_split (a := k) (b := 1)]; simp [zsum]
theorem zsum_mono {f g : Nat → Nat} {i k : Nat} (h : ∀ j, i ≤ j → j < i + k → f j ≤ g j) : zsum f i k ≤ zsum g i k := by
  induction k generalizing i with
  | zero => exact Nat.le_refl _
  | succ k ih =>
    simp only [zsum]
    have h1 := h i (Nat.le_refl _) (by omega)
    have h2 := ih (i := i + 1) (fun j h1 h2 => h j (by omega) (by omega))
    omega
theorem zsum_0 {f : Nat → Nat} {i k : Nat} (h : ∀ j, i ≤ j → j < i + k → f j = 0) : zsum f i k = 0 := by
  have := zsum_le (f := f) (b := 0) (i := i) (k := k) (fun j h1 h2 => by rw [h j h1 h2]; exact Nat.le_refl _)
  omega
theorem zsum_ge1 {f : Nat → Nat} {i k j : Nat} (h1 : i ≤ j) (h2 : j < i + k) : f j ≤ zsum f i k := by
  induction k generalizing i with
  | zero => omega
  | succ k ih =>
    simp only [zsum]
    by_cases q : j = i
    · subst q; omega
    · have := ih (i := i + 1) (by omega) (by omega); omega
/-- how many PIECES are so -/
def zct (ρ : Nat → Nat) (n : Nat) (P : Nat → Bool) : Nat := zsum (fun m => zsum (fun i => (P (60 * m + i)).toNat) 0 (ρ (14 + m))) 0 n
/-- on a street, behind (over) a time or ahead of it -/
def zoth (ρ : Nat → Nat) (s : Nat) (tm : Int32) (ov : Bool) (q : Nat) : Bool := decide (ρ (870 + q) = s) && (if ov = true then decide (tm < nI (ρ (450 + q))) else decide (nI (ρ (450 + q)) < tm))
/-- a day fits a town: PIECES that lie, LOST -/
def zDL (τ : Nat → Nat → Nat) (ρ : Nat → Nat) : Prop := ∀ m, m < τ 0 0 → ρ (14 + m) ≤ τ 9 m
theorem zct_le {ρ : Nat → Nat} {n : Nat} {P : Nat → Bool} (h : ∀ m, m < n → ρ (14 + m) ≤ 60) : zct ρ n P ≤ 60 * n := by
  refine zsum_le (fun m _ hm => ?_)
  have := zsum_le (f := fun i => (P (60 * m + i)).toNat) (b := 1) (i := 0) (k := ρ (14 + m)) (fun j _ _ => by cases P (60 * m + j) <;> simp)
  have := h m (by omega)
  omega
section
variable {d : Nat} {Z : zZ} {J : zJ} {t u : Nat} {τ : Nat → Nat → Nat} {Λ : Nat → Option zLaw}
theorem zRM.at {I : zI} {a : Nat} {ρ : Nat → Nat} (h : zRM I a 0 ρ) {k : Nat} (hk : k < 1290) : I a k = nI (ρ k) := by
  have := h k hk; rwa [Nat.zero_add] at this
theorem zk14 {c : Int32} {b m : Nat} (hc : c = nI b) : c + nI m = nI (b + m) := by rw [hc, zadd]
set_option maxHeartbeats 1000000 in
theorem M_others (hL : zLY Z t u) {I : zI} {v : Nat} (hW : zTW τ Λ) (hM : zMT I v τ Λ) {ρ : Nat → Nat} (hR : zRM I 458 0 ρ) (hB : zRB ρ) (hd : zDL τ ρ) {s : Nat} (hs : s < 1000000000) {tm : Int32} {ov : Bool} :
    zE d kX12_others 0 [some (.ref 420), some (.int (nI s)), some (.int tm), some (.int (zbi (ov = true))), none, none, none, none] [] Z I J (some (.int (nI (zct ρ (τ 0 0) (zoth ρ s tm ov)))), Z, I, J) := by
  have h7 := hW.1.1
  have hlv := hM.1.2
  have hv2 := hM.1.1
  have hn := hM.2.1.1
  have hl60 : ∀ m, m < τ 0 0 → ρ (14 + m) ≤ 60 := fun m hm => Nat.le_trans (hd m hm) (hW.2.1 m hm).2.2.2.2.1
  have hov : (zbi (ov = true) = 0) = (ov = false) := by cases ov <;> simp [zbi]
  have outer : ∀ o, o ≤ τ 0 0 → ∀ acc, acc < 1000 + 60 * o → zE d kX12_others 6 [some (.ref 420), some (.int (nI s)), some (.int tm), some (.int (zbi (ov = true))), some (.int (nI acc)), some (.int (nI o)), none, none] [] Z I J (some (.int (nI (acc + zsum (fun m => zsum (fun i => (zoth ρ s tm ov (60 * m + i)).toNat) 0 (ρ (14 + m))) o (τ 0 0 - o)))), Z, I, J) := by
    refine zloop _ _ ?_ ?_
    · intro acc hacc
      refine BX12_others_6 _ _ _ _ _ hL ⟨by rw [hlv]; exact zvin hM.1.1 (by decide), fun _ => ?_, fun q => ?_⟩
      · rw [zsum_end]; rfl
      · rw [hlv, zclm (by omega), hn] at q; exact absurd (Int32.le_refl _) q
    · intro o ho ih acc hacc
      have e14 : (14 : Int32) + nI o = nI (14 + o) := zk14 rfl
      have inner : ∀ i, i ≤ ρ (14 + o) → ∀ a, a < 1000 + 60 * o + i → zE d kX12_others 23 [some (.ref 420), some (.int (nI s)), some (.int tm), some (.int (zbi (ov = true))), some (.int (nI a)), some (.int (nI o)), some (.int (nI i)), none] [] Z I J (some (.int (nI (a + zsum (fun i => (zoth ρ s tm ov (60 * o + i)).toNat) i (ρ (14 + o) - i) + zsum (fun m => zsum (fun i => (zoth ρ s tm ov (60 * m + i)).toNat) 0 (ρ (14 + m))) (o + 1) (τ 0 0 - (o + 1))))), Z, I, J) := by
        have hlo := hl60 o ho
        have hr14 : I 458 ((14 : Int32) + nI o).toNatClampNeg = nI (ρ (14 + o)) := by rw [e14, zclm (by omega)]; exact hR.at (by omega)
        have hv14 : vp_in ((14 : Int32) + nI o) 1290 := by rw [e14]; exact zvin (by omega) (by decide)
        refine zloop _ _ ?_ ?_
        · intro a ha
          refine BX12_others_23 _ _ _ _ _ _ hL ⟨hv14, fun _ => ?_, fun q => ?_⟩
          · rw [zsum_end, Nat.add_zero, zadd1]
            exact ih a (by omega)
          · rw [hr14] at q; exact absurd (Int32.le_refl _) q
        · intro i hi ih2 a ha
          have ey : ((60 : Int32) * nI o) + nI i = nI (60 * o + i) := by rw [show (60 : Int32) = nI 60 from rfl, zmul, zadd]
          have hq : 60 * o + i < 420 := by omega
          rw [zsum_lt hi]
          refine BX12_others_23 _ _ _ _ _ _ hL ⟨hv14, fun q => ?_, fun _ y1 e1 => ?_⟩
          · rw [hr14, zle' (by omega) (by omega)] at q; omega
          · rw [ey] at e1
            subst e1
            have e870 : (870 : Int32) + nI (60 * o + i) = nI (870 + (60 * o + i)) := zk14 rfl
            have e450 : (450 : Int32) + nI (60 * o + i) = nI (450 + (60 * o + i)) := zk14 rfl
            have r870 : I 458 ((870 : Int32) + nI (60 * o + i)).toNatClampNeg = nI (ρ (870 + (60 * o + i))) := by rw [e870, zclm (by omega)]; exact hR.at (by omega)
            have r450 : I 458 ((450 : Int32) + nI (60 * o + i)).toNatClampNeg = nI (ρ (450 + (60 * o + i))) := by rw [e450, zclm (by omega)]; exact hR.at (by omega)
            have v870 : vp_in ((870 : Int32) + nI (60 * o + i)) 1290 := by rw [e870]; exact zvin (by omega) (by decide)
            have v450 : vp_in ((450 : Int32) + nI (60 * o + i)) 1290 := by rw [e450]; exact zvin (by omega) (by decide)
            have b870 := hB (870 + (60 * o + i)) (by omega)
            -- the two ends
            have no : zoth ρ s tm ov (60 * o + i) = false → zE d kX12_others 23 [some (.ref 420), some (.int (nI s)), some (.int tm), some (.int (zbi (ov = true))), some (.int (nI a)), some (.int (nI o)), some (.int (nI i + 1)), none] [] Z I J (some (.int (nI (a + ((zoth ρ s tm ov (60 * o + i)).toNat + zsum (fun i => (zoth ρ s tm ov (60 * o + i)).toNat) (i + 1) (ρ (14 + o) - (i + 1))) + zsum (fun m => zsum (fun i => (zoth ρ s tm ov (60 * m + i)).toNat) 0 (ρ (14 + m))) (o + 1) (τ 0 0 - (o + 1))))), Z, I, J) := by
              intro h
              have := ih2 a (by omega)
              rw [zadd1, h, Bool.toNat_false, Nat.zero_add]
              exact this
            have yes : zoth ρ s tm ov (60 * o + i) = true → zE d kX12_others 23 [some (.ref 420), some (.int (nI s)), some (.int tm), some (.int (zbi (ov = true))), some (.int (nI a + 1)), some (.int (nI o)), some (.int (nI i + 1)), none] [] Z I J (some (.int (nI (a + ((zoth ρ s tm ov (60 * o + i)).toNat + zsum (fun i => (zoth ρ s tm ov (60 * o + i)).toNat) (i + 1) (ρ (14 + o) - (i + 1))) + zsum (fun m => zsum (fun i => (zoth ρ s tm ov (60 * m + i)).toNat) 0 (ρ (14 + m))) (o + 1) (τ 0 0 - (o + 1))))), Z, I, J) := by
              intro h
              have := ih2 (a + 1) (by omega)
              rw [zadd1, zadd1, h, Bool.toNat_true, ← Nat.add_assoc a 1]
              exact this
            refine ⟨v870, fun q => no ?_, fun q => ⟨fun q3 => ⟨v450, fun q4 => no ?_, fun q4 => yes ?_⟩, fun q3 => ⟨v450, fun q4 => no ?_, fun q4 => yes ?_⟩⟩⟩
            · rw [r870, zeq (by omega) (by omega)] at q; simp [zoth, q]
            all_goals rw [r870, zeq (by omega) (by omega)] at q
            all_goals rw [hov] at q3
            all_goals rw [r450] at q4
            · simp only [zoth, q, q3]; simpa using Int32.not_lt.mpr q4
            · simp only [zoth, q, q3]; simpa using Int32.not_le.mp q4
            · have q3 : ov = true := by simpa using q3
              simp only [zoth, q, q3]; simpa using Int32.not_lt.mpr q4
            · have q3 : ov = true := by simpa using q3
              simp only [zoth, q, q3]; simpa using Int32.not_le.mp q4
      have hin := inner 0 (Nat.zero_le _) acc (by omega)
      refine BX12_others_6 _ _ _ _ _ hL ⟨by rw [hlv]; exact zvin hM.1.1 (by decide), fun q => ?_, fun _ => ?_⟩
      · rw [hlv, zclm (by omega), hn, zle' (by omega) (by omega)] at q; omega
      · rw [zsum_lt ho, ← Nat.add_assoc]; exact hin
  have := outer 0 (Nat.zero_le _) 0 (by decide)
  rw [Nat.zero_add, Nat.sub_zero] at this
  exact BX12_others_0 _ _ _ hL this
theorem M_isMan (hL : zLY Z t u) {I : zI} {v : Nat} (hW : zTW τ Λ) (hM : zMT I v τ Λ) {x : Int32} : zE (d + 1) kX12_isMan 0 [some (.ref 420), some (.int x)] [] Z I J (some (.int (zbi (0 ≤ x ∧ x ≤ nI (τ 0 0) - 1))), Z, I, J) := by
  have hlv := hM.1.2
  refine BX12_isMan_0 _ hL ⟨by rw [hlv]; exact zvin hM.1.1 (by decide), zbi_nar, ?_⟩
  rw [hlv, zclm (by have := hM.1.1; omega), hM.2.1.1]
end
/-- an int names a man -/
theorem zman {n : Nat} (hn : n ≤ 7) (x : Int32) : (¬ (0 ≤ x ∧ x ≤ nI n - 1) ∧ (x < 0 ∨ nI n ≤ x)) ∨ ∃ m, m < n ∧ x = nI m := by
  rcases zix x (show n < 2147483648 by omega) with h | h
  · left
    refine ⟨?_, h⟩
    rintro ⟨h1, h2⟩
    rcases h with h | h
    · exact absurd h (Int32.not_lt.mpr h1)
    · cases n with
      | zero =>
        obtain ⟨j, hj, rfl⟩ := znI_ex x (Int32.not_lt.mpr h1)
        have e : nI 0 - 1 = -1 := by decide
        rw [e] at h2
        have : (0 : Int32) ≤ -1 := Int32.le_trans (znn hj) h2
        exact absurd this (by decide)
      | succ n =>
        rw [zsub1] at h2
        obtain ⟨j, hj, rfl⟩ := znI_ex x (Int32.not_lt.mpr h1)
        rw [zle' hj (by omega)] at h2
        rw [zle' (by omega) hj] at h
        omega
  · exact Or.inr h
theorem zman_t {n m : Nat} (hn : n ≤ 7) (h : m < n) : 0 ≤ nI m ∧ nI m ≤ nI n - 1 := by
  cases n with
  | zero => omega
  | succ n => rw [zsub1, zle' (by omega) (by omega)]; exact ⟨znn (by omega), by omega⟩

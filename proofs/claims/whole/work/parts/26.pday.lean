/-! a day, thought of alone: which PIECES lie, which is next under which, STEP, WIND, CUT -/
/-- a sum over all PIECES that lie -/
def zwt (ρ : Nat → Nat) (n : Nat) (g : Nat → Nat) : Nat := zsum (fun m => zsum (fun i => g (60 * m + i)) 0 (ρ (14 + m))) 0 n
abbrev zH (τ : Nat → Nat → Nat) (ρ : Nat → Nat) : Prop := τ 0 0 ≤ 7 ∧ ∀ m, m < τ 0 0 → ρ (14 + m) ≤ 60
theorem zDW.h {τ : Nat → Nat → Nat} {Λ : Nat → Option zLaw} {ρ : Nat → Nat} (h : zDW τ ρ) (hW : zTW τ Λ) : zH τ ρ := ⟨hW.1.1, fun m hm => Nat.le_trans (h.dl m hm) (hW.2.1 m hm).2.2.2.2.1⟩
theorem zlive_mk {τ : Nat → Nat → Nat} {ρ : Nat → Nat} (hH : zH τ ρ) {m i : Nat} (hm : m < τ 0 0) (hi : i < ρ (14 + m)) : zlive τ ρ (60 * m + i) := by
  have := hH.2 m hm
  have e1 : (60 * m + i) / 60 = m := by omega
  have e2 : (60 * m + i) % 60 = i := by omega
  unfold zlive; rw [e1, e2]; exact ⟨hm, hi⟩
theorem zlive_lt {τ : Nat → Nat → Nat} {ρ : Nat → Nat} (hH : zH τ ρ) {q : Nat} (h : zlive τ ρ q) : q < 420 := by
  have := h.1; have := hH.1; omega
theorem zlive_own {τ : Nat → Nat → Nat} {ρ : Nat → Nat} {q : Nat} (h : zlive τ ρ q) : ∃ m i, m < τ 0 0 ∧ i < ρ (14 + m) ∧ q = 60 * m + i ∧ m = q / 60 := ⟨q / 60, q % 60, h.1, h.2, by omega, rfl⟩
theorem zwt_congr {τ : Nat → Nat → Nat} {ρ : Nat → Nat} (hH : zH τ ρ) {f g : Nat → Nat} (h : ∀ q, zlive τ ρ q → f q = g q) : zwt ρ (τ 0 0) f = zwt ρ (τ 0 0) g :=
  zsum_congr fun m _ hm => zsum_congr fun i _ hi => h _ (zlive_mk hH (by omega) (by omega))
theorem zwt_add {ρ : Nat → Nat} {n : Nat} {f g : Nat → Nat} : zwt ρ n (fun q => f q + g q) = zwt ρ n f + zwt ρ n g := by
  unfold zwt
  rw [← zsum_add]
  exact zsum_congr fun m _ _ => zsum_add
theorem zwt_le {τ : Nat → Nat → Nat} {ρ : Nat → Nat} (hH : zH τ ρ) {f g : Nat → Nat} (h : ∀ q, zlive τ ρ q → f q ≤ g q) : zwt ρ (τ 0 0) f ≤ zwt ρ (τ 0 0) g :=
  zsum_mono fun m _ hm => zsum_mono fun i _ hi => h _ (zlive_mk hH (by omega) (by omega))
theorem zwt_0 {τ : Nat → Nat → Nat} {ρ : Nat → Nat} (hH : zH τ ρ) {f : Nat → Nat} (h : ∀ q, zlive τ ρ q → f q = 0) : zwt ρ (τ 0 0) f = 0 :=
  zsum_0 fun m _ hm => zsum_0 fun i _ hi => h _ (zlive_mk hH (by omega) (by omega))
theorem zwt_ge {τ : Nat → Nat → Nat} {ρ : Nat → Nat} {f : Nat → Nat} {q : Nat} (h : zlive τ ρ q) : f q ≤ zwt ρ (τ 0 0) f := by
  obtain ⟨m, i, hm, hi, rfl, -⟩ := zlive_own h
  exact Nat.le_trans (zsum_ge1 (f := fun i => f (60 * m + i)) (Nat.zero_le _) (by omega)) (zsum_ge1 (f := fun m => zsum (fun i => f (60 * m + i)) 0 (ρ (14 + m))) (Nat.zero_le _) (by omega))
theorem zsum_delta {c j0 i k : Nat} : zsum (fun j => if j = j0 then c else 0) i k = if i ≤ j0 ∧ j0 < i + k then c else 0 := by
  induction k generalizing i with
  | zero => rw [if_neg (by omega)]; rfl
  | succ k ih =>
    simp only [zsum]
    rw [ih]
    by_cases h : i = j0
    · rw [if_pos h, if_neg (by omega), if_pos (by omega)]; omega
    · rw [if_neg h]
      by_cases h2 : i + 1 ≤ j0 ∧ j0 < i + 1 + k
      · rw [if_pos h2, if_pos (by omega)]; omega
      · rw [if_neg h2, if_neg (by omega)]
theorem zwt_delta {τ : Nat → Nat → Nat} {ρ : Nat → Nat} (hH : zH τ ρ) {q0 c : Nat} (h : zlive τ ρ q0) : zwt ρ (τ 0 0) (fun q => if q = q0 then c else 0) = c := by
  have e : zwt ρ (τ 0 0) (fun q => if q = q0 then c else 0) = zsum (fun m => if m = q0 / 60 then c else 0) 0 (τ 0 0) := by
    refine zsum_congr fun m _ hm => ?_
    have := hH.2 m (by omega)
    have e2 : zsum (fun i => if 60 * m + i = q0 then c else 0) 0 (ρ (14 + m)) = zsum (fun i => if i = q0 % 60 then (if m = q0 / 60 then c else 0) else 0) 0 (ρ (14 + m)) := by
      refine zsum_congr fun i _ hi => ?_
      by_cases q : 60 * m + i = q0
      · rw [if_pos q, if_pos (by omega), if_pos (by omega)]
      · rw [if_neg q]
        by_cases q2 : i = q0 % 60
        · rw [if_pos q2, if_neg (by omega)]
        · rw [if_neg q2]
    rw [e2, zsum_delta]
    by_cases q : m = q0 / 60
    · subst q; rw [if_pos rfl, if_pos ⟨Nat.zero_le _, by have := h.2; omega⟩]
    · rw [if_neg q, ite_self]
  rw [e, zsum_delta, if_pos ⟨Nat.zero_le _, by have := h.1; omega⟩]
/-- a PIECE on a street, laid ahead of a time -/
def zblw (ρ : Nat → Nat) (s T q : Nat) : Bool := decide (ρ (870 + q) = s) && decide (ρ (450 + q) < T)
theorem zblw_iff {ρ : Nat → Nat} {s T q : Nat} : zblw ρ s T q = true ↔ ρ (870 + q) = s ∧ ρ (450 + q) < T := by unfold zblw; simp
/-- of a street, the uppermost PIECE that was laid ahead of a time (its number and 1 more); 0: none -/
def zbel (τ : Nat → Nat → Nat) (ρ : Nat → Nat) (s T v : Nat) : Prop :=
  (v = 0 ∧ ∀ q, zlive τ ρ q → ρ (870 + q) = s → ¬ ρ (450 + q) < T) ∨
  ∃ q, v = q + 1 ∧ zlive τ ρ q ∧ ρ (870 + q) = s ∧ ρ (450 + q) < T ∧ ∀ q', zlive τ ρ q' → ρ (870 + q') = s → ρ (450 + q') < T → ρ (450 + q') ≤ ρ (450 + q)
/-- no two PIECES were laid at once -/
abbrev zTU (τ : Nat → Nat → Nat) (ρ : Nat → Nat) : Prop := ∀ q q', zlive τ ρ q → zlive τ ρ q' → ρ (450 + q) = ρ (450 + q') → q = q'
/-- a sum over the PIECES of a street that were laid ahead of a time -/
def zwU (τ : Nat → Nat → Nat) (ρ : Nat → Nat) (s T : Nat) (f : Nat → Nat) : Nat := zwt ρ (τ 0 0) (fun q => if zblw ρ s T q = true then f q else 0)
section
variable {τ : Nat → Nat → Nat} {ρ : Nat → Nat}
theorem zbel_q {s T q : Nat} (h : zbel τ ρ s T (q + 1)) : zlive τ ρ q ∧ ρ (870 + q) = s ∧ ρ (450 + q) < T ∧ ∀ q', zlive τ ρ q' → ρ (870 + q') = s → ρ (450 + q') < T → ρ (450 + q') ≤ ρ (450 + q) := by
  rcases h with ⟨h, -⟩ | ⟨q', h, h2⟩
  · omega
  · obtain rfl : q = q' := by omega
    exact h2
theorem zbel_0 {s T : Nat} (h : zbel τ ρ s T 0) : ∀ q, zlive τ ρ q → ρ (870 + q) = s → ¬ ρ (450 + q) < T := by
  rcases h with ⟨-, h⟩ | ⟨q', h, h2⟩
  · exact h
  · omega
theorem zbel_lt (hH : zH τ ρ) {s T v : Nat} (h : zbel τ ρ s T v) : v < 421 := by
  rcases h with ⟨h, -⟩ | ⟨q', h, h2, -⟩
  · omega
  · have := zlive_lt hH h2; omega
theorem zwU_0 (hH : zH τ ρ) {s T : Nat} {f : Nat → Nat} (h : zbel τ ρ s T 0) : zwU τ ρ s T f = 0 :=
  zwt_0 hH fun q hq => by
    rw [if_neg]
    intro h2
    obtain ⟨h3, h4⟩ := zblw_iff.mp h2
    exact zbel_0 h q hq h3 h4
theorem zwU_s (hH : zH τ ρ) (hU : zTU τ ρ) {s T q : Nat} {f : Nat → Nat} (h : zbel τ ρ s T (q + 1)) : zwU τ ρ s T f = f q + zwU τ ρ s (ρ (450 + q)) f := by
  obtain ⟨h1, h2, h3, h4⟩ := zbel_q h
  have hd := zwt_delta (c := f q) hH h1
  have e : zwU τ ρ s T f = zwt ρ (τ 0 0) (fun q' => (if q' = q then f q else 0) + if zblw ρ s (ρ (450 + q)) q' = true then f q' else 0) := ?_
  · rw [e, zwt_add, hd]; rfl
  refine zwt_congr hH fun q' hq' => ?_
  by_cases e : q' = q
  · subst e
    rw [if_pos (zblw_iff.mpr ⟨h2, h3⟩), if_pos rfl, if_neg]
    · rfl
    · intro z; have := (zblw_iff.mp z).2; omega
  · rw [if_neg e, Nat.zero_add]
    by_cases z : zblw ρ s T q' = true
    · rw [if_pos z, if_pos]
      obtain ⟨z1, z2⟩ := zblw_iff.mp z
      have := h4 q' hq' z1 z2
      rcases Nat.lt_or_eq_of_le this with y | y
      · exact zblw_iff.mpr ⟨z1, y⟩
      · exact absurd (hU q' q hq' h1 y) e
    · rw [if_neg z, if_neg]
      intro y
      obtain ⟨y1, y2⟩ := zblw_iff.mp y
      exact z (zblw_iff.mpr ⟨y1, by omega⟩)
/-- how many PIECES of a street were laid ahead of a time -/
abbrev zcb (τ : Nat → Nat → Nat) (ρ : Nat → Nat) (s T : Nat) : Nat := zwU τ ρ s T (fun _ => 1)
theorem zcb_le (hH : zH τ ρ) {s T : Nat} : zcb τ ρ s T ≤ 420 := by
  have h1 : zcb τ ρ s T ≤ zwt ρ (τ 0 0) (fun _ => 1) := zwt_le hH fun q _ => by split <;> simp
  have h2 : zwt ρ (τ 0 0) (fun _ => 1) ≤ 60 * τ 0 0 := zsum_le fun m _ hm => by
    have h3 := zsum_le (f := fun _ => 1) (b := 1) (i := 0) (k := ρ (14 + m)) (fun _ _ _ => Nat.le_refl _)
    have h4 := hH.2 m (by omega)
    exact Nat.le_trans h3 (by omega)
  have := hH.1
  omega
theorem zoth_b (hB : zRB ρ) {s T q : Nat} (hq : q < 420) (hT : T < 2147483648) : zoth ρ s (nI T) false q = zblw ρ s T q := by
  have := hB (450 + q) (by omega)
  unfold zoth zblw
  congr 1
  simp only [Bool.false_eq_true, if_false]
  exact decide_eq_decide.mpr (zlt (by omega) hT)
theorem zct_b (hH : zH τ ρ) (hB : zRB ρ) {s T : Nat} (hT : T < 2147483648) : zct ρ (τ 0 0) (zoth ρ s (nI T) false) = zcb τ ρ s T := by
  refine zwt_congr hH (f := fun q => (zoth ρ s (nI T) false q).toNat) fun q hq => ?_
  rw [zoth_b hB (zlive_lt hH hq) hT]
  cases zblw ρ s T q <;> simp
/-- the STREET's number in the class -/
def zenc (s : Nat) : Nat := if s < 144 then 2 * s else 2 * (s - 144) + 1
theorem zenc_lt {s : Nat} (h : s < 288) : zenc s < 288 := by unfold zenc; split <;> omega
theorem zenc_inj {a b : Nat} (h : zenc a = zenc b) : a = b := by
  unfold zenc at h
  split at h <;> split at h <;> omega
theorem zenc_sur {c : Nat} (h : c < 288) : ∃ s, s < 288 ∧ zenc s = c := by
  by_cases h2 : c % 2 = 0
  · exact ⟨c / 2, by omega, by unfold zenc; rw [if_pos (by omega)]; omega⟩
  · exact ⟨c / 2 + 144, by omega, by unfold zenc; rw [if_neg (by omega)]; omega⟩
theorem zsn_lt {x y w : Nat} (hx : x < 12) (hy : y < 12) (hw1 : 1 ≤ w) (hw4 : w ≤ 4) : zsn x y w < 288 := by
  unfold zsn; split
  · omega
  · split
    · omega
    · split <;> omega
theorem zscI {x y w : Nat} (hx : x < 12) (hy : y < 12) (hw1 : 1 ≤ w) (hw4 : w ≤ 4) (h3 : w = 3 → 1 ≤ y) (h4 : w = 4 → 1 ≤ x) : zsc (nI x) (nI y) (nI w) = nI (zenc (zsn x y w)) := by
  have l12 : (12 : Int32) = nI 12 := rfl
  have l2 : (2 : Int32) = nI 2 := rfl
  obtain rfl | rfl | rfl | rfl : w = 1 ∨ w = 2 ∨ w = 3 ∨ w = 4 := by omega
  · have e1 : zsn x y 1 = 144 + (12 * y + x) := by unfold zsn; rw [if_pos rfl]
    have e2 : zenc (zsn x y 1) = 2 * (y * 12 + x) + 1 := by rw [e1]; unfold zenc; rw [if_neg (by omega)]; omega
    rw [e2]; unfold zsc
    rw [if_neg (by decide), if_neg (by decide), show nI 1 &&& 1 = nI 1 by decide, l12, zmul, zadd, l2, zmul, zadd]
  · have e1 : zsn x y 2 = 12 * y + x := by unfold zsn; rw [if_neg (by decide), if_pos rfl]
    have e2 : zenc (zsn x y 2) = 2 * (y * 12 + x) + 0 := by rw [e1]; unfold zenc; rw [if_pos (by omega)]; omega
    rw [e2]; unfold zsc
    rw [if_neg (by decide), if_neg (by decide), show nI 2 &&& 1 = nI 0 by decide, l12, zmul, zadd, l2, zmul, zadd]
  · obtain ⟨b, rfl⟩ : ∃ b, y = b + 1 := ⟨y - 1, by have := h3 rfl; omega⟩
    have e1 : zsn x (b + 1) 3 = 144 + (12 * b + x) := by unfold zsn; rw [if_neg (by decide), if_neg (by decide), if_pos rfl]; rfl
    have e2 : zenc (zsn x (b + 1) 3) = 2 * (b * 12 + x) + 1 := by rw [e1]; unfold zenc; rw [if_neg (by omega)]; omega
    rw [e2]; unfold zsc
    rw [if_pos (by decide), if_neg (by decide), show nI 3 &&& 1 = nI 1 by decide, zsub1, l12, zmul, zadd, l2, zmul, zadd]
  · obtain ⟨b, rfl⟩ : ∃ b, x = b + 1 := ⟨x - 1, by have := h4 rfl; omega⟩
    have e1 : zsn (b + 1) y 4 = 12 * y + b := by unfold zsn; rw [if_neg (by decide), if_neg (by decide), if_neg (by decide)]; rfl
    have e2 : zenc (zsn (b + 1) y 4) = 2 * (y * 12 + b) + 0 := by rw [e1]; unfold zenc; rw [if_pos (by omega)]; omega
    rw [e2]; unfold zsc
    rw [if_neg (by decide), if_pos (by decide), show nI 4 &&& 1 = nI 0 by decide, zsub1, l12, zmul, zadd, l2, zmul, zadd]
end

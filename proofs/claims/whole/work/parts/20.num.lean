/-! numbers: Int32 against Nat; reads and writes of the memory -/
theorem nI_lit0 : (0 : Int32) = nI 0 := rfl
theorem nI_lt31 {n : Nat} (h : n < 2147483648) : n < 2 ^ 31 := h
theorem zlt {a b : Nat} (ha : a < 2147483648) (hb : b < 2147483648) : nI a < nI b ↔ a < b := nI_ltI ha hb
theorem zle' {a b : Nat} (ha : a < 2147483648) (hb : b < 2147483648) : nI a ≤ nI b ↔ a ≤ b := nI_leI ha hb
theorem zeq {a b : Nat} (ha : a < 2147483648) (hb : b < 2147483648) : nI a = nI b ↔ a = b := nI_eq ha hb
theorem zn0 {a : Nat} (ha : a < 2147483648) : nI a = 0 ↔ a = 0 := by rw [nI_lit0, zeq ha (by decide)]
theorem zneg {a : Nat} (ha : a < 2147483648) : ¬ nI a < 0 := nI_pos ha
theorem znn {a : Nat} (ha : a < 2147483648) : (0 : Int32) ≤ nI a := nI_pos' ha
theorem zclm {a : Nat} (ha : a < 2147483648) : (nI a).toNatClampNeg = a := nI_clamp ha
theorem zvin {a n : Nat} (h : a < n) (hn : n < 2147483648) : vp_in (nI a) n := vp_in_nI h hn
theorem zsub1 (n : Nat) : nI (n + 1) - 1 = nI n := nI_pred n
theorem zadd1 (n : Nat) : nI n + 1 = nI (n + 1) := nI_1 n
theorem zatI {I : zI} {a n k : Nat} (h : k < n) (hn : n < 2147483648) : zat I a n (nI k) = I a k := by
  unfold zat
  rw [if_pos ⟨znn (by omega), (zlt (by omega) hn).mpr h⟩, zclm (by omega)]
theorem zatO {I : zI} {a n k : Nat} (h : n ≤ k) (hn : k < 2147483648) : zat I a n (nI k) = 0 := by
  unfold zat
  rw [if_neg]
  rintro ⟨-, q⟩
  have := (zlt hn (by omega)).mp q
  omega
theorem zatN {I : zI} {a n : Nat} {x : Int32} (h : x < 0) : zat I a n x = 0 := by
  unfold zat
  rw [if_neg]
  rintro ⟨q, -⟩
  exact absurd h (Int32.not_lt.mpr q)
theorem zptI {I : zI} {a n k : Nat} {v : Int32} (h : k < n) (hn : n < 2147483648) : zpt I a n (nI k) v = zu I a k v := by
  unfold zpt
  rw [if_pos ⟨znn (by omega), (zlt (by omega) hn).mpr h⟩, zclm (by omega)]
theorem zptO {I : zI} {a n k : Nat} {v : Int32} (h : n ≤ k) (hn : k < 2147483648) : zpt I a n (nI k) v = I := by
  unfold zpt
  rw [if_neg]
  rintro ⟨-, q⟩
  have := (zlt hn (by omega)).mp q
  omega
theorem zu_eq {β : Type} {I : Nat → Nat → β} {a k : Nat} {v : β} : zu I a k v a k = v := by unfold zu; rw [if_pos ⟨rfl, rfl⟩]
theorem zu_a {β : Type} {I : Nat → Nat → β} {a k b j : Nat} {v : β} (h : b ≠ a) : zu I a k v b j = I b j := by unfold zu; rw [if_neg (fun q => h q.1)]
theorem zu_k {β : Type} {I : Nat → Nat → β} {a k b j : Nat} {v : β} (h : j ≠ k) : zu I a k v b j = I b j := by unfold zu; rw [if_neg (fun q => h q.2)]
theorem zu_if {β : Type} {I : Nat → Nat → β} {a k b j : Nat} {v : β} : zu I a k v b j = if b = a ∧ j = k then v else I b j := rfl
theorem zpt_a {I : zI} {a n b j : Nat} {x v : Int32} (h : b ≠ a) : zpt I a n x v b j = I b j := by
  unfold zpt; split
  · exact zu_a h
  · rfl
theorem zpcI {m i : Nat} : zpc (nI m) (nI i) = nI (60 * m + i + 1) := by
  unfold zpc
  rw [show (60 : Int32) = nI 60 from rfl, pk_mul, nI_add, zadd1, Nat.mul_comm]
theorem zowI {q : Nat} (h : q < 2147483647) : zow (nI (q + 1)) = nI (q / 60) := by
  unfold zow
  rw [zsub1, show (60 : Int32) = nI 60 from rfl, pk_div (by omega) (by decide) (by decide)]
theorem zow0 : zow 0 = 0 := by decide
theorem znI_ex (x : Int32) (h : ¬ x < 0) : ∃ j : Nat, j < 2147483648 ∧ x = nI j := nI_of h
/-- an int that names one of n things, or none -/
theorem zix (x : Int32) {n : Nat} (hn : n < 2147483648) : (x < 0 ∨ nI n ≤ x) ∨ ∃ j : Nat, j < n ∧ x = nI j := by
  rcases pk_ix x hn with h | h | h
  · exact Or.inl (Or.inl h)
  · exact Or.inl (Or.inr h)
  · exact Or.inr h
theorem zsub {a b : Nat} (h : b ≤ a) : nI a - nI b = nI (a - b) := pk_sub h
theorem zmul (a b : Nat) : nI a * nI b = nI (a * b) := pk_mul a b
theorem zadd (a b : Nat) : nI a + nI b = nI (a + b) := nI_add a b
theorem zdiv {a d : Nat} (ha : a < 2147483648) (h0 : 0 < d) (hd : d < 2147483648) : nI a / nI d = nI (a / d) := pk_div ha h0 hd
theorem zrem {a d : Nat} (ha : a < 2147483648) (h0 : 0 < d) (hd : d < 2147483648) : nI a - nI a / nI d * nI d = nI (a % d) := pk_rem ha h0 hd
/-- a loop that counts up: from i to e -/
theorem zloop (P : Nat → Prop) (e : Nat) (hx : P e) (hs : ∀ i, i < e → P (i + 1) → P i) : ∀ i, i ≤ e → P i := by
  intro i hi
  induction h : e - i generalizing i with
  | zero => rw [show i = e by omega]; exact hx
  | succ k ih => exact hs i (by omega) (ih (i + 1) (by omega) (by omega))
theorem zapI {a b : Nat} (ha : a < 2147483648) (hb : b < 2147483648) : zap (nI a) (nI b) = nI (if a < b then b - a else a - b) := by
  unfold zap
  by_cases h : a < b
  · rw [if_pos ((zlt ha hb).mpr h), if_pos h, zsub (by omega)]
  · rw [if_neg (fun q => h ((zlt ha hb).mp q)), if_neg h, zsub (by omega)]

/-! what the small methods answer -/
def zbi (p : Prop) [Decidable p] : Int32 := if p then 1 else 0
theorem zbi_t {p : Prop} [Decidable p] (h : p) : zbi p = 1 := if_pos h
theorem zbi_f {p : Prop} [Decidable p] (h : ¬ p) : zbi p = 0 := if_neg h
theorem zbi_eq0 {p : Prop} [Decidable p] : zbi p = 0 ↔ ¬ p := by
  unfold zbi; split <;> simp_all
theorem zbi_ne0 {p : Prop} [Decidable p] : ¬ zbi p = 0 ↔ p := by
  unfold zbi; split <;> simp_all
theorem zbi_nar {p : Prop} [Decidable p] : narrow .boolean (.int (zbi p)) = .int (zbi p) := by
  unfold zbi; split <;> rfl
theorem zs_o3 {v : Value} {w : Value} {Z : zZ} {I : zI} {J : zJ} (h : v = w) : ((some v, Z, I, J) : zO) = (some w, Z, I, J) := by rw [h]
def zpc (m i : Int32) : Int32 := ((m * 60) + i) + 1
def zow (p : Int32) : Int32 := (p - 1) / 60
/-- the class's number of a street -/
def zsc (x y w : Int32) : Int32 := (2 * (((if w = 3 then y - 1 else y) * 12) + (if w = 4 then x - 1 else x))) + (w &&& 1)
/-- the reference's -/
def zsm (x y w : Int32) : Int32 := ((12 * (if w = 3 then y - 1 else y)) + (if w = 4 then x - 1 else x)) + (if w = 1 ∨ w = 3 then 144 else 0)
def zstir (h w : Int32) : Int32 := ((((h ^^^ w) * 1103515245) + 12345)) ^^^ (((((h ^^^ w) * 1103515245) + 12345).toUInt32 >>> (Int32.toUInt32 15 &&& Int32.toUInt32 31)).toInt32)
def zbind (s : Int32) : Int32 := if s = 42 ∨ s = 47 then 2 else if s = 43 ∨ s = 45 then 1 else 0
def zap (a b : Int32) : Int32 := if a < b then b - a else a - b
def zdx (w : Int32) : Int32 := if w = 2 then 1 else if w = 4 then -1 else 0
def zdy (w : Int32) : Int32 := if w = 1 then 1 else if w = 3 then -1 else 0
def zapp (n : Int64) (c : Int32) : Int64 := if c = 0 then n else (27 * n) + ((c - 97) + 1).toInt64
section
variable {d : Nat} {Z : zZ} {I : zI} {J : zJ}
theorem z_vin {n : Nat} {i : Int32} (hn : n < 2 ^ 31) (h0 : ¬ i < 0) (h1 : ¬ Int32.ofNat n ≤ i) : vp_in i n := by
  rcases pk_ix i hn with h | h | ⟨j, hj, rfl⟩
  · exact absurd h h0
  · exact absurd h h1
  · exact vp_in_nI hj hn
theorem S_at' {a n : Nat} {i : Int32} (hn : n < 2 ^ 31) (h : zis Z a 1 n) : zE d kX11_at 0 [some (.ref a), some (.int i)] [] Z I J (some (.int (zat I a n i)), Z, I, J) := by
  refine BX11_at_0 _ h ⟨fun c => ?_, fun c => ⟨fun c2 => ?_, fun c2 => ⟨z_vin hn c c2, ?_⟩⟩⟩
  · refine zs_o3 (congrArg Value.int ?_); unfold zat; rw [if_neg]; rintro ⟨q, -⟩; exact absurd c (Int32.not_lt.mpr q)
  · refine zs_o3 (congrArg Value.int ?_); unfold zat; rw [if_neg]; rintro ⟨-, q⟩; exact absurd c2 (Int32.not_le.mpr q)
  · refine zs_o3 (congrArg Value.int ?_); unfold zat; rw [if_pos ⟨Int32.not_lt.mp c, Int32.not_le.mp c2⟩]
theorem z_small {a kd n : Nat} (h : zis Z a kd n) (hz : n < 2 ^ 31 := by decide) : n < 2 ^ 31 := hz
theorem S_put' {a n : Nat} {i v : Int32} (hn : n < 2 ^ 31) (h : zis Z a 1 n) : zE d kX11_put 0 [some (.ref a), some (.int i), some (.int v)] [] Z I J (none, Z, zpt I a n i v, J) := by
  refine BX11_put_0 _ _ h ⟨fun c => ?_, fun c => ⟨fun c2 => ?_, fun c2 => ⟨z_vin hn c c2, fun I1 e1 => ?_⟩⟩⟩
  · unfold zpt; rw [if_neg]; rintro ⟨q, -⟩; exact absurd c (Int32.not_lt.mpr q)
  · unfold zpt; rw [if_neg]; rintro ⟨-, q⟩; exact absurd c2 (Int32.not_le.mpr q)
  · unfold zpt; rw [if_pos ⟨Int32.not_lt.mp c, Int32.not_le.mp c2⟩, e1]
theorem S_pieceOf {x y : Int32} : zE d kX11_pieceOf 0 [some (.int x), some (.int y)] [] Z I J (some (.int (zpc x y)), Z, I, J) := BX11_pieceOf_0 _ _ rfl
theorem S_ownerOf {x : Int32} : zE d kX11_ownerOf 0 [some (.int x)] [] Z I J (some (.int (zow x)), Z, I, J) := BX11_ownerOf_0 _ rfl
theorem S_streetOf {x y w : Int32} : zE d kX11_streetOf 0 [some (.int x), some (.int y), some (.int w), none, none] [] Z I J (some (.int (zsc x y w)), Z, I, J) := by
  refine BX11_streetOf_0 _ _ _ ⟨fun c => ⟨fun c2 => ?_, fun c2 => ?_⟩, fun c => ⟨fun c2 => ?_, fun c2 => ?_⟩⟩
  · simp [zsc, c, c2]
  · simp [zsc, c2]
  · simp [zsc, c]
  · exact absurd (c.symm.trans c2) (by decide)
theorem M_streetOf {x y w : Int32} : zE d kX12_streetOf 0 [some (.int x), some (.int y), some (.int w), none, none] [] Z I J (some (.int (zsm x y w)), Z, I, J) := by
  refine BX12_streetOf_0 _ _ _ ⟨fun c => ⟨fun c2 => ⟨fun c3 => ?_, fun c3 => ⟨fun c4 => ?_, fun c4 => ?_⟩⟩, fun c2 => ⟨fun c3 => ?_, fun c3 => ⟨fun c4 => ?_, fun c4 => ?_⟩⟩⟩, fun c => ⟨fun c2 => ⟨fun c3 => ?_, fun c3 => ⟨fun c4 => ?_, fun c4 => ?_⟩⟩, fun c2 => ⟨fun c3 => ?_, fun c3 => ⟨fun c4 => ?_, fun c4 => ?_⟩⟩⟩⟩
  · subst c3; simp [zsm]
  · simp [zsm, c, c2, c3]
  · exact absurd c4 c2
  · exact absurd (c2.symm.trans c3) (by decide)
  · exact absurd c2 c4
  · subst c2; simp [zsm]
  · exact absurd (c.symm.trans c3) (by decide)
  · subst c; simp [zsm]
  · exact absurd c4 c2
  · exact absurd (c.symm.trans c2) (by decide)
  · exact absurd (c.symm.trans c2) (by decide)
  · exact absurd (c.symm.trans c2) (by decide)
theorem S_stir {x y : Int32} : zE d kX11_stir 0 [some (.int x), some (.int y), none] [] Z I J (some (.int (zstir x y)), Z, I, J) := by
  refine BX11_stir_0 _ _ (fun y1 e => ?_); subst e; rfl
theorem S_bindingOf {x : Int32} : zE d kX5_bindingOf 0 [some (.int x)] [] Z I J (some (.int (zbind x)), Z, I, J) := by
  refine BX5_bindingOf_0 _ ⟨fun c => ?_, fun c => ⟨fun c2 => ⟨fun c3 => ?_, fun c3 => ⟨fun c4 => ?_, fun c4 => ?_⟩⟩, fun c2 => ?_⟩⟩ <;> simp_all [zbind]
theorem S_isBlank {x : Int32} : zE d kX8_isBlank 0 [some (.int x)] [] Z I J (some (.int (zbi (x = 9 ∨ x = 10 ∨ x = 13 ∨ x = 32))), Z, I, J) := by
  refine BX8_isBlank_0 _ ⟨fun c => ?_, fun c => ⟨fun c2 => ?_, fun c2 => ⟨fun c3 => ?_, fun c3 => ⟨fun c4 => ?_, fun c4 => ?_⟩⟩⟩⟩ <;> simp_all [zbi]
theorem S_isLetter {x : Int32} : zE d kX8_isLetter 0 [some (.int x)] [] Z I J (some (.int (zbi (97 ≤ x ∧ x ≤ 122))), Z, I, J) := by
  refine BX8_isLetter_0 _ ⟨fun c => ?_, fun c => ⟨fun c2 => ?_, fun c2 => ?_⟩⟩
  · rw [zbi_f (fun q => Int32.not_le.mpr c q.1)]
  · rw [zbi_f (fun q => Int32.not_le.mpr c2 q.2)]
  · rw [zbi_t ⟨Int32.not_lt.mp c, Int32.not_lt.mp c2⟩]
theorem S_isDigit {x : Int32} : zE d kX8_isDigit 0 [some (.int x)] [] Z I J (some (.int (zbi (48 ≤ x ∧ x ≤ 57))), Z, I, J) := by
  refine BX8_isDigit_0 _ ⟨fun c => ?_, fun c => ⟨fun c2 => ?_, fun c2 => ?_⟩⟩
  · rw [zbi_f (fun q => Int32.not_le.mpr c q.1)]
  · rw [zbi_f (fun q => Int32.not_le.mpr c2 q.2)]
  · rw [zbi_t ⟨Int32.not_lt.mp c, Int32.not_lt.mp c2⟩]
theorem M_isLetter {x : Int32} : zE d kX12_isLetter 0 [some (.int x)] [] Z I J (some (.int (zbi (97 ≤ x ∧ x ≤ 122))), Z, I, J) := by
  refine BX12_isLetter_0 _ ⟨fun c => ?_, fun c => ⟨fun c2 => ?_, fun c2 => ?_⟩⟩
  · rw [zbi_f (fun q => Int32.not_le.mpr c q.1)]
  · rw [zbi_f (fun q => Int32.not_le.mpr c2 q.2)]
  · rw [zbi_t ⟨Int32.not_lt.mp c, Int32.not_lt.mp c2⟩]
theorem M_isDigit {x : Int32} : zE d kX12_isDigit 0 [some (.int x)] [] Z I J (some (.int (zbi (48 ≤ x ∧ x ≤ 57))), Z, I, J) := by
  refine BX12_isDigit_0 _ ⟨fun c => ?_, fun c => ⟨fun c2 => ?_, fun c2 => ?_⟩⟩
  · rw [zbi_f (fun q => Int32.not_le.mpr c q.1)]
  · rw [zbi_f (fun q => Int32.not_le.mpr c2 q.2)]
  · rw [zbi_t ⟨Int32.not_lt.mp c, Int32.not_lt.mp c2⟩]
theorem M_in {x y w : Int32} : zE d kX12_in 0 [some (.int x), some (.int y), some (.int w)] [] Z I J (some (.int (zbi (y ≤ x ∧ x ≤ w))), Z, I, J) := by
  refine BX12_in_0 _ _ _ ⟨fun c => ?_, fun c => ⟨fun c2 => ?_, fun c2 => ?_⟩⟩
  · rw [zbi_f (fun q => Int32.not_le.mpr c q.1)]
  · rw [zbi_f (fun q => Int32.not_le.mpr c2 q.2)]
  · rw [zbi_t ⟨Int32.not_lt.mp c, Int32.not_lt.mp c2⟩]
theorem M_appends {w : Int64} {x : Int32} : zE d kX12_appends 0 [some (.long w), none, some (.int x)] [] Z I J (some (.long (zapp w x)), Z, I, J) := by
  refine BX12_appends_0 _ _ ⟨fun c => ?_, fun c => ?_⟩ <;> simp [zapp, c]
theorem M_apart {x y : Int32} : zE d kX12_apart 0 [some (.int x), some (.int y)] [] Z I J (some (.int (zap x y)), Z, I, J) := by
  refine BX12_apart_0 _ _ ⟨fun c => ?_, fun c => ?_⟩
  · unfold zap; rw [if_neg (Int32.not_lt.mpr c)]
  · unfold zap; rw [if_pos (Int32.not_le.mp c)]
theorem M_dx {x : Int32} : zE d kX12_dx 0 [some (.int x)] [] Z I J (some (.int (zdx x)), Z, I, J) := by
  refine BX12_dx_0 _ ⟨fun c => ⟨fun c2 => ?_, fun c2 => ?_⟩, fun c => ?_⟩ <;> simp_all [zdx]
theorem M_dy {x : Int32} : zE d kX12_dy 0 [some (.int x)] [] Z I J (some (.int (zdy x)), Z, I, J) := by
  refine BX12_dy_0 _ ⟨fun c => ⟨fun c2 => ?_, fun c2 => ?_⟩, fun c => ?_⟩ <;> simp_all [zdy]
theorem M_mixed {x y : Int32} : zE d kX12_mixed 0 [some (.int x), some (.int y), none] [] Z I J (some (.int (zstir x y)), Z, I, J) := by
  refine BX12_mixed_0 _ _ (fun y1 e => ?_); subst e; rfl
end

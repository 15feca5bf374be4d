/-! WAYS on the class's side -/
section
variable {d : Nat} {Z : zZ} {J : zJ} {I I' : zI} {t u v b : Nat} {τ : Nat → Nat → Nat} {Λ : Nat → Option zLaw} {ρ : Nat → Nat}
theorem zbf_some {f : Nat → zWo} {p : Nat × List Nat} : ∀ n, zbf f n = some p → ∃ i, i < n ∧ f i = some p := by
  intro n
  induction n with
  | zero => intro h; exact absurd h (by simp [zbf])
  | succ n ih =>
    intro h
    simp only [zbf] at h
    cases h1 : zbf f n with
    | none => rw [h1, zbt_n'] at h; exact ⟨n, by omega, h⟩
    | some q =>
      cases h2 : f n with
      | none => rw [h1, h2, zbt_n] at h; obtain ⟨i, hi, e⟩ := ih (h1.trans h); exact ⟨i, by omega, e⟩
      | some r =>
        rw [h1, h2] at h
        simp only [zbt] at h
        by_cases g : r.1 < q.1
        · rw [if_pos g] at h; exact ⟨n, by omega, h2.trans h⟩
        · rw [if_neg g] at h; obtain ⟨i, hi, e⟩ := ih (h1.trans h); exact ⟨i, by omega, e⟩
theorem zrm_same {S m : Nat} (hS : S < 128) (hm : m < 7) (h : S.testBit m = false) : zrm S m = S := by
  refine zb_ext (zrm_lt hS) hS fun o ho => ?_
  rw [zrm_bit ho]
  by_cases e : m = o
  · subst e; rw [h]; rfl
  · simp [e]
theorem zrm_I {S m : Nat} (hS : S < 128) (hm : m < 7) : nI S &&& (((1 : Int32) <<< (nI m &&& 31)) ^^^ (-1)) = nI (zrm S m) := by
  rw [zb_one m hm, zb_andn S hS _ (zb_p m hm)]
theorem zbp_fuel {E : Nat → Nat × Nat} : ∀ (f g S x y : Nat), S < 64 → zcd S 7 ≤ f → zcd S 7 ≤ g → zbp E f S x y = zbp E g S x y := by
  have zero : ∀ (g x y : Nat), zbp E g 0 x y = (0, []) := by
    intro g x y
    cases g with
    | zero => rfl
    | succ g =>
      rw [zbp_s]
      have : zbf (zch E g 0 x y) 6 = none := (zbf_none 6).mpr fun i _ => by unfold zch; rw [Nat.zero_testBit]; rfl
      rw [this]; rfl
  intro f
  induction f with
  | zero =>
    intro g S x y hS h1 _
    rw [zcd_0 (by omega) (by omega : zcd S 7 = 0), zero, zero]
  | succ f ih =>
    intro g S x y hS h1 h2
    cases g with
    | zero => rw [zcd_0 (by omega) (by omega : zcd S 7 = 0), zero, zero]
    | succ g =>
      rw [zbp_s, zbp_s]
      congr 1
      refine zbf_congr 6 fun i hi => ?_
      unfold zch
      by_cases e : S.testBit i = true
      · have := zrm_cd (show i < 7 by omega) e
        rw [if_pos e, if_pos e, ih g (zrm S i) _ _ (Nat.lt_of_le_of_lt Nat.and_le_left hS) (by omega) (by omega)]
      · rw [if_neg e, if_neg e]
theorem zbp_le {E : Nat → Nat × Nat} {k : Nat} (hE : ∀ i, i < k → (E i).1 < 12 ∧ (E i).2 < 12) : ∀ (f S x y : Nat), (∀ i, S.testBit i = true → i < k) → x < 12 → y < 12 → (zbp E f S x y).1 ≤ 22 * f := by
  intro f
  induction f with
  | zero => intro S x y _ _ _; exact Nat.zero_le _
  | succ f ih =>
    intro S x y hS hx hy
    rw [zbp_s]
    cases hz : zbf (zch E f S x y) 6 with
    | none => exact Nat.zero_le _
    | some p =>
      obtain ⟨i, hi, e⟩ := zbf_some 6 hz
      unfold zch at e
      by_cases g : S.testBit i = true
      · rw [if_pos g] at e
        obtain rfl : _ = p := by simpa using e
        have hk := hE i (hS i g)
        have := ih (zrm S i) (E i).1 (E i).2 (fun j hj => hS j (by
          by_cases ho : j < 7
          · rw [zrm_bit ho] at hj; simp only [Bool.and_eq_true] at hj; exact hj.1
          · rw [Nat.testBit_and] at hj; simp only [Bool.and_eq_true] at hj; exact hj.1)) hk.1 hk.2
        have := zds_le hx hy hk.1 hk.2
        show zds x y (E i).1 (E i).2 + (zbp E f (zrm S i) (E i).1 (E i).2).1 ≤ _
        omega
      · rw [if_neg g] at e; exact absurd e (by simp)
theorem zbp_len {E : Nat → Nat × Nat} : ∀ (f S x y : Nat), S < 64 → zcd S 7 ≤ f → (zbp E f S x y).2.length = zcd S 7 := by
  intro f
  induction f with
  | zero => intro S x y hS h; have : zcd S 7 = 0 := by omega
            rw [this]; rfl
  | succ f ih =>
    intro S x y hS h
    rw [zbp_s]
    cases hz : zbf (zch E f S x y) 6 with
    | none =>
      have : S = 0 := by
        refine zb_ext (by omega) (by decide) fun i hi => ?_
        rw [Nat.zero_testBit]
        by_cases e6 : i = 6
        · subst e6; exact Nat.testBit_lt_two_pow (by omega)
        · have := (zbf_none 6).mp hz i (by omega)
          unfold zch at this
          by_cases g : S.testBit i = true
          · rw [if_pos g] at this; exact absurd this (by simp)
          · simpa using g
      subst this; rfl
    | some p =>
      obtain ⟨i, hi, e⟩ := zbf_some 6 hz
      unfold zch at e
      by_cases g : S.testBit i = true
      · rw [if_pos g] at e
        obtain rfl : _ = p := by simpa using e
        have h1 := zrm_cd (show i < 7 by omega) g
        have := ih (zrm S i) (E i).1 (E i).2 (Nat.lt_of_le_of_lt Nat.and_le_left hS) (by omega)
        show (i :: (zbp E f (zrm S i) (E i).1 (E i).2).2).length = _
        rw [List.length_cons, this]; exact h1
      · rw [if_neg g] at e; exact absurd e (by simp)
/-- one set's rows -/
def zrst (I : zI) (E : Nat → Nat × Nat) (k S : Nat) : Prop := ∀ i, i < k → S.testBit i = true → I 409 (6 * S + i) = nI (zbp E 6 (zrm S i) (E i).1 (E i).2).1
abbrev znh (p : zWo) : Int32 := match p with
  | none => -1
  | some p => nI (p.2.headD 0)
theorem C_errandFrom {t1 : Nat} (ht : zTx Z t1) (hW : zTW τ Λ) (hT : zCT I t1 τ Λ) {m i x y : Nat} (hm : m < τ 0 0) (hx : x < 12) (hy : y < 12) : ∃ r, zE (d + 2) kX6_errandFrom 0 [some (.ref t1), some (.int (nI m)), some (.int (nI i)), some (.int (nI x)), some (.int (nI y)), none] [] Z I J (some (.int r), Z, I, J) ∧ (i < τ 4 m → r = nI (zds x y (zer τ m i).1 (zer τ m i).2)) := by
  have e6 : nI m * 6 + nI i = nI (6 * m + i) := by rw [show (6 : Int32) = nI 6 from rfl, zmul, zadd, Nat.mul_comm]
  refine ⟨_, BX6_errandFrom_0 _ _ _ _ ht ⟨_, BX11_apart_0 _ _ _ _ rfl, rfl⟩, fun hi => ?_⟩
  have h4 := (hW.2.1 m hm).2.2.2.1
  have h7 := hW.1.1
  have w1 := hW.1
  have hE := hW.2.2.1 m i hm hi
  rw [e6, zatI (by omega) (by decide), zatI (by omega) (by decide), (hT.2.2.1 m i hm hi).1, (hT.2.2.1 m i hm hi).2]
  rw [zabs (by omega) (by omega), zabs (by omega) (by omega), zadd]
  rfl
theorem C_nextOf (hL : zLY Z t u) {t1 : Nat} (ht : zTx Z t1) (hW : zTW τ Λ) (hT : zCT I t1 τ Λ) {m S x y : Nat} (hm : m < τ 0 0) (hx : x < 12) (hy : y < 12) (hS : S < 64) (hSk : ∀ i, S.testBit i = true → i < τ 4 m) (hR : zrst I (zer τ m) (τ 4 m) S) :
    zE (d + 3) kX10_nextOf 0 [some (.ref 407), some (.ref t1), some (.int (nI m)), some (.int (nI S)), some (.int (nI x)), some (.int (nI y)), none, none, none, none] [] Z I J (some (.int (znh (zbf (zch (zer τ m) 6 S x y) 6))), Z, I, J) := by
  have h4 := (hW.2.1 m hm).2.2.2.1
  have loop : ∀ n, n ≤ 6 → ∀ x6 x7 : Int32, (match zbf (zch (zer τ m) 6 S x y) n with | none => x6 = -1 ∧ x7 = 1000000 | some p => x6 = nI (p.2.headD 0) ∧ x7 = nI p.1 ∧ p.1 < 1000) → zE (d + 3) kX10_nextOf 10 [some (.ref 407), some (.ref t1), some (.int (nI m)), some (.int (nI S)), some (.int (nI x)), some (.int (nI y)), some (.int x6), some (.int x7), some (.int (nI n)), none] [] Z I J (some (.int (znh (zbf (zch (zer τ m) 6 S x y) 6))), Z, I, J) := by
    refine zloop _ _ ?_ ?_
    · intro x6 x7 h
      refine BX10_nextOf_10 _ _ _ _ _ _ _ hL ht ⟨fun _ => ?_, fun q => absurd (by decide) q⟩
      cases hz : zbf (zch (zer τ m) 6 S x y) 6 with
      | none => rw [hz] at h; rw [h.1]
      | some p => rw [hz] at h; rw [h.1]
    · intro n hn ih x6 x7 h
      obtain ⟨r, er, er2⟩ := C_errandFrom (d := d) (J := J) (i := n) ht hW hT hm hx hy
      have e6 : nI S * 6 + nI n = nI (6 * S + n) := by rw [show (6 : Int32) = nI 6 from rfl, zmul, zadd, Nat.mul_comm]
      refine BX10_nextOf_10 _ _ _ _ _ _ _ hL ht ⟨fun q => ?_, fun _ => ⟨r, er, fun y2 ey2 => ?_⟩⟩
      · rw [show (6 : Int32) = nI 6 from rfl, zle' (by omega) (by omega)] at q; omega
      rw [zb_bit0 (by omega) (by omega), zadd1]
      have ez : zbf (zch (zer τ m) 6 S x y) (n + 1) = zbt (zbf (zch (zer τ m) 6 S x y) n) (zch (zer τ m) 6 S x y n) := rfl
      refine ⟨fun q => ih x6 x7 ?_, fun q => ?_⟩
      · rw [ez, show zch (zer τ m) 6 S x y n = none by unfold zch; rw [q]; rfl, zbt_n]; exact h
      · have g : S.testBit n = true := by simpa using q
        have hnk := hSk n g
        have ec : zch (zer τ m) 6 S x y n = some (zds x y (zer τ m n).1 (zer τ m n).2 + (zbp (zer τ m) 6 (zrm S n) (zer τ m n).1 (zer τ m n).2).1, n :: (zbp (zer τ m) 6 (zrm S n) (zer τ m n).1 (zer τ m n).2).2) := by unfold zch; rw [if_pos g]
        have hEn := zer_lt hW hm n hnk
        have b1 := zbp_le (zer_lt hW hm) 6 (zrm S n) (zer τ m n).1 (zer τ m n).2 (fun j hj => hSk j (by rw [Nat.testBit_and] at hj; simp only [Bool.and_eq_true] at hj; exact hj.1)) hEn.1 hEn.2
        have b2 := zds_le hx hy hEn.1 hEn.2
        rw [e6, zatI (by omega) (by decide), er2 hnk, hR n hnk g, zadd] at ey2
        obtain ⟨c, hc⟩ : ∃ c, c = zds x y (zer τ m n).1 (zer τ m n).2 + (zbp (zer τ m) 6 (zrm S n) (zer τ m n).1 (zer τ m n).2).1 := ⟨_, rfl⟩
        rw [← hc] at ey2 ec
        have hc1 : c < 1000 := by omega
        rw [ec] at ez
        cases hz : zbf (zch (zer τ m) 6 S x y) n with
        | none =>
          rw [hz] at h ez
          rw [zbt_n'] at ez
          refine ⟨fun q => ?_, fun _ => ih _ _ ?_⟩
          · exfalso; rw [h.2, ey2, show (1000000 : Int32) = nI 1000000 from rfl, zle' (by decide) (by omega)] at q; omega
          · rw [ez]; exact ⟨rfl, ey2, hc1⟩
        | some p =>
          rw [hz] at h ez
          obtain ⟨h1, h2, h3⟩ := h
          refine ⟨fun q => ih _ _ ?_, fun q => ih _ _ ?_⟩
          all_goals rw [h2, ey2, zle' (by omega) (by omega)] at q
          · rw [ez]; simp only [zbt]; rw [if_neg (by omega)]; exact ⟨h1, h2, h3⟩
          · rw [ez]; simp only [zbt]; rw [if_pos (by omega)]; exact ⟨rfl, ey2, hc1⟩
  exact BX10_nextOf_0 _ _ _ _ hL ht (loop 0 (by decide) _ _ ⟨rfl, rfl⟩)
theorem zbp_7 {E : Nat → Nat × Nat} {S x y : Nat} (hS : S < 64) : zbp E 6 S x y = zbp E 7 S x y := by
  have : ∀ S, S < 64 → zcd S 7 ≤ 6 := by decide +kernel
  have := this S hS
  exact zbp_fuel 6 7 S x y hS this (by omega)
theorem C_cheapest (hL : zLY Z t u) {t1 : Nat} (ht : zTx Z t1) (hW : zTW τ Λ) (hT : zCT I t1 τ Λ) {m S x y : Nat} (hm : m < τ 0 0) (hx : x < 12) (hy : y < 12) (hS : S < 64) (hSk : ∀ i, S.testBit i = true → i < τ 4 m) (hR : zrst I (zer τ m) (τ 4 m) S) :
    zE (d + 4) kX10_cheapest 0 [some (.ref 407), some (.ref t1), some (.int (nI m)), some (.int (nI S)), some (.int (nI x)), some (.int (nI y)), none] [] Z I J (some (.int (nI (zbp (zer τ m) 6 S x y).1)), Z, I, J) := by
  have h4 := (hW.2.1 m hm).2.2.2.1
  have hn := C_nextOf (d := d) (J := J) hL ht hW hT hm hx hy hS hSk hR
  rw [zbp_7 hS, zbp_s]
  cases hz : zbf (zch (zer τ m) 6 S x y) 6 with
  | none =>
    rw [hz] at hn
    exact BX10_cheapest_0 _ _ _ _ hL ht ⟨_, hn, fun q => absurd rfl q, fun _ => rfl⟩
  | some p =>
    rw [hz] at hn
    obtain ⟨i, hi, e⟩ := zbf_some 6 hz
    unfold zch at e
    by_cases g : S.testBit i = true
    · rw [if_pos g] at e
      obtain rfl : _ = p := by simpa using e
      have hik := hSk i g
      obtain ⟨r, er, er2⟩ := C_errandFrom (d := d + 1) (J := J) (i := i) ht hW hT hm hx hy
      have e6 : nI S * 6 + nI i = nI (6 * S + i) := by rw [show (6 : Int32) = nI 6 from rfl, zmul, zadd, Nat.mul_comm]
      refine BX10_cheapest_0 _ _ _ _ hL ht ⟨_, hn, fun _ => ⟨r, er, ?_⟩, fun q => ?_⟩
      · have ev : r + zat I 409 384 (nI S * 6 + nI i) = nI (zds x y (zer τ m i).1 (zer τ m i).2 + (zbp (zer τ m) 6 (zrm S i) (zer τ m i).1 (zer τ m i).2).1) := by
          rw [e6, zatI (by omega) (by decide), er2 hik, hR i hik g, zadd]
        exact congrArg (fun n => (some (Value.int n), Z, I, J)) ev.symm
      · exfalso
        have : ¬ nI i < 0 := zneg (by omega)
        exact this (by rw [show nI i = -1 from q]; decide)
    · rw [if_neg g] at e; exact absurd e (by simp)
end

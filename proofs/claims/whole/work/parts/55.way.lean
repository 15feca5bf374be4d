/-! WAYS: the first of the shortest -/
abbrev zWo := Option (Nat × List Nat)
def zbt (a b : zWo) : zWo := match a, b with
  | none, b => b
  | some p, none => some p
  | some p, some q => if q.1 < p.1 then some q else some p
theorem zbt_n (a : zWo) : zbt a none = a := by cases a <;> rfl
theorem zbt_n' (a : zWo) : zbt none a = a := by cases a <;> rfl
theorem zbt_as (a b c : zWo) : zbt (zbt a b) c = zbt a (zbt b c) := by
  cases a with
  | none => rw [zbt_n', zbt_n']
  | some p =>
    cases b with
    | none => rw [zbt_n, zbt_n']
    | some q =>
      cases c with
      | none => rw [zbt_n, zbt_n]
      | some r =>
        simp only [zbt]
        by_cases h1 : q.1 < p.1 <;> by_cases h2 : r.1 < q.1 <;> by_cases h3 : r.1 < p.1 <;> simp [zbt, h1, h2, h3] <;> omega
def zbf (f : Nat → zWo) : Nat → zWo
  | 0 => none
  | n + 1 => zbt (zbf f n) (f n)
theorem zbf_none {f : Nat → zWo} : ∀ n, zbf f n = none ↔ ∀ i, i < n → f i = none := by
  intro n
  induction n with
  | zero => exact ⟨fun _ i h => absurd h (by omega), fun _ => rfl⟩
  | succ n ih =>
    have key : zbf f (n + 1) = none ↔ zbf f n = none ∧ f n = none := by
      simp only [zbf]
      cases zbf f n with
      | none => rw [zbt_n']; simp
      | some p =>
        cases f n with
        | none => simp [zbt]
        | some q => simp only [zbt]; split <;> simp
    rw [key, ih]
    constructor
    · rintro ⟨h1, h2⟩ i hi
      by_cases e : i = n
      · rw [e]; exact h2
      · exact h1 i (by omega)
    · intro h; exact ⟨fun i hi => h i (by omega), h n (by omega)⟩
theorem zbf_congr {f g : Nat → zWo} : ∀ n, (∀ i, i < n → f i = g i) → zbf f n = zbf g n := by
  intro n
  induction n with
  | zero => intro _; rfl
  | succ n ih => intro h; simp only [zbf]; rw [ih (fun i hi => h i (by omega)), h n (by omega)]
/-- how far -/
def zds (x y x' y' : Nat) : Nat := (if x < x' then x' - x else x - x') + (if y < y' then y' - y else y - y')
def zbp (E : Nat → Nat × Nat) : Nat → Nat → Nat → Nat → Nat × List Nat
  | 0, _, _, _ => (0, [])
  | f + 1, S, x, y => (zbf (fun i => if S.testBit i = true then some (zds x y (E i).1 (E i).2 + (zbp E f (zrm S i) (E i).1 (E i).2).1, i :: (zbp E f (zrm S i) (E i).1 (E i).2).2) else none) 6).getD (0, [])
/-- the choices for the next errand -/
def zch (E : Nat → Nat × Nat) (f S x y : Nat) (i : Nat) : zWo := if S.testBit i = true then some (zds x y (E i).1 (E i).2 + (zbp E f (zrm S i) (E i).1 (E i).2).1, i :: (zbp E f (zrm S i) (E i).1 (E i).2).2) else none
theorem zbp_s {E : Nat → Nat × Nat} {f S x y : Nat} : zbp E (f + 1) S x y = (zbf (zch E f S x y) 6).getD (0, []) := rfl
/-- all orders of a set's errands, the least first -/
def zcat (g : Nat → List (List Nat)) : Nat → List (List Nat)
  | 0 => []
  | n + 1 => zcat g n ++ g n
def zps : Nat → Nat → List (List Nat)
  | 0, _ => [[]]
  | f + 1, S => if S = 0 then [[]] else zcat (fun i => if S.testBit i = true then (zps f (zrm S i)).map (fun l => i :: l) else []) 6
def zco (E : Nat → Nat × Nat) : List Nat → Nat → Nat → Nat
  | [], _, _ => 0
  | i :: r, x, y => zds x y (E i).1 (E i).2 + zco E r (E i).1 (E i).2
def zfo (E : Nat → Nat × Nat) (x y : Nat) : List (List Nat) → zWo → zWo
  | [], a => a
  | l :: r, a => zfo E x y r (zbt a (some (zco E l x y, l)))
theorem zfo_app {E : Nat → Nat × Nat} {x y : Nat} (l1 l2 : List (List Nat)) : ∀ a, zfo E x y (l1 ++ l2) a = zfo E x y l2 (zfo E x y l1 a) := by
  induction l1 with
  | nil => intro a; rfl
  | cons l r ih => intro a; exact ih _
theorem zfo_acc {E : Nat → Nat × Nat} {x y : Nat} (l : List (List Nat)) : ∀ a, zfo E x y l a = zbt a (zfo E x y l none) := by
  induction l with
  | nil => intro a; rw [show zfo E x y [] none = none from rfl, zbt_n]; rfl
  | cons l r ih =>
    intro a
    show zfo E x y r (zbt a (some (zco E l x y, l))) = zbt a (zfo E x y r (zbt none (some (zco E l x y, l))))
    rw [ih, ih (zbt none _), zbt_n', zbt_as]
def zwm (d i : Nat) : zWo → zWo
  | none => none
  | some p => some (d + p.1, i :: p.2)
theorem zwm_bt (d i : Nat) (a b : zWo) : zwm d i (zbt a b) = zbt (zwm d i a) (zwm d i b) := by
  cases a with
  | none => rfl
  | some p =>
    cases b with
    | none => rfl
    | some q =>
      simp only [zbt, zwm]
      by_cases h : q.1 < p.1
      · rw [if_pos h, if_pos (by omega)]
      · rw [if_neg h, if_neg (by omega)]
theorem zfo_map {E : Nat → Nat × Nat} {x y i : Nat} (L : List (List Nat)) : ∀ a, zfo E x y (L.map (fun l => i :: l)) (zwm (zds x y (E i).1 (E i).2) i a) = zwm (zds x y (E i).1 (E i).2) i (zfo E (E i).1 (E i).2 L a) := by
  induction L with
  | nil => intro a; rfl
  | cons l r ih =>
    intro a
    show zfo E x y (r.map (fun l => i :: l)) (zbt (zwm _ i a) (some (zco E (i :: l) x y, i :: l))) = zwm _ i (zfo E (E i).1 (E i).2 r (zbt a (some (zco E l (E i).1 (E i).2, l))))
    rw [← ih, zwm_bt]
    rfl
theorem zfo_cat {E : Nat → Nat × Nat} {x y : Nat} {g : Nat → List (List Nat)} : ∀ n, zfo E x y (zcat g n) none = zbf (fun i => zfo E x y (g i) none) n := by
  intro n
  induction n with
  | zero => rfl
  | succ n ih => simp only [zcat, zbf]; rw [zfo_app, zfo_acc, ih]
theorem zps_bp {E : Nat → Nat × Nat} : ∀ (f S x y : Nat), S < 64 → zfo E x y (zps f S) none = some (zbp E f S x y) := by
  intro f
  induction f with
  | zero => intro S x y _; rfl
  | succ f ih =>
    intro S x y hS
    rw [zbp_s]
    by_cases h0 : S = 0
    · subst h0
      have : zbf (zch E f 0 x y) 6 = none := (zbf_none 6).mpr fun i _ => by unfold zch; rw [Nat.zero_testBit]; rfl
      rw [this]; simp only [zps, if_true]; rfl
    · simp only [zps, if_neg h0]
      rw [zfo_cat]
      have e : zbf (fun i => zfo E x y (if S.testBit i = true then (zps f (zrm S i)).map (fun l => i :: l) else []) none) 6 = zbf (zch E f S x y) 6 := by
        refine zbf_congr 6 fun i hi => ?_
        unfold zch
        by_cases g : S.testBit i = true
        · rw [if_pos g, if_pos g]
          have := zfo_map (E := E) (x := x) (y := y) (i := i) (zps f (zrm S i)) none
          rw [ih (zrm S i) _ _ (Nat.lt_of_le_of_lt Nat.and_le_left hS)] at this
          exact this
        · rw [if_neg g, if_neg g]; rfl
      rw [e]
      cases hz : zbf (zch E f S x y) 6 with
      | some r => rfl
      | none =>
        exfalso
        apply h0
        refine zb_ext (by omega) (by decide) fun i hi => ?_
        rw [Nat.zero_testBit]
        by_cases e6 : i = 6
        · subst e6; exact Nat.testBit_lt_two_pow (by omega)
        · have := (zbf_none 6).mp hz i (by omega)
          unfold zch at this
          by_cases g : S.testBit i = true
          · rw [if_pos g] at this; exact absurd this (by simp)
          · simpa using g
/-! the orders one behind the other -/
def zswp (p : Nat → Nat) (a c : Nat) : Nat → Nat := fun i => if i = c then p a else if i = a then p c else p i
def zn1 (p : Nat → Nat) : Nat → Option Nat
  | 0 => none
  | j + 1 => if p j ≤ p (j + 1) then some j else zn1 p j
def zn2 (p : Nat → Nat) (j : Nat) : Nat → Nat
  | 0 => 0
  | i + 1 => if p j ≤ p (i + 1) then i + 1 else zn2 p j i
def zrv : Nat → Nat → Nat → (Nat → Nat) → Nat → Nat
  | 0, _, _, p => p
  | f + 1, a, c, p => if c ≤ a then p else zrv f (a + 1) (c - 1) (zswp p a c)
def zno (k : Nat) (p : Nat → Nat) : Option (Nat → Nat) := match zn1 p (k - 1) with
  | none => none
  | some j => some (zrv 6 (j + 1) (k - 1) (zswp p j (zn2 p j (k - 1))))
abbrev zga2 (l : List Nat) : Nat → Nat := fun i => l.getD i 0
def zal (k : Nat) (P : Nat → Bool) : Bool := match k with
  | 0 => true
  | k + 1 => zal k P && P k
theorem zal_i {P : Nat → Bool} : ∀ k, zal k P = true → ∀ i, i < k → P i = true := by
  intro k
  induction k with
  | zero => intro _ i h; omega
  | succ k ih =>
    intro h i hi
    simp only [zal, Bool.and_eq_true] at h
    by_cases e : i = k
    · rw [e]; exact h.2
    · exact ih h.1 i (by omega)
def zokl (k : Nat) (l : List Nat) : Bool := l.length == k && zal k (fun i => decide (zga2 l i < k))
def zck (k : Nat) : List Nat → List (List Nat) → Bool
  | l, [] => zokl k l && (match zno k (zga2 l) with | none => true | some _ => false)
  | l, l' :: r => zokl k l && ((match zno k (zga2 l) with | none => false | some q => zal k (fun i => q i == zga2 l' i)) && zck k l' r)
def zck0 (k : Nat) : List (List Nat) → Bool
  | [] => false
  | l :: r => zal k (fun i => zga2 l i == i) && zck k l r
theorem zck_all : ∀ k, k ≤ 6 → zck0 k (zps k (2 ^ k - 1)) = true := by decide +kernel

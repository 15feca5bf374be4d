/-! TOKENS: the reference's -/
/-- the reference's number of a kind -/
def zkr (k : Nat) : Nat := if k = 0 then 0 else if k = 1 then 3 else if k = 2 then 1 else if k = 3 then 2 else if k = 59 then 4 else if k = 61 then 5 else if k = 40 then 6 else if k = 41 then 7 else if k = 43 then 8 else if k = 45 then 9 else if k = 42 then 10 else if k = 60 then 13 else if k = 47 then 15 else k - 108
def zwr (x : Nat) : Nat → Nat → Nat → Nat
  | 0, _, y => y
  | f + 1, k, y => if zk27 k = x then zwr x f (k + 1) (20 + k) else zwr x f (k + 1) y
def zkW (i : Nat) : Nat := [116, 111, 119, 110, 32, 109, 97, 110, 32, 103, 111, 101, 115, 32, 108, 111, 110, 103, 32, 101, 114, 114, 97, 110, 100, 32, 112, 105, 108, 108, 97, 114, 32, 100, 121, 101, 32, 115, 101, 101, 100, 32, 105, 102, 32, 116, 104, 101, 110, 32, 101, 108, 115, 101, 32, 120, 32, 121, 32, 109, 105, 110, 117, 116, 101, 32, 108, 101, 102, 116, 32, 108, 111, 116, 32, 114, 97, 110, 107, 32].getD i 0
def zkO (k : Nat) : Nat := [0, 5, 9, 14, 19, 26, 33, 37, 42, 45, 50, 55, 57, 59, 66, 71, 75].getD k 0
def zkN (k : Nat) : Nat := [4, 3, 4, 4, 6, 6, 3, 4, 2, 4, 4, 1, 1, 6, 4, 3, 4].getD k 0
theorem zkW_ok : ∀ k, k < 17 → zk32 k = zc32 zkW (zkO k) (zkN k) ∧ zk27 k = zc27 zkW (zkO k) (zkN k) ∧ ∀ j, j < zkN k → zPlt zkW (zkO k + j) = true := by decide +kernel
theorem zc_inj {B W : Nat → Nat} {p o : Nat} : ∀ (n m : Nat), (∀ j, j < n → zPlt B (p + j) = true) → (∀ j, j < m → zPlt W (o + j) = true) → (zc32 W o m = zc32 B p n ↔ zc27 W o m = zc27 B p n) := by
  intro n
  induction n with
  | zero =>
    intro m _ h2
    cases m with
    | zero => exact Iff.rfl
    | succ m =>
      have := of_decide_eq_true (h2 m (by omega))
      simp only [zc32, zc27]
      omega
  | succ n ih =>
    intro m h1 h2
    have g1 := of_decide_eq_true (h1 n (by omega))
    cases m with
    | zero =>
      simp only [zc32, zc27]
      omega
    | succ m =>
      have g2 := of_decide_eq_true (h2 m (by omega))
      have := ih m (fun j hj => h1 j (by omega)) (fun j hj => h2 j (by omega))
      simp only [zc32, zc27]
      omega
theorem zkw_iff {B : Nat → Nat} {p n k : Nat} (hk : k < 17) (h : ∀ j, j < n → zPlt B (p + j) = true) : zk32 k = zc32 B p n ↔ zk27 k = zc27 B p n := by
  obtain ⟨e1, e2, e3⟩ := zkW_ok k hk
  rw [e1, e2]; exact zc_inj n _ h e3
theorem zk27_inj : ∀ a, a < 17 → ∀ b, b < 17 → zk27 a = zk27 b → a = b := by decide +kernel
theorem zwr_no {x : Nat} : ∀ (f k y : Nat), k + f = 17 → (∀ j, k ≤ j → j < 17 → zk27 j ≠ x) → zwr x f k y = y := by
  intro f
  induction f with
  | zero => intro k y _ _; rfl
  | succ f ih =>
    intro k y hk h
    simp only [zwr]
    rw [if_neg (h k (Nat.le_refl _) (by omega))]
    exact ih (k + 1) y (by omega) (fun j h1 h2 => h j (by omega) h2)
theorem zwr_wf {x y : Nat} (h : ∀ k, k < 17 → (zk32 k = x ↔ zk27 k = y)) : ∀ (f k : Nat), k + f = 17 → zwr y f k 1 = zkr (zwf x f k) := by
  intro f
  induction f with
  | zero => intro k _; rfl
  | succ f ih =>
    intro k hk
    simp only [zwr, zwf]
    by_cases e : zk32 k = x
    · have e2 := (h k (by omega)).mp e
      rw [if_pos e, if_pos e2, zwr_no f (k + 1) _ (by omega) (fun j h1 h2 q => by have := zk27_inj k (by omega) j h2 (e2.trans q.symm); omega)]
      exact (by decide : ∀ k, k < 17 → 20 + k = zkr (128 + k)) k (by omega)
    · rw [if_neg e, if_neg (fun q => e ((h k (by omega)).mpr q))]
      exact ih (k + 1) (by omega)
theorem zc32_ge {B : Nat → Nat} {p : Nat} : ∀ n, (∀ j, j < n + 1 → zPlt B (p + j) = true) → 32 ^ n ≤ zc32 B p (n + 1) := by
  intro n
  induction n with
  | zero =>
    intro h
    have := of_decide_eq_true (h 0 (by decide))
    simp only [zc32]
    show 1 ≤ _
    omega
  | succ n ih =>
    intro h
    have h1 := ih (fun j hj => h j (by omega))
    rw [show zc32 B p (n + 1 + 1) = 32 * zc32 B p (n + 1) + (B (p + (n + 1)) - 96) from rfl, Nat.pow_succ]
    omega
theorem zwf_no {x : Nat} : ∀ (f k : Nat), k + f = 17 → (∀ j, j < 17 → zk32 j ≠ x) → zwf x f k = 2 := by
  intro f
  induction f with
  | zero => intro k _ _; rfl
  | succ f ih =>
    intro k hk h
    simp only [zwf]
    rw [if_neg (h k (by omega))]
    exact ih (k + 1) (by omega) h
section
variable {d : Nat} {Z : zZ} {I : zI} {J : zJ} {t u : Nat} {B : Nat → Nat} {L p n i e q k : Nat} {o : zO}
/-- the bytes of the reference's text -/
def zBm (I : zI) (B : Nat → Nat) (L : Nat) : Prop := L ≤ 2000 ∧ I 420 4 = nI L ∧ ∀ i, i < L → B i < 256 ∧ I 422 i &&& 255 = nI (B i)
def zKm (J : zJ) : Prop := ∀ k, k < 17 → J 427 k = lN (zk27 k)
theorem zk27_lt : ∀ k, k < 17 → zk27 k < 2 ^ 40 := by decide
theorem M_byteAt (hL : zLY Z t u) (h : zBm I B L) (hi : i < 100000) : zE d kX12_byteAt 0 [some (.ref 420), some (.int (nI i))] [] Z I J (some (.int (nI (if i < L then B i else 0))), Z, I, J) := by
  obtain ⟨h1, h2, h3⟩ := h
  refine BX12_byteAt_0 _ hL ⟨fun q => ?_, fun q => ?_⟩
  · rw [h2, zle' (by omega) (by omega)] at q
    rw [if_neg (by omega)]; rfl
  · rw [h2, zle' (by omega) (by omega)] at q
    refine ⟨zvin (by omega) (by decide), ?_⟩
    rw [if_pos (by omega), zclm (by omega), (h3 i (by omega)).2]
theorem M_token (hL : zLY Z t u) (hk : k < 403) (h : I 420 10 = nI k) (a b c : Int32) (w : Int64) : zE d kX12_token 0 [some (.ref 420), some (.int a), some (.int b), some (.int c), some (.long w), none] [] Z I J (none, Z, zu (zu (zu (zu I 423 k a) 424 k b) 425 k c) 420 10 (nI (k + 1)), zu J 426 k w) := by
  have hv : vp_in (nI k) 403 := zvin hk (by decide)
  refine BX12_token_0 _ _ _ _ hL ⟨by rw [h]; exact hv, fun I1 e1 => ?_⟩
  rw [h, zclm (by omega)] at e1
  have g1 : I1 420 10 = nI k := by rw [e1, zu_ne (by decide)]; exact h
  refine ⟨by rw [g1]; exact hv, fun I2 e2 => ?_⟩
  rw [g1, zclm (by omega), e1] at e2
  have g2 : I2 420 10 = nI k := by rw [e2, zu_ne (by decide), zu_ne (by decide)]; exact h
  refine ⟨by rw [g2]; exact hv, fun I3 e3 => ?_⟩
  rw [g2, zclm (by omega), e2] at e3
  have g3 : I3 420 10 = nI k := by rw [e3, zu_ne (by decide), zu_ne (by decide), zu_ne (by decide)]; exact h
  refine ⟨by rw [g3]; exact hv, fun J4 e4 I5 e5 => ?_⟩
  rw [g3, zclm (by omega)] at e4
  rw [g3, zadd1, e3] at e5
  rw [e5, e4]
theorem M_sign55 (hL : zLY Z t u) {x1 x2 x4 : Int32} (K : zE (d + 1) kX12_sign 95 [some (.ref 420), some (.int x1), none, none, some (.int (if x2 = 60 then 13 else if x2 = 47 then 15 else if x2 = 42 then 10 else if x2 = 45 then 9 else x4))] [] Z I J o) : zE (d + 1) kX12_sign 55 [some (.ref 420), some (.int x1), some (.int x2), none, some (.int x4)] [] Z I J o := by
  have s85 : ∀ y : Int32, (¬ x2 = 60 → zE (d + 1) kX12_sign 95 [some (.ref 420), some (.int x1), none, none, some (.int y)] [] Z I J o) → zE (d + 1) kX12_sign 85 [some (.ref 420), some (.int x1), some (.int x2), none, some (.int y)] [] Z I J o := fun y h => BX12_sign_85 _ _ _ hL ⟨h, fun c => by rw [if_pos c] at K; exact K⟩
  have s75 : ∀ y : Int32, (¬ x2 = 47 → ¬ x2 = 60 → zE (d + 1) kX12_sign 95 [some (.ref 420), some (.int x1), none, none, some (.int y)] [] Z I J o) → zE (d + 1) kX12_sign 75 [some (.ref 420), some (.int x1), some (.int x2), none, some (.int y)] [] Z I J o := fun y h => BX12_sign_75 _ _ _ hL ⟨fun c => s85 _ (h c), fun c => s85 _ (fun c2 => by rw [if_neg c2, if_pos c] at K; exact K)⟩
  have s65 : ∀ y : Int32, (¬ x2 = 42 → ¬ x2 = 47 → ¬ x2 = 60 → zE (d + 1) kX12_sign 95 [some (.ref 420), some (.int x1), none, none, some (.int y)] [] Z I J o) → zE (d + 1) kX12_sign 65 [some (.ref 420), some (.int x1), some (.int x2), none, some (.int y)] [] Z I J o := fun y h => BX12_sign_65 _ _ _ hL ⟨fun c => s75 _ (h c), fun c => s75 _ (fun c1 c2 => by rw [if_neg c2, if_neg c1, if_pos c] at K; exact K)⟩
  exact BX12_sign_55 _ _ _ hL ⟨fun c => s65 _ (fun c1 c2 c3 => by rw [if_neg c3, if_neg c2, if_neg c1, if_neg c] at K; exact K), fun c => s65 _ (fun c1 c2 c3 => by rw [if_neg c3, if_neg c2, if_neg c1, if_pos c] at K; exact K)⟩
theorem M_sign0 (hL : zLY Z t u) {x1 x2 x3 : Int32} (K : zE (d + 1) kX12_sign 55 [some (.ref 420), some (.int x1), some (.int x2), none, some (.int (if x2 = 43 then 8 else if x2 = 59 then 4 else if x2 = 61 then 5 else if x2 = 40 then 6 else if x2 = 41 then 7 else 3))] [] Z I J o) : zE (d + 1) kX12_sign 0 [some (.ref 420), some (.int x1), some (.int x2), some (.int x3), none] [] Z I J o := by
  refine BX12_sign_0 _ _ _ hL ⟨fun a => ⟨fun b => ⟨fun c => ⟨fun g => ⟨fun e => ?_, fun e => ?_⟩, fun g => ⟨fun e => ?_, fun e => ?_⟩⟩, fun c => ⟨fun e => ?_, fun e => ?_⟩⟩, fun b => ⟨fun e => ?_, fun e => ?_⟩⟩, fun a => ⟨fun e => ?_, fun e => ?_⟩⟩
  · rw [if_neg e, if_neg a, if_neg b, if_neg c, if_neg g] at K; exact K
  · rw [if_pos e] at K; exact K
  · rw [if_neg e, if_neg a, if_neg b, if_neg c, if_pos g] at K; exact K
  · rw [if_pos e] at K; exact K
  · rw [if_neg e, if_neg a, if_neg b, if_pos c] at K; exact K
  · rw [if_pos e] at K; exact K
  · rw [if_neg e, if_neg a, if_pos b] at K; exact K
  · rw [if_pos e] at K; exact K
  · rw [if_neg e, if_pos a] at K; exact K
  · rw [if_pos e] at K; exact K
def zsgk (x2 : Int32) : Int32 := if x2 = 60 then 13 else if x2 = 47 then 15 else if x2 = 42 then 10 else if x2 = 45 then 9 else if x2 = 43 then 8 else if x2 = 59 then 4 else if x2 = 61 then 5 else if x2 = 40 then 6 else if x2 = 41 then 7 else 3
theorem zsgk_eq : ∀ c, c < 256 → zsgk (nI c) = nI (zkr (if c ∈ zsgL then c else 1)) := by decide +kernel
theorem M_sign (hL : zLY Z t u) {c : Nat} (hc : c < 256) {x1 x3 : Int32} (hk : k < 403) (h : I 420 10 = nI k) : zE (d + 1) kX12_sign 0 [some (.ref 420), some (.int x1), some (.int (nI c)), some (.int x3), none] [] Z I J (some (.int 1), Z, zu (zu (zu (zu I 423 k (nI (zkr (if c ∈ zsgL then c else 1)))) 424 k x1) 425 k 0) 420 10 (nI (k + 1)), zu J 426 k 0) := by
  refine M_sign0 hL (M_sign55 hL (BX12_sign_95 _ _ hL ⟨_, _, ?_, rfl⟩))
  have := M_token (d := d) (Z := Z) (J := J) hL hk h (nI (zkr (if c ∈ zsgL then c else 1))) x1 0 0
  rw [← zsgk_eq c hc] at this ⊢
  exact this
/-- the reference's tokens -/
def zTkm (I : zI) (J : zJ) (B : Nat → Nat) (L m : Nat) : Prop := ∀ i, i < m → (∀ j, j < i → zknd B L j ≠ 0) → (I 423 i = nI (zkr (zknd B L i)) ∧ I 424 i = nI (zplc B L i)) ∧ (zknd B L i = 3 → I 425 i = nI (zvlu B L i)) ∧ (zknd B L i = 2 → J 426 i = lN (zc27 B (zplc B L i) (zpos B L (i + 1) - zplc B L i)))
theorem zTkm.add {I' : zI} {J' : zJ} (h : zTkm I J B L k) {v : Int32} {w : Int64} (eI : I' = zu (zu (zu (zu I 423 k (nI (zkr (zknd B L k)))) 424 k (nI (zplc B L k))) 425 k v) 420 10 (nI (k + 1))) (eJ : J' = zu J 426 k w) (h3 : zknd B L k = 3 → v = nI (zvlu B L k)) (h2 : zknd B L k = 2 → w = lN (zc27 B (zplc B L k) (zpos B L (k + 1) - zplc B L k))) : zTkm I' J' B L (k + 1) := by
  intro m hm hg
  have c1 : I' 423 m = if m = k then nI (zkr (zknd B L k)) else I 423 m := by
    rw [eI, zu_ne (by decide), zu_ne (by decide), zu_ne (by decide)]; unfold zu; simp
  have c2 : I' 424 m = if m = k then nI (zplc B L k) else I 424 m := by
    rw [eI, zu_ne (by decide), zu_ne (by decide)]; unfold zu; simp
  have c3 : I' 425 m = if m = k then v else I 425 m := by
    rw [eI, zu_ne (by decide)]; unfold zu; simp
  have c4 : J' 426 m = if m = k then w else J 426 m := by
    rw [eJ]; unfold zu; simp
  rw [c1, c2, c3, c4]
  by_cases e : m = k
  · subst e
    simp only [if_pos]
    exact ⟨⟨trivial, trivial⟩, h3, h2⟩
  · simp only [if_neg e]
    exact h m (by omega) hg
theorem zup27 {c b : Nat} (hb : 97 ≤ b) (hb2 : b < 256) : zapp (lN c) (nI b) = lN (27 * c + (b - 96)) := by
  unfold zapp
  rw [if_neg (by rw [zn0 (by omega)]; omega), show (97 : Int32) = nI 97 from rfl, zsub hb, zadd1, nI_l (by omega), show (27 : Int64) = lN 27 from rfl, lN_mul, lN_add, show 27 * c + (b - 97 + 1) = 27 * c + (b - 96) by omega]
theorem zc27_lt : ∀ n, (∀ j, j < n → zPlt B (p + j) = true) → zc27 B p n < 27 ^ n := by
  intro n
  induction n with
  | zero => intro _; exact Nat.zero_lt_one
  | succ n ih =>
    intro h
    have h1 := ih (fun j hj => h j (by omega))
    have h2 := of_decide_eq_true (h n (by omega))
    simp only [zc27]
    rw [Nat.pow_succ]
    omega
theorem zc27_b {n : Nat} (hn : n ≤ 8) (h : ∀ j, j < n → zPlt B (p + j) = true) : zc27 B p n < 2 ^ 40 :=
  Nat.lt_of_lt_of_le (zc27_lt n h) (Nat.le_trans (Nat.pow_le_pow_right (by decide) hn) (by decide))
end

/-! ORDERS, thought of alone -/
/-- without one -/
abbrev zrm (S m : Nat) : Nat := S &&& (127 ^^^ 2 ^ m)
theorem zrm_lt {S m : Nat} (h : S < 128) : zrm S m < 128 := zb_al h
theorem zrm_bit {S m o : Nat} (ho : o < 7) : (zrm S m).testBit o = (S.testBit o && !decide (m = o)) := zb_ex ho
theorem zrm_cd {S m : Nat} (hm : m < 7) (h : S.testBit m = true) : zcd (zrm S m) 7 + 1 = zcd S 7 := by
  have := zsum_delta (c := 1) (j0 := m) (i := 0) (k := 7)
  rw [if_pos ⟨Nat.zero_le _, by omega⟩] at this
  unfold zcd
  rw [← this, ← zsum_add]
  refine zsum_congr fun o _ ho => ?_
  rw [zrm_bit (by omega)]
  by_cases e : o = m
  · subst e; rw [h, if_pos rfl]; simp
  · rw [if_neg e, decide_eq_false (fun z => e z.symm)]; simp
theorem zrm_comm {S a c : Nat} (hS : S < 128) : zrm (zrm S a) c = zrm (zrm S c) a := by
  refine zb_ext (zrm_lt (zrm_lt hS)) (zrm_lt (zrm_lt hS)) (fun o ho => ?_)
  rw [zrm_bit ho, zrm_bit ho, zrm_bit ho, zrm_bit ho]
  cases S.testBit o <;> cases decide (a = o) <;> cases decide (c = o) <;> rfl
/-- he waits for none of these -/
abbrev zfree (W : Nat → Nat) (S m : Nat) : Prop := S.testBit m = true ∧ W m &&& S = 0
/-- how many ORDERS of these men -/
def zB (W : Nat → Nat) (n : Nat) : Nat → Nat → Nat
  | 0, _ => 1
  | f + 1, S => if S = 0 then 1 else zsum (fun m => if zfree W S m then zB W n f (zrm S m) else 0) 0 n
theorem zcd_0 {S : Nat} (hS : S < 128) (h : zcd S 7 = 0) : S = 0 := by
  apply Classical.byContradiction
  intro hn
  obtain ⟨m, h1, h2, -⟩ := zb_z hS hn
  have := zrm_cd h1 h2; omega
theorem zB_fuel {W : Nat → Nat} {n : Nat} (hn : n ≤ 7) : ∀ (f g S : Nat), S < 128 → zcd S 7 ≤ f → zcd S 7 ≤ g → zB W n f S = zB W n g S := by
  intro f
  induction f with
  | zero =>
    intro g S hS h1 h2
    have := zcd_0 hS (by omega)
    subst this
    cases g with
    | zero => rfl
    | succ g => simp [zB]
  | succ f ih =>
    intro g S hS h1 h2
    cases g with
    | zero =>
      have := zcd_0 hS (by omega)
      subst this; simp [zB]
    | succ g =>
      simp only [zB]
      by_cases e : S = 0
      · rw [if_pos e, if_pos e]
      · rw [if_neg e, if_neg e]
        refine zsum_congr fun m _ hm => ?_
        by_cases c : zfree W S m
        · rw [if_pos c, if_pos c]
          have := zrm_cd (by omega) c.1
          exact ih g _ (zrm_lt hS) (by omega) (by omega)
        · rw [if_neg c, if_neg c]
/-- the number of ORDERS -/
def zb (W : Nat → Nat) (n S : Nat) : Nat := zB W n 7 S
theorem zb0 {W : Nat → Nat} {n : Nat} : zb W n 0 = 1 := by simp [zb, zB]
theorem zbS {W : Nat → Nat} {n S : Nat} (hn : n ≤ 7) (hS : S < 128) (h : S ≠ 0) : zb W n S = zsum (fun m => if zfree W S m then zb W n (zrm S m) else 0) 0 n := by
  have e : zb W n S = zsum (fun m => if zfree W S m then zB W n 6 (zrm S m) else 0) 0 n := by
    unfold zb; simp only [zB]; rw [if_neg h]
  rw [e]
  refine zsum_congr fun m _ hm => ?_
  by_cases c : zfree W S m
  · rw [if_pos c, if_pos c]
    have h1 := zrm_cd (by omega) c.1
    have h2 := zcd_le7 S
    exact zB_fuel hn 6 7 _ (zrm_lt hS) (by omega) (by omega)
  · rw [if_neg c, if_neg c]
theorem zB_le {W : Nat → Nat} {n : Nat} (hn : n ≤ 7) : ∀ (f S : Nat), zB W n f S ≤ 7 ^ f := by
  intro f
  induction f with
  | zero => intro S; exact Nat.le_refl _
  | succ f ih =>
    intro S
    simp only [zB]
    have h1 : 1 ≤ 7 ^ (f + 1) := Nat.one_le_pow _ _ (by decide)
    by_cases e : S = 0
    · rw [if_pos e]; exact h1
    · rw [if_neg e]
      have := zsum_le (f := fun m => if zfree W S m then zB W n f (zrm S m) else 0) (b := 7 ^ f) (i := 0) (k := n) (fun m _ _ => by
        split
        · exact ih _
        · exact Nat.zero_le _)
      rw [Nat.pow_succ]
      exact Nat.le_trans this (Nat.mul_le_mul_left _ hn)
theorem zb_le {W : Nat → Nat} {n S : Nat} (hn : n ≤ 7) : zb W n S ≤ 823543 := zB_le hn 7 S
theorem zrm_free {W : Nat → Nat} {S a c : Nat} (h : zfree W S c) (hc : c < 7) (hne : a ≠ c) (hW : W c < 128) : zfree W (zrm S a) c := by
  refine ⟨by rw [zrm_bit hc, h.1, decide_eq_false hne]; rfl, ?_⟩
  refine zb_ext (zb_al hW) (by decide) (fun o ho => ?_)
  have := congrArg (fun x => x.testBit o) h.2
  simp only [Nat.testBit_and, Nat.zero_testBit] at this
  rw [Nat.testBit_and, zrm_bit ho, Nat.zero_testBit, ← Bool.and_assoc, this, Bool.false_and]
theorem zb_ge {W : Nat → Nat} {n S m : Nat} (hn : n ≤ 7) (hS : S < 128) (hm : m < n) (h : zfree W S m) : zb W n (zrm S m) ≤ zb W n S := by
  have h0 : S ≠ 0 := by rintro rfl; have := h.1; simp at this
  rw [zbS hn hS h0]
  have := zsum_ge1 (f := fun m => if zfree W S m then zb W n (zrm S m) else 0) (i := 0) (k := n) (j := m) (Nat.zero_le _) (by omega)
  rw [if_pos h] at this
  exact this
theorem zb_ex1 {W : Nat → Nat} {n S : Nat} (hn : n ≤ 7) (hS : S < 128) (h0 : S ≠ 0) (h : 0 < zb W n S) : ∃ m, m < n ∧ zfree W S m ∧ 0 < zb W n (zrm S m) := by
  rw [zbS hn hS h0] at h
  obtain ⟨m, -, h1, h2⟩ := zsum_pos.mp h
  by_cases c : zfree W S m
  · rw [if_pos c] at h2; exact ⟨m, by omega, c, h2⟩
  · rw [if_neg c] at h2; exact absurd h2 (Nat.lt_irrefl 0)
/-- whoever is free may go first -/
theorem zb_any {W : Nat → Nat} {n : Nat} (hn : n ≤ 7) (hW : ∀ m, W m < 128) : ∀ (f S m : Nat), zcd S 7 ≤ f → S < 128 → m < n → zfree W S m → 0 < zb W n S → 0 < zb W n (zrm S m) := by
  intro f
  induction f with
  | zero => intro S m hf hS hm h; have := zrm_cd (by omega) h.1; omega
  | succ f ih =>
    intro S m hf hS hm h hb
    have h0 : S ≠ 0 := by rintro rfl; have := h.1; simp at this
    obtain ⟨a, a1, a2, a3⟩ := zb_ex1 hn hS h0 hb
    by_cases e : a = m
    · subst e; exact a3
    · have hc := zrm_cd (by omega) a2.1
      have f1 := zrm_free h (by omega) e (hW m)
      have f2 := zrm_free a2 (by omega) (fun z => e z.symm) (hW a)
      have := ih (zrm S a) m (by omega) (zrm_lt hS) hm f1 a3
      rw [zrm_comm hS] at this
      have := zb_ge hn (zrm_lt (m := m) hS) a1 f2
      omega
/-- the first free one from m on -/
def zff (W : Nat → Nat) (S : Nat) : Nat → Nat → Option Nat
  | 0, _ => none
  | k + 1, m => if zfree W S m then some m else zff W S k (m + 1)
theorem zff_some {W : Nat → Nat} {S : Nat} : ∀ {k m w : Nat}, zff W S k m = some w → m ≤ w ∧ w < m + k ∧ zfree W S w ∧ ∀ j, m ≤ j → j < w → ¬ zfree W S j := by
  intro k
  induction k with
  | zero => intro m w h; simp [zff] at h
  | succ k ih =>
    intro m w h
    simp only [zff] at h
    by_cases c : zfree W S m
    · rw [if_pos c] at h; injection h with h; subst h
      exact ⟨Nat.le_refl _, by omega, c, fun j h1 h2 => by omega⟩
    · rw [if_neg c] at h
      obtain ⟨a1, a2, a3, a4⟩ := ih h
      exact ⟨by omega, by omega, a3, fun j h1 h2 => by
        by_cases e : j = m
        · subst e; exact c
        · exact a4 j (by omega) h2⟩
theorem zff_none {W : Nat → Nat} {S : Nat} : ∀ {k m : Nat}, zff W S k m = none → ∀ j, m ≤ j → j < m + k → ¬ zfree W S j := by
  intro k
  induction k with
  | zero => intro m h j h1 h2; omega
  | succ k ih =>
    intro m h j h1 h2
    simp only [zff] at h
    by_cases c : zfree W S m
    · rw [if_pos c] at h; simp at h
    · rw [if_neg c] at h
      by_cases e : j = m
      · subst e; exact c
      · exact ih h j (by omega) (by omega)
theorem zb_pos {W : Nat → Nat} {n S : Nat} (hn : n ≤ 7) (hW : ∀ m, W m < 128) (hS : S < 128) (h0 : S ≠ 0) (hSn : ∀ m, m < 7 → S.testBit m = true → m < n) (h : 0 < zb W n S) : ∃ w, zff W S 7 0 = some w ∧ w < n ∧ zfree W S w ∧ 0 < zb W n (zrm S w) := by
  cases hz : zff W S 7 0 with
  | none =>
    obtain ⟨m, h1, h2, -⟩ := zb_ex1 hn hS h0 h
    exact absurd h2 (zff_none hz m (Nat.zero_le _) (by omega))
  | some w =>
    obtain ⟨-, a2, a3, -⟩ := zff_some hz
    have hw := hSn w (by omega) a3.1
    exact ⟨w, rfl, hw, a3, zb_any hn hW 7 S w (zcd_le7 S) hS hw a3 h⟩
/-- the k-th of the first ORDER -/
def zga (W : Nat → Nat) : Nat → Nat → Int32
  | 0, S => if S = 0 then -1 else match zff W S 7 0 with | none => -1 | some w => nI w
  | k + 1, S => if S = 0 then -1 else match zff W S 7 0 with | none => -1 | some w => zga W k (zrm S w)
-- the class counts forwards
theorem zsub_iff {s O : Nat} (hs : s < 128) : s &&& (127 ^^^ O) = 0 ↔ ∀ o, o < 7 → s.testBit o = true → O.testBit o = true := by
  constructor
  · intro h o ho hb
    have := congrArg (fun x => x.testBit o) h
    simp only [zb_dt ho, hb, Nat.zero_testBit, Bool.true_and] at this
    cases hO : O.testBit o with
    | true => rfl
    | false => rw [hO] at this; simp at this
  · intro h
    refine zb_ext (zb_al hs) (by decide) (fun o ho => ?_)
    rw [zb_dt ho, Nat.zero_testBit]
    cases hb : s.testBit o with
    | false => rfl
    | true => rw [h o ho hb]; rfl
theorem zsub_le : ∀ s, s < 128 → ∀ O, O < 128 → s &&& (127 ^^^ O) = 0 → s ≤ O := by decide +kernel
theorem zor_gt : ∀ s, s < 128 → ∀ m, m < 7 → s.testBit m = false → s < s ||| 2 ^ m := by decide +kernel
/-- what of ORDERS to all of O is behind a set that is home -/
def zGt (F : Nat → Nat) (W : Nat → Nat) (n O s : Nat) : Nat := if s &&& (127 ^^^ O) = 0 then F s * zb W n (O &&& (127 ^^^ s)) else 0
def zFu (F : Nat → Nat) (w x : Nat) : Nat → Nat := fun s => if s = w then F w + x else F s
theorem zGt_up {F W : Nat → Nat} {n O w x i k : Nat} (h1 : i ≤ w) (h2 : w < i + k) (hw : w &&& (127 ^^^ O) = 0) : zsum (zGt (zFu F w x) W n O) i k = zsum (zGt F W n O) i k + x * zb W n (O &&& (127 ^^^ w)) := by
  have := zsum_delta (c := x * zb W n (O &&& (127 ^^^ w))) (j0 := w) (i := i) (k := k)
  rw [if_pos ⟨h1, h2⟩] at this
  rw [← this, ← zsum_add]
  refine zsum_congr fun s _ _ => ?_
  unfold zGt zFu
  by_cases e : s = w
  · subst e; rw [if_pos hw, if_pos rfl, if_pos rfl, if_pos hw, Nat.add_mul]
  · rw [if_neg e, if_neg e]; rfl
/-- a set h of men is home: who goes next -/
abbrev znx (W : Nat → Nat) (O h m : Nat) : Prop := (O &&& (127 ^^^ h)).testBit m = true ∧ W m &&& (127 ^^^ h) = 0
theorem znx_free {W : Nat → Nat} {O h m : Nat} (hm : m < 7) (hO : O < 128) (hW : W m < 128) (hWO : W m &&& (127 ^^^ O) = 0) : znx W O h m ↔ zfree W (O &&& (127 ^^^ h)) m := by
  unfold znx zfree
  constructor
  · rintro ⟨a, c⟩
    refine ⟨a, zb_ext (zb_al hW) (by decide) (fun o ho => ?_)⟩
    have := congrArg (fun x => x.testBit o) c
    simp only [zb_dt ho, Nat.zero_testBit] at this
    rw [Nat.testBit_and, zb_dt ho, Nat.zero_testBit]
    revert this
    cases (W m).testBit o <;> cases O.testBit o <;> cases h.testBit o <;> decide
  · rintro ⟨a, c⟩
    refine ⟨a, zb_ext (zb_al hW) (by decide) (fun o ho => ?_)⟩
    have h1 := congrArg (fun x => x.testBit o) c
    simp only [Nat.testBit_and, zb_dt ho, Nat.zero_testBit] at h1
    have h2 := (zsub_iff hW).mp hWO o ho
    rw [zb_dt ho, Nat.zero_testBit]
    revert h1 h2
    cases (W m).testBit o <;> cases O.testBit o <;> cases h.testBit o <;> decide
theorem zhome_next {O h m : Nat} (hm : m < 7) (hO : O < 128) (hh : h < 128) (hb : (O &&& (127 ^^^ h)).testBit m = true) : O &&& (127 ^^^ (h ||| 2 ^ m)) = zrm (O &&& (127 ^^^ h)) m := by
  refine zb_ext (zb_al hO) (zrm_lt (zb_al hO)) (fun o ho => ?_)
  rw [zb_dt ho, zrm_bit ho, zb_dt ho, Nat.testBit_or, zb_tp]
  cases O.testBit o <;> cases h.testBit o <;> cases decide (m = o) <;> rfl

/-! sets of men as bits; nearest, meet -/
theorem zb_and : ∀ a, a < 128 → ∀ c, c < 128 → nI a &&& nI c = nI (a &&& c) := by decide +kernel
theorem zb_or : ∀ a, a < 128 → ∀ c, c < 128 → nI a ||| nI c = nI (a ||| c) := by decide +kernel
theorem zb_andn : ∀ a, a < 128 → ∀ c, c < 128 → nI a &&& (nI c ^^^ (-1)) = nI (a &&& (127 ^^^ c)) := by decide +kernel
theorem zb_bit : ∀ a, a < 128 → ∀ m, m < 7 → (nI a >>> (nI m &&& 31)) &&& 1 = nI (a.testBit m).toNat := by decide +kernel
theorem zb_one : ∀ m, m < 7 → (1 : Int32) <<< (nI m &&& 31) = nI (2 ^ m) := by decide +kernel
theorem zb_p : ∀ m, m < 7 → 2 ^ m < 128 := by decide
theorem zb_m1 : ∀ a, a < 128 → nI a &&& (-1) = nI a := by decide +kernel
theorem zb_lt {a c : Nat} (ha : a < 128) (hc : c < 128) : a ||| c < 128 := Nat.or_lt_two_pow (n := 7) ha hc
theorem zb_al {a c : Nat} (ha : a < 128) : a &&& c < 128 := Nat.lt_of_le_of_lt Nat.and_le_left ha
theorem zb_nl {a : Nat} (ha : a < 128) : 127 ^^^ a < 128 := Nat.xor_lt_two_pow (n := 7) (by decide) ha
theorem zb_bit0 {a m : Nat} (ha : a < 128) (hm : m < 7) : (nI a >>> (nI m &&& 31)) &&& 1 = 0 ↔ a.testBit m = false := by
  rw [zb_bit a ha m hm]
  cases a.testBit m <;> decide
theorem zb_bit1 {a m : Nat} (ha : a < 128) (hm : m < 7) : (nI a >>> (nI m &&& 31)) &&& 1 = 1 ↔ a.testBit m = true := by
  rw [zb_bit a ha m hm]
  cases a.testBit m <;> decide
theorem zb_set {a m : Nat} (ha : a < 128) (hm : m < 7) : nI a ||| ((1 : Int32) <<< (nI m &&& 31)) = nI (a ||| 2 ^ m) := by
  rw [zb_one m hm, zb_or a ha _ (zb_p m hm)]
theorem zb_tp {m j : Nat} : (2 ^ m).testBit j = decide (m = j) := Nat.testBit_two_pow
theorem zb_ext {a c : Nat} (ha : a < 128) (hc : c < 128) (h : ∀ m, m < 7 → a.testBit m = c.testBit m) : a = c := by
  apply Nat.eq_of_testBit_eq
  intro i
  by_cases hi : i < 7
  · exact h i hi
  · rw [Nat.testBit_lt_two_pow (Nat.lt_of_lt_of_le ha (show 128 ≤ 2 ^ i from Nat.pow_le_pow_right (n := 2) (by decide) (show 7 ≤ i by omega))), Nat.testBit_lt_two_pow (Nat.lt_of_lt_of_le hc (show 128 ≤ 2 ^ i from Nat.pow_le_pow_right (n := 2) (by decide) (show 7 ≤ i by omega)))]
/-- the men (bits) who are so -/
def zbs (P : Nat → Bool) : Nat → Nat
  | 0 => 0
  | n + 1 => zbs P n ||| (if P n = true then 2 ^ n else 0)
theorem zbs_lt {P : Nat → Bool} {n : Nat} (h : n ≤ 7) : zbs P n < 128 := by
  induction n with
  | zero => exact (show 0 < 128 by decide)
  | succ n ih =>
    simp only [zbs]
    refine zb_lt (ih (by omega)) ?_
    split
    · exact zb_p n (by omega)
    · decide
theorem zbs_bit {P : Nat → Bool} {n m : Nat} : (zbs P n).testBit m = (decide (m < n) && P m) := by
  induction n with
  | zero => simp [zbs]
  | succ n ih =>
    simp only [zbs, Nat.testBit_or, ih]
    by_cases e : m = n
    · subst e
      by_cases h : P m = true
      · rw [if_pos h, zb_tp]; simp [h]
      · rw [if_neg h]; simp at h; simp [h]
    · have : (if P n = true then 2 ^ n else 0).testBit m = false := by
        split
        · rw [zb_tp]; simp; omega
        · simp
      rw [this, Bool.or_false]
      congr 1
      exact decide_eq_decide.mpr (by omega)
theorem zbs_t {P : Nat → Bool} {n : Nat} (h7 : n < 7) (h : P n = true) : nI (zbs P n) ||| ((1 : Int32) <<< (nI n &&& 31)) = nI (zbs P (n + 1)) := by
  rw [zb_set (zbs_lt (by omega)) h7]; simp only [zbs]; rw [if_pos h]
theorem zbs_f {P : Nat → Bool} {n : Nat} (h : P n = false) : zbs P (n + 1) = zbs P n := by
  simp only [zbs]; rw [if_neg (by rw [h]; decide), Nat.or_zero]
theorem zbs_congr {P Q : Nat → Bool} {n : Nat} (h : ∀ m, m < n → P m = Q m) : zbs P n = zbs Q n := by
  induction n with
  | zero => rfl
  | succ n ih => simp only [zbs]; rw [ih (fun m hm => h m (by omega)), h n (by omega)]
section
variable {d : Nat} {Z : zZ} {J : zJ} {I I' : zI} {t u v b : Nat} {τ : Nat → Nat → Nat} {Λ : Nat → Option zLaw} {ρ : Nat → Nat}
/-- threads that lie -/
def zthr (ρ : Nat → Nat) (some : Bool) (m : Nat) : Bool := decide (0 < ρ (14 + m)) == some
theorem C_whose {d1 t1 : Nat} (hd : zDy Z d1) (ht : zTx Z t1) (h7 : τ 0 0 ≤ 7) (hT : I t1 2 = nI (τ 0 0)) (hC : zCD I d1 τ ρ) (hB : zRB ρ) (sm : Bool) : zE (d + 1) kX0_whoseThreadLies 0 [some (.ref d1), some (.ref t1), some (.int (zbi (sm = true))), none, none] [] Z I J (some (.int (nI (zbs (zthr ρ sm) (τ 0 0)))), Z, I, J) := by
  have loop : ∀ m, m ≤ τ 0 0 → zE (d + 1) kX0_whoseThreadLies 5 [some (.ref d1), some (.ref t1), some (.int (zbi (sm = true))), some (.int (nI (zbs (zthr ρ sm) m))), some (.int (nI m))] [] Z I J (some (.int (nI (zbs (zthr ρ sm) (τ 0 0)))), Z, I, J) := by
    refine zloop _ _ ?_ ?_
    · exact BX0_whoseThreadLies_5 _ _ _ hd ht ⟨fun _ => rfl, fun q => absurd (by rw [hT]; exact Int32.le_refl _) q⟩
    · intro m hm ih
      have hb := hB (14 + m) (by omega)
      have a3 : zat I (d1 + 3) 7 (nI m) = nI (ρ (14 + m)) := by rw [zatI (by omega) (by decide), (hC.2.1 m hm).2.2.1]
      have h0 : nI (ρ (14 + m)) ≤ 0 ↔ ¬ 0 < ρ (14 + m) := by rw [show (0 : Int32) = nI 0 from rfl, zle' (by omega) (by decide)]; omega
      have yes : zthr ρ sm m = true → zE (d + 1) kX0_whoseThreadLies 5 [some (.ref d1), some (.ref t1), some (.int (zbi (sm = true))), some (.int (nI (zbs (zthr ρ sm) m) ||| ((1 : Int32) <<< (nI m &&& 31)))), some (.int (nI m + 1))] [] Z I J (some (.int (nI (zbs (zthr ρ sm) (τ 0 0)))), Z, I, J) := fun e => by rw [zbs_t (by omega) e, zadd1]; exact ih
      have no : zthr ρ sm m = false → zE (d + 1) kX0_whoseThreadLies 5 [some (.ref d1), some (.ref t1), some (.int (zbi (sm = true))), some (.int (nI (zbs (zthr ρ sm) m))), some (.int (nI m + 1))] [] Z I J (some (.int (nI (zbs (zthr ρ sm) (τ 0 0)))), Z, I, J) := fun e => by rw [← zbs_f e, zadd1]; exact ih
      refine BX0_whoseThreadLies_5 _ _ _ hd ht ⟨fun q => ?_, fun _ => ⟨fun q => ⟨fun q2 => no ?_, fun q2 y ey => ?_⟩, fun q => ⟨fun q2 => no ?_, fun q2 y ey => ?_⟩⟩⟩
      · exfalso; rw [hT, zle' (by omega) (by omega)] at q; omega
      all_goals rw [a3, h0] at q
      · cases sm
        · exact absurd rfl q2
        · unfold zthr; simp; omega
      · rw [ey]; refine yes ?_
        cases sm
        · unfold zthr; simp; omega
        · exact absurd q2 (by decide)
      · cases sm
        · unfold zthr; simp; omega
        · exact absurd rfl q2
      · rw [ey]; refine yes ?_
        cases sm
        · exact absurd q2 (by decide)
        · unfold zthr; simp; omega
  exact BX0_whoseThreadLies_0 _ hd ht (loop 0 (Nat.zero_le _))
theorem C_lostBits {d1 t1 : Nat} (hd : zDy Z d1) (ht : zTx Z t1) (hW : zTW τ Λ) (hT : I t1 2 = nI (τ 0 0)) (hC : zCD I d1 τ ρ) (hD : zDW τ ρ) : zE (d + 1) kX0_lostBits 0 [some (.ref d1), some (.ref t1), none, none] [] Z I J (some (.int (nI (zbs (fun m => decide (ρ (21 + m) = 1)) (τ 0 0)))), Z, I, J) := by
  have h7 := hW.1.1
  have loop : ∀ m, m ≤ τ 0 0 → zE (d + 1) kX0_lostBits 4 [some (.ref d1), some (.ref t1), some (.int (nI (zbs (fun m => decide (ρ (21 + m) = 1)) m))), some (.int (nI m))] [] Z I J (some (.int (nI (zbs (fun m => decide (ρ (21 + m) = 1)) (τ 0 0)))), Z, I, J) := by
    refine zloop _ _ ?_ ?_
    · exact BX0_lostBits_4 _ _ hd ht ⟨fun _ => rfl, fun q => absurd (by rw [hT]; exact Int32.le_refl _) q⟩
    · intro m hm ih
      have hl := (hD.man hm).2.2.2.1
      have a4 : zat I (d1 + 4) 7 (nI m) = nI (ρ (21 + m)) := by rw [zatI (by omega) (by decide), (hC.2.1 m hm).2.2.2]
      refine BX0_lostBits_4 _ _ hd ht ⟨fun q => ?_, fun _ y ey => ?_⟩
      · exfalso; rw [hT, zle' (by omega) (by omega)] at q; omega
      · rw [a4] at ey
        by_cases e : ρ (21 + m) = 1
        · rw [e, show nI 1 = (1 : Int32) from rfl, zbs_t (by omega) (by simp [e])] at ey
          rw [ey, zadd1]; exact ih
        · have e0 : ρ (21 + m) = 0 := by omega
          have ez : nI 0 <<< (nI m &&& 31) = 0 := by
            have : ∀ m, m < 7 → nI 0 <<< (nI m &&& 31) = 0 := by decide +kernel
            exact this m (by omega)
          rw [e0, ez, Int32.or_zero, ← zbs_f (P := fun m => decide (ρ (21 + m) = 1)) (n := m) (by simp [e])] at ey
          rw [ey, zadd1]; exact ih
  exact BX0_lostBits_0 hd ht (loop 0 (Nat.zero_le _))
theorem C_span {d1 : Nat} (hd : zDy Z d1) (hW : zTW τ Λ) (hC : zCD I d1 τ ρ) (hD : zDW τ ρ) {m o : Nat} (hm : m < τ 0 0) (ho : o < τ 0 0) : zE (d + 2) kX0_span 0 [some (.ref d1), some (.int (nI m)), some (.int (nI o))] [] Z I J (some (.int (nI (zfar ρ (ρ m) (ρ (7 + m)) (ρ o) (ρ (7 + o))))), Z, I, J) := by
  have h7 := hW.1
  have p1 := hD.man hm
  have p2 := hD.man ho
  refine BX0_span_0 _ _ hd ⟨_, ?_, rfl⟩
  rw [zatI (by omega) (by decide), zatI (by omega) (by decide), zatI (by omega) (by decide), zatI (by omega) (by decide), (hC.2.1 m hm).1, (hC.2.1 m hm).2.1, (hC.2.1 o ho).1, (hC.2.1 o ho).2.1]
  exact C_apart (by have := p1.1; omega) (by have := p1.2.1; omega) (by have := p2.1; omega) (by have := p2.2.1; omega)
theorem zfar_le (hW : zTW τ Λ) (hD : zDW τ ρ) {m o : Nat} (hm : m < τ 0 0) (ho : o < τ 0 0) : zfar ρ (ρ m) (ρ (7 + m)) (ρ o) (ρ (7 + o)) ≤ 100 := by
  have h7 := hW.1
  have p1 := hD.man hm
  have p2 := hD.man ho
  unfold zfar
  have := p1.1; have := p1.2.1; have := p2.1; have := p2.2.1
  split <;> split <;> omega
/-- the nearest so far -/
def znr (f : Nat → Nat) (m : Nat) : Nat → Option (Nat × Nat)
  | 0 => none
  | n + 1 => if n = m then znr f m n else match znr f m n with
    | none => some (n, f n)
    | some (w, g) => if f n < g then some (n, f n) else some (w, g)
theorem znr_b {f : Nat → Nat} {m n c w g : Nat} (hf : ∀ i, i < n → f i ≤ c) (h : znr f m n = some (w, g)) : w < n ∧ g ≤ c := by
  induction n generalizing w g with
  | zero => simp [znr] at h
  | succ n ih =>
    simp only [znr] at h
    by_cases e : n = m
    · rw [if_pos e] at h; have := ih (fun i hi => hf i (by omega)) h; omega
    · rw [if_neg e] at h
      have hn := hf n (by omega)
      cases hz : znr f m n with
      | none => rw [hz] at h; injection h with h; injection h with h1 h2; omega
      | some wg =>
        obtain ⟨w', g'⟩ := wg
        rw [hz] at h
        have := ih (fun i hi => hf i (by omega)) hz
        simp only at h
        split at h <;> injection h with h <;> injection h with h1 h2 <;> omega
def znc (x : Option (Nat × Nat)) : Int32 × Int32 := match x with
  | none => (-2, 1000000)
  | some (w, g) => (nI w, nI g)
def znm (x : Option (Nat × Nat)) : Int32 × Int32 := match x with
  | none => (-2, -2)
  | some (w, g) => (nI w, nI g)
theorem Q_nearest (h : zR0 Z I t u v τ Λ b ρ) (x w : Int32) : zQ2 kX11_nearest kX12_nearest [some (.ref 0), some (.int x), some (.int w), none, none, none, none] [some (.ref 420), some (.int x), some (.int w), none, none, none, none] Z I J := by
  have h7 := h.n7
  by_cases hx : zism τ x
  · obtain ⟨m, hm, rfl⟩ := (zism_iff h7 x).mp hx
    have nm : ¬ zbi (zism τ (nI m)) = 0 := zbi_ne0.mpr hx
    by_cases hw : w = 0 ∨ w = 1
    · have hwin : 0 ≤ w ∧ w ≤ 1 := by rcases hw with rfl | rfl <;> decide
      obtain ⟨f, hf⟩ : ∃ f : Nat → Nat, f = fun o => zfar ρ (ρ m) (ρ (7 + m)) (ρ o) (ρ (7 + o)) := ⟨_, rfl⟩
      have fle : ∀ o, o < τ 0 0 → f o ≤ 100 := fun o ho => by rw [hf]; exact zfar_le h.W h.D hm ho
      obtain ⟨r, hr⟩ : ∃ r : Int32, r = if w = 0 then (znm (znr f m (τ 0 0))).1 else (znm (znr f m (τ 0 0))).2 := ⟨_, rfl⟩
      have cs : ∀ o, o < τ 0 0 → zE 9 kX0_span 0 [some (.ref 47), some (.int (nI m)), some (.int (nI o))] [] Z I J (some (.int (nI (f o))), Z, I, J) := fun o ho => by rw [hf]; exact C_span (ly_d47 h.L) h.W h.C h.D hm ho
      have cl : ∀ o, o ≤ τ 0 0 → zE 10 kX11_nearest 30 [some (.ref 0), some (.int (nI m)), some (.int w), some (.int (znc (znr f m o)).1), some (.int (znc (znr f m o)).2), some (.int (nI o)), none] [] Z I J (some (.int r), Z, I, J) := by
        refine zloop _ _ ?_ ?_
        · refine BX11_nearest_30 (d := 7) _ _ _ _ _ h.L ⟨fun _ => ⟨fun q => ?_, fun q => ⟨fun q2 => ?_, fun q2 => ?_⟩⟩, fun q => absurd (by rw [h.men]; exact Int32.le_refl _) q⟩
          · rw [hr, if_pos q]; cases znr f m (τ 0 0) <;> rfl
          · rw [hr, if_neg q]
            cases hz : znr f m (τ 0 0) with
            | none => rw [hz] at q2; exact absurd rfl q2
            | some wg => rfl
          · rw [hr, if_neg q]
            cases hz : znr f m (τ 0 0) with
            | none => rfl
            | some wg =>
              obtain ⟨w', g'⟩ := wg
              have := znr_b fle hz
              rw [hz] at q2
              have q2 : nI w' = -2 := q2
              exact absurd (q2 ▸ znn (by omega) : (0 : Int32) ≤ -2) (by decide)
        · intro o ho ih
          have fo := fle o ho
          simp only [znr] at ih
          refine BX11_nearest_30 (d := 7) _ _ _ _ _ h.L ⟨fun q => ?_, fun _ => ⟨_, cs o ho, fun q => ?_, fun q => ⟨fun q2 => ?_, fun q2 => ?_⟩⟩⟩
          · exfalso; rw [h.men, zle' (by omega) (by omega)] at q; omega
          all_goals rw [zeq (by omega) (by omega)] at q
          · rw [if_pos q] at ih; rw [zadd1]; exact ih
          all_goals rw [if_neg q] at ih
          all_goals rw [zadd1]
          · cases hz : znr f m o with
            | none =>
              rw [hz] at q2
              have q2 : (1000000 : Int32) ≤ nI (f o) := q2
              rw [show (1000000 : Int32) = nI 1000000 from rfl, zle' (by decide) (by omega)] at q2; omega
            | some wg =>
              obtain ⟨w', g'⟩ := wg
              have hb := znr_b (fun i hi => fle i (by omega)) hz
              rw [hz] at q2 ih
              have q2 : nI g' ≤ nI (f o) := q2
              rw [zle' (by omega) (by omega)] at q2
              simp only [if_neg (show ¬ f o < g' by omega)] at ih
              exact ih
          · cases hz : znr f m o with
            | none => rw [hz] at ih; exact ih
            | some wg =>
              obtain ⟨w', g'⟩ := wg
              have hb := znr_b (fun i hi => fle i (by omega)) hz
              rw [hz] at q2 ih
              have q2 : ¬ nI g' ≤ nI (f o) := q2
              rw [zle' (by omega) (by omega)] at q2
              simp only [if_pos (show f o < g' by omega)] at ih
              exact ih
      have c0 := cl 0 (Nat.zero_le _)
      refine zQ2.of h r ⟨I, BX11_nearest_0 (d := 7) _ _ h.L ⟨_, C_isMan h.L h7 h.men, fun q => absurd q nm, fun _ => ⟨fun _ => c0, fun q => ⟨fun _ => c0, fun q2 => absurd hw (fun z => z.elim q q2)⟩⟩⟩, zscr.rf⟩ (fun I1 h1 => ?_)
      have hv2 := h1.M.1.1
      have vl : vp_in (I1 420 18) 2 := by rw [h1.M.1.2]; exact zvin hv2 (by decide)
      have n0 : I1 431 (I1 420 18).toNatClampNeg = nI (τ 0 0) := by rw [h1.M.1.2, zclm (by omega)]; exact h1.M.2.1.1
      have r0 : ∀ o, o < 7 → I1 457 (nI o).toNatClampNeg = nI (ρ o) := fun o ho => by rw [zclm (by omega)]; exact h1.R.at (by omega)
      have r7 : ∀ o, o < 7 → I1 457 ((7 : Int32) + nI o).toNatClampNeg = nI (ρ (7 + o)) := fun o ho => by rw [zk_7, zclm (by omega)]; exact h1.R.at (by omega)
      have v0 : ∀ o, o < 7 → vp_in (nI o) 1290 := fun o ho => zvin (by omega) (by decide)
      have v7 : ∀ o, o < 7 → vp_in ((7 : Int32) + nI o) 1290 := fun o ho => by rw [zk_7]; exact zvin (by omega) (by decide)
      have pm := h1.D.man hm
      have hw12 := h1.W.1
      have ml : ∀ o, o ≤ τ 0 0 → zE 10 kX12_nearest 29 [some (.ref 420), some (.int (nI m)), some (.int w), some (.int (znm (znr f m o)).1), some (.int (znm (znr f m o)).2), some (.int (nI o)), none] [] Z I1 J (some (.int r), Z, I1, J) := by
        refine zloop _ _ ?_ ?_
        · refine BX12_nearest_29 (d := 8) _ _ _ _ _ h1.L ⟨vl, fun _ => ⟨fun q => ?_, fun q => ?_⟩, fun q => absurd (by rw [n0]; exact Int32.le_refl _) q⟩
          · rw [hr, if_neg q]
          · rw [hr, if_pos q]
        · intro o ho ih
          have fo := fle o ho
          have po := h1.D.man ho
          simp only [znr] at ih
          refine BX12_nearest_29 (d := 8) _ _ _ _ _ h1.L ⟨vl, fun q => ?_, fun _ => ⟨v0 m (by omega), v0 o (by omega), v7 m (by omega), v7 o (by omega), fun y ey => ?_⟩⟩
          · exfalso; rw [n0, zle' (by omega) (by omega)] at q; omega
          · rw [r0 m (by omega), r0 o (by omega), r7 m (by omega), r7 o (by omega), zfap (ρ := ρ) (by have := pm.1; omega) (by have := pm.2.1; omega) (by have := po.1; omega) (by have := po.2.1; omega)] at ey
            have ey : y = nI (f o) := by rw [ey, hf]
            subst ey
            refine ⟨fun q => ?_, fun q => ⟨fun q2 => ?_, fun q2 => ⟨fun q3 => ?_, fun q3 => ?_⟩⟩⟩
            all_goals rw [zeq (by omega) (by omega)] at q
            · rw [if_pos q] at ih; rw [zadd1]; exact ih
            all_goals rw [if_neg q] at ih
            all_goals rw [zadd1]
            · cases hz : znr f m o with
              | none => rw [hz] at ih; exact ih
              | some wg =>
                obtain ⟨w', g'⟩ := wg
                have hb := znr_b (fun i hi => fle i (by omega)) hz
                rw [hz] at q2
                exact absurd q2 (zneg (by omega))
            · cases hz : znr f m o with
              | none => rw [hz] at q2; exact absurd (by decide) q2
              | some wg =>
                obtain ⟨w', g'⟩ := wg
                have hb := znr_b (fun i hi => fle i (by omega)) hz
                rw [hz] at q3 ih
                have q3 : nI (f o) < nI g' := q3
                rw [zlt (by omega) (by omega)] at q3
                simp only [if_pos q3] at ih
                exact ih
            · cases hz : znr f m o with
              | none => rw [hz] at q2; exact absurd (by decide) q2
              | some wg =>
                obtain ⟨w', g'⟩ := wg
                have hb := znr_b (fun i hi => fle i (by omega)) hz
                rw [hz] at q3 ih
                have q3 : ¬ nI (f o) < nI g' := q3
                rw [zlt (by omega) (by omega)] at q3
                simp only [if_neg q3] at ih
                exact ih
      exact ⟨I1, BX12_nearest_0 (d := 8) _ _ h1.L ⟨_, M_isMan h1.L h1.W h1.M, fun q => absurd q nm, fun _ => ⟨fun _ => ml 0 (Nat.zero_le _), fun q => absurd hwin (zbi_eq0.mp q)⟩⟩, zscr.rf⟩
    · have hw' : ¬ (0 ≤ w ∧ w ≤ 1) := fun z => by
        obtain ⟨j, hj, rfl⟩ := znI_ex w (Int32.not_lt.mpr z.1)
        have := z.2
        rw [show (1 : Int32) = nI 1 from rfl, zle' hj (by decide)] at this
        obtain rfl | rfl : j = 0 ∨ j = 1 := by omega
        · exact hw (Or.inl rfl)
        · exact hw (Or.inr rfl)
      exact zQ2.of h (-1) ⟨I, BX11_nearest_0 (d := 7) _ _ h.L ⟨_, C_isMan h.L h7 h.men, fun _ => rfl, fun _ => ⟨fun q => absurd (Or.inl q) hw, fun _ => ⟨fun q => absurd (Or.inr q) hw, fun _ => rfl⟩⟩⟩, zscr.rf⟩ (fun I1 h => ⟨I1, BX12_nearest_0 (d := 8) _ _ h.L ⟨_, M_isMan h.L h.W h.M, fun _ => rfl, fun _ => ⟨fun q => absurd (zbi_ne0.mp q) hw', fun _ => rfl⟩⟩, zscr.rf⟩)
  · have nm : zbi (zism τ x) = 0 := zbi_eq0.mpr hx
    exact zQ2.of h (-1) ⟨I, BX11_nearest_0 (d := 7) _ _ h.L ⟨_, C_isMan h.L h7 h.men, fun _ => rfl, fun q => absurd nm q⟩, zscr.rf⟩ (fun I1 h => ⟨I1, BX12_nearest_0 (d := 8) _ _ h.L ⟨_, M_isMan h.L h.W h.M, fun _ => rfl, fun q => absurd nm q⟩, zscr.rf⟩)
/-- MEET -/
def zmt (τ : Nat → Nat → Nat) (Λ : Nat → Option zLaw) (m o : Nat) : Nat → Nat → (Nat → Nat) → Int32
  | 0, _, _ => -2
  | f + 1, k, ρ => if ρ m = ρ o ∧ ρ (7 + m) = ρ (7 + o) then nI k else zmt τ Λ m o f (k + 1) (zmi τ Λ (fun _ => 0) ρ)
theorem zfar0 {x y x' y' : Nat} : zfar ρ x y x' y' = 0 ↔ x = x' ∧ y = y' := by
  unfold zfar; split <;> split <;> omega
theorem C_meet_loop (hL : zLY Z t u) (ht3 : t = 3 ∨ t = 30) (hW : zTW τ Λ) {m o : Nat} (hm : m < τ 0 0) (ho : o < τ 0 0) : ∀ (f k : Nat) (I : zI) (ρ : Nat → Nat) (b : Nat), k + f = 201 → b + 7 * f < 900000000 → zSx I → zCT I t τ Λ → zCE I 57 τ ρ → zDW τ ρ → zRb b ρ →
    ∃ I', zE (d + 6) kX11_meet 24 [some (.ref 0), some (.int (nI m)), some (.int (nI o)), some (.int (nI k))] [] Z I J (some (.int (zmt τ Λ m o f k ρ)), Z, I', J) ∧ zfb 57 t I I' := by
  intro f
  induction f with
  | zero =>
    intro k I ρ b hk hb hS hT hC hD hB
    refine ⟨I, BX11_meet_24 _ _ _ hL ⟨fun _ => rfl, fun q => ?_⟩, zfb.rf⟩
    exfalso; apply q; rw [show (200 : Int32) = nI 200 from rfl, zlt (by decide) (by omega)]; omega
  | succ f ih =>
    intro k I ρ b hk hb hS hT hC hD hB
    have hn : ¬ (200 : Int32) < nI k := by rw [show (200 : Int32) = nI 200 from rfl, zlt (by decide) (by omega)]; omega
    have hs := C_span (d := d + 3) (J := J) (ly_d57 hL) hW hC.1 hD hm ho
    have hfl := zfar_le hW hD hm ho
    simp only [zmt]
    by_cases e : ρ m = ρ o ∧ ρ (7 + m) = ρ (7 + o)
    · rw [if_pos e]
      refine ⟨I, BX11_meet_24 _ _ _ hL ⟨fun q => absurd q hn, fun _ => ⟨_, hs, fun q => ?_, fun _ => rfl⟩⟩, zfb.rf⟩
      exfalso; rw [zn0 (by omega), zfar0] at q; exact q e
    · rw [if_neg e]
      obtain ⟨I1, g1, g2, g3⟩ := C_goBy (d := d) (J := J) hL (ly_d57 hL) (ly_tx hL) (by decide) (by omega) hW (by omega) hS hT hC hD hB
      obtain ⟨k1, k2⟩ := zmi_ok hW (fun _ => 0) hD hB
      obtain ⟨I', j1, j2⟩ := ih (k + 1) I1 _ (b + 7) (by omega) (by omega) (hS.b g3 (by omega) (by decide)) (hT.b g3 (by omega)) g2 k1 k2
      refine ⟨I', BX11_meet_24 _ _ _ hL ⟨fun q => absurd q hn, fun _ => ⟨_, hs, fun _ => ⟨I1, g1, by rw [zadd1]; exact j1⟩, fun q => ?_⟩⟩, g3.tr j2⟩
      exfalso; rw [zn0 (by omega), zfar0] at q; exact e q
theorem M_meet_loop (hL : zLY Z t u) (hW : zTW τ Λ) {m o : Nat} (hm : m < τ 0 0) (ho : o < τ 0 0) : ∀ (f k : Nat) (I : zI) (ρ : Nat → Nat) (b : Nat), k + f = 201 → b + 7 * f < 600000000 → zMT I v τ Λ → zRM I 458 0 ρ → zDW τ ρ → zRb b ρ → (∀ m, m < 7 → I 459 m = nI 0) →
    ∃ I', zE (d + 6) kX12_meet 17 [some (.ref 420), some (.int (nI m)), some (.int (nI o)), some (.int (nI k))] [] Z I J (some (.int (zmt τ Λ m o f k ρ)), Z, I', J) ∧ zfw I I' ∧ zw I' := by
  have h7 := hW.1.1
  intro f
  induction f with
  | zero =>
    intro k I ρ b hk hb hM hR hD hB hl
    refine ⟨I, BX12_meet_17 _ _ _ hL ⟨fun _ => rfl, fun q => ?_⟩, zfm.rf, zw.of hR hB (by omega)⟩
    exfalso; apply q; rw [show (200 : Int32) = nI 200 from rfl, zlt (by decide) (by omega)]; omega
  | succ f ih =>
    intro k I ρ b hk hb hM hR hD hB hl
    have hn : ¬ (200 : Int32) < nI k := by rw [show (200 : Int32) = nI 200 from rfl, zlt (by decide) (by omega)]; omega
    have hBB := hB.b (by omega)
    have r0 : ∀ o, o < 7 → I 458 (nI o).toNatClampNeg = nI (ρ o) := fun o ho => by rw [zclm (by omega)]; exact hR.at (by omega)
    have r7 : ∀ o, o < 7 → I 458 ((7 : Int32) + nI o).toNatClampNeg = nI (ρ (7 + o)) := fun o ho => by rw [zk_7, zclm (by omega)]; exact hR.at (by omega)
    have v0 : ∀ o, o < 7 → vp_in (nI o) 1290 := fun o ho => zvin (by omega) (by decide)
    have v7 : ∀ o, o < 7 → vp_in ((7 : Int32) + nI o) 1290 := fun o ho => by rw [zk_7]; exact zvin (by omega) (by decide)
    have b0 : ∀ o, o < 20 → ρ o < 1000000000 := fun o ho => hBB o (by omega)
    have e0 : I 458 (nI m).toNatClampNeg = I 458 (nI o).toNatClampNeg ↔ ρ m = ρ o := by rw [r0 m (by omega), r0 o (by omega), zeq (by have := b0 m (by omega); omega) (by have := b0 o (by omega); omega)]
    have e7 : I 458 ((7 : Int32) + nI m).toNatClampNeg = I 458 ((7 : Int32) + nI o).toNatClampNeg ↔ ρ (7 + m) = ρ (7 + o) := by rw [r7 m (by omega), r7 o (by omega), zeq (by have := b0 (7 + m) (by omega); omega) (by have := b0 (7 + o) (by omega); omega)]
    simp only [zmt]
    by_cases e : ρ m = ρ o ∧ ρ (7 + m) = ρ (7 + o)
    · rw [if_pos e]
      exact ⟨I, BX12_meet_17 _ _ _ hL ⟨fun q => absurd q hn, fun _ => ⟨v0 m (by omega), v0 o (by omega), fun q => absurd (e0.mpr e.1) q, fun _ => ⟨v7 m (by omega), v7 o (by omega), fun q => absurd (e7.mpr e.2) q, fun _ => rfl⟩⟩⟩, zfm.rf, zw.of hR hB (by omega)⟩
    · rw [if_neg e]
      obtain ⟨I1, g1, g2, g3⟩ := M_minuteGoes (d := d) (J := J) (lm := fun _ => 0) hL hW (fun _ _ => by decide) (by omega) hM hR hD hB hl
      obtain ⟨k1, k2⟩ := zmi_ok hW (fun _ => 0) hD hB
      obtain ⟨I', j1, j2⟩ := ih (k + 1) I1 _ (b + 7) (by omega) (by omega) (hM.fw g3) g2 k1 k2 (fun m hm => by rw [g3.row (by decide) (by decide) (by decide) (by decide)]; exact hl m hm)
      refine ⟨I', BX12_meet_17 _ _ _ hL ⟨fun q => absurd q hn, fun _ => ⟨v0 m (by omega), v0 o (by omega), fun _ => ⟨I1, g1, by rw [zadd1]; exact j1⟩, fun q => ⟨v7 m (by omega), v7 o (by omega), fun _ => ⟨I1, g1, by rw [zadd1]; exact j1⟩, fun q2 => absurd ⟨e0.mp q, e7.mp q2⟩ e⟩⟩⟩, g3.tr j2.1, j2.2⟩
theorem Q_meet (h : zR0 Z I t u v τ Λ b ρ) (x y : Int32) : zQ2 kX11_meet kX12_meet [some (.ref 0), some (.int x), some (.int y), none] [some (.ref 420), some (.int x), some (.int y), none] Z I J := by
  have hb := h.1.2
  by_cases hc : zis2 τ x y
  · obtain ⟨m, hm, rfl⟩ := (zism_iff h.n7 x).mp hc.1
    obtain ⟨o, ho, rfl⟩ := (zism_iff h.n7 y).mp hc.2.1
    have n2 : ¬ zbi (zis2 τ (nI m) (nI o)) = 0 := zbi_ne0.mpr hc
    obtain ⟨I1, g1, g2, g3⟩ := C_copyE (d := 7) (J := J) (ly_d57 h.L) (ly_d47 h.L) (Or.inr (by decide)) h.W h.E h.D
    have hs1 : zscr I I1 := zscr.of fun a _ q => g3 a (by omega)
    have h1 := h.sc hs1
    obtain ⟨I2, k1, k2⟩ := C_meet_loop (d := 4) (J := J) h1.L h1.t3 h1.W hm ho 201 0 I1 ρ b rfl (by omega) h1.S h1.T g2 h1.D h1.bd
    refine zQ2.of h (zmt τ Λ m o 201 0 ρ) ⟨I2, BX11_meet_0 (d := 4) _ _ h.L ⟨_, C_areTwo h.L h.n7 h.men, fun _ => ⟨I1, g1, k1⟩, fun q => absurd q n2⟩, hs1.tr (zscr.fb k2 h1.t3)⟩ (fun I3 h3 => ?_)
    obtain ⟨I4, l1, l2, l3, l4, l5⟩ := M_cop (d := 9) (J := J) h3
    obtain ⟨I5, o1, o2⟩ := M_meet_loop (d := 4) (J := J) l2.L l2.W hm ho 201 0 I4 ρ b rfl (by omega) l2.M l3 l2.D l2.bd l4
    exact ⟨I5, BX12_meet_0 (d := 4) _ _ h3.L ⟨_, M_areTwo h3.L h3.W h3.M, fun _ => ⟨I4, l1, o1⟩, fun q => absurd q n2⟩, l5.tr (zscr.fw o2.1 o2.2)⟩
  · have n2 : zbi (zis2 τ x y) = 0 := zbi_eq0.mpr hc
    exact zQ2.of h (-1) ⟨I, BX11_meet_0 (d := 4) _ _ h.L ⟨_, C_areTwo h.L h.n7 h.men, fun q => absurd n2 q, fun _ => rfl⟩, zscr.rf⟩ (fun I1 h => ⟨I1, BX12_meet_0 (d := 4) _ _ h.L ⟨_, M_areTwo h.L h.W h.M, fun q => absurd n2 q, fun _ => rfl⟩, zscr.rf⟩)
end

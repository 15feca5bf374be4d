/-! PIECES counted, on both sides -/
section
variable {d : Nat} {Z : zZ} {J : zJ} {t u : Nat} {τ : Nat → Nat → Nat} {Λ : Nat → Option zLaw} {ρ : Nat → Nat}
theorem zk_7 {m : Nat} : (7 : Int32) + nI m = nI (7 + m) := zk14 rfl
theorem zk_14 {m : Nat} : (14 : Int32) + nI m = nI (14 + m) := zk14 rfl
theorem zk_21 {m : Nat} : (21 : Int32) + nI m = nI (21 + m) := zk14 rfl
theorem zk_30 {m : Nat} : (30 : Int32) + nI m = nI (30 + m) := zk14 rfl
theorem zk_450 {m : Nat} : (450 : Int32) + nI m = nI (450 + m) := zk14 rfl
theorem zk_870 {m : Nat} : (870 : Int32) + nI m = nI (870 + m) := zk14 rfl
theorem zk_60 {m i : Nat} : ((60 : Int32) * nI m) + nI i = nI (60 * m + i) := by rw [show (60 : Int32) = nI 60 from rfl, zmul, zadd]
theorem zlim {i n : Nat} (h : i + (n + 1) ≤ 420) : ¬ (420 : Int32) ≤ nI i := by rw [show (420 : Int32) = nI 420 from rfl, zle' (by decide) (by omega)]; omega
theorem zcbS (hH : zH τ ρ) (hU : zTU τ ρ) {s T q : Nat} (h : zbel τ ρ s T (q + 1)) : zcb τ ρ s T = 1 + zcb τ ρ s (ρ (450 + q)) := zwU_s (f := fun _ => 1) hH hU h
theorem zcb0 (hH : zH τ ρ) {s T : Nat} (h : zbel τ ρ s T 0) : zcb τ ρ s T = 0 := zwU_0 (f := fun _ => 1) hH h
/-- the PIECE next under one, in the memory -/
theorem zCP.under {I : zI} {d1 : Nat} (hC : zCP I d1 τ ρ) (hH : zH τ ρ) {s T q : Nat} (h : zbel τ ρ s T (q + 1)) : ∃ v, zat I (d1 + 7) 421 (nI (q + 1)) = nI v ∧ zbel τ ρ s (ρ (450 + q)) v := by
  obtain ⟨a1, a2, a3, a4⟩ := zbel_q h
  have := zlive_lt hH a1
  obtain ⟨-, -, -, v, e, hb⟩ := hC.1 q a1
  rw [a2] at hb
  exact ⟨v, by rw [zatI (by omega) (by decide), e], hb⟩
theorem C_under_loop {d1 : Nat} (hd : zDy Z d1) {I : zI} (hH : zH τ ρ) (hU : zTU τ ρ) (hC : zCP I d1 τ ρ) : ∀ (n i x2 v T s : Nat), zcb τ ρ s T = n → zbel τ ρ s T v → i + n ≤ 420 → zE (d + 1) kX0_countUnder 14 [some (.ref d1), none, some (.int (nI x2)), some (.int (nI v)), some (.int (nI i))] [] Z I J (some (.int (nI (x2 + n))), Z, I, J) := by
  intro n
  induction n with
  | zero =>
    intro i x2 v T s hn hb hi
    cases v with
    | zero => exact BX0_countUnder_14 _ _ _ hd ⟨fun _ => rfl, fun _ => ⟨fun _ => rfl, fun q => absurd rfl q⟩⟩
    | succ q => have := zcbS hH hU hb; omega
  | succ n ih =>
    intro i x2 v T s hn hb hi
    cases v with
    | zero => have := zcb0 hH hb; omega
    | succ q =>
      obtain ⟨v', e, hb'⟩ := hC.under hH hb
      have hl := zbel_lt hH hb
      have := zcbS hH hU hb
      refine BX0_countUnder_14 _ _ _ hd ⟨fun z => absurd z (zlim hi), fun _ => ⟨fun z => ?_, fun _ => ?_⟩⟩
      · rw [zn0 (by omega)] at z; omega
      · rw [e, zadd1, zadd1, show x2 + (n + 1) = x2 + 1 + n by omega]
        exact ih (i + 1) (x2 + 1) v' _ s (by omega) hb' (by omega)
/-- PIECES under one -/
theorem C_countUnder {d1 : Nat} (hd : zDy Z d1) {I : zI} (hH : zH τ ρ) (hU : zTU τ ρ) (hC : zCP I d1 τ ρ) {q : Nat} (hq : zlive τ ρ q) : zE (d + 1) kX0_countUnder 0 [some (.ref d1), some (.int (nI (q + 1))), none, none, none] [] Z I J (some (.int (nI (zcb τ ρ (ρ (870 + q)) (ρ (450 + q))))), Z, I, J) := by
  have := zlive_lt hH hq
  obtain ⟨-, -, -, v, e, hb⟩ := hC.1 q hq
  refine BX0_countUnder_0 _ hd ?_
  rw [zatI (by omega) (by decide), e]
  have h := C_under_loop (d := d) (J := J) hd hH hU hC _ 0 0 v _ _ rfl hb (by have := zcb_le (s := ρ (870 + q)) (T := ρ (450 + q)) hH; omega)
  rw [Nat.zero_add] at h
  exact h
theorem C_countOn {d1 : Nat} (hd : zDy Z d1) {I : zI} (hH : zH τ ρ) (hU : zTU τ ρ) (hC : zCP I d1 τ ρ) {s : Nat} (hs : s < 288) : zE (d + 2) kX0_countOn 0 [some (.ref d1), some (.int (nI (zenc s))), none] [] Z I J (some (.int (nI (zcb τ ρ s (ρ 29)))), Z, I, J) := by
  obtain ⟨v, e, hb⟩ := hC.2 s hs
  have hes := zenc_lt hs
  have ea : zat I (d1 + 9) 288 (nI (zenc s)) = nI v := by rw [zatI hes (by decide), e]
  have hl := zbel_lt hH hb
  refine BX0_countOn_0 _ hd ?_
  rw [ea]
  cases v with
  | zero => exact ⟨fun z => absurd rfl z, fun _ => by rw [zcb0 hH hb]; rfl⟩
  | succ q =>
    obtain ⟨a1, a2, a3, a4⟩ := zbel_q hb
    refine ⟨fun _ => ⟨_, C_countUnder hd hH hU hC a1, ?_⟩, fun z => ?_⟩
    · rw [zcbS hH hU hb, a2, zadd1, Nat.add_comm]
    · rw [zn0 (by omega)] at z; omega
/-- PIECES above one -/
theorem zct_above (hW : zTW τ Λ) (hD : zDW τ ρ) (hB : zRB ρ) {q0 : Nat} (h0 : zlive τ ρ q0) : zcb τ ρ (ρ (870 + q0)) (ρ 29) = zcb τ ρ (ρ (870 + q0)) (ρ (450 + q0)) + 1 + zct ρ (τ 0 0) (zoth ρ (ρ (870 + q0)) (nI (ρ (450 + q0))) true) := by
  have hH := hD.h hW
  have hd := zwt_delta (c := 1) hH h0
  have e : zcb τ ρ (ρ (870 + q0)) (ρ 29) = zwt ρ (τ 0 0) (fun q => ((if zblw ρ (ρ (870 + q0)) (ρ (450 + q0)) q = true then 1 else 0) + (if q = q0 then 1 else 0)) + (zoth ρ (ρ (870 + q0)) (nI (ρ (450 + q0))) true q).toNat) := by
    refine zwt_congr hH fun q hq => ?_
    have b1 := hB (450 + q) (by have := zlive_lt hH hq; omega)
    have b2 := hB (450 + q0) (by have := zlive_lt hH h0; omega)
    have t1 := zlive_t hD hq
    have hz : zoth ρ (ρ (870 + q0)) (nI (ρ (450 + q0))) true q = (decide (ρ (870 + q) = ρ (870 + q0)) && decide (ρ (450 + q0) < ρ (450 + q))) := by
      unfold zoth
      simp only [if_true]
      congr 1
      exact decide_eq_decide.mpr (zlt (by omega) (by omega))
    rw [hz]
    by_cases es : ρ (870 + q) = ρ (870 + q0)
    · rw [if_pos (zblw_iff.mpr ⟨es, t1⟩)]
      rcases Nat.lt_trichotomy (ρ (450 + q)) (ρ (450 + q0)) with g | g | g
      · rw [if_pos (zblw_iff.mpr ⟨es, g⟩), if_neg (by rintro rfl; omega)]
        simp [es, show ¬ ρ (450 + q0) < ρ (450 + q) by omega]
      · have := hD.2.2.2 q q0 hq h0 g
        subst this
        rw [if_neg (fun z => by have := (zblw_iff.mp z).2; omega), if_pos rfl]
        simp
      · rw [if_neg (fun z => by have := (zblw_iff.mp z).2; omega), if_neg (by rintro rfl; omega)]
        simp [es, g]
    · rw [if_neg (fun z => es (zblw_iff.mp z).1), if_neg (fun z => es (zblw_iff.mp z).1), if_neg (by rintro rfl; exact es rfl)]
      simp [es]
  rw [e, zwt_add, zwt_add, hd]
  rfl
theorem zct_all (hW : zTW τ Λ) (hD : zDW τ ρ) (hB : zRB ρ) {s : Nat} : zct ρ (τ 0 0) (zoth ρ s (-1) true) = zcb τ ρ s (ρ 29) := by
  have hH := hD.h hW
  refine zwt_congr hH (f := fun q => (zoth ρ s (-1) true q).toNat) fun q hq => ?_
  have b1 := hB (450 + q) (by have := zlive_lt hH hq; omega)
  have t1 := zlive_t hD hq
  have hlt : (-1 : Int32) < nI (ρ (450 + q)) := by
    have h0 : (0 : Int32) ≤ nI (ρ (450 + q)) := znn (by omega)
    exact Int32.lt_of_lt_of_le (by decide) h0
  unfold zoth zblw
  simp [hlt, t1]
  by_cases es : ρ (870 + q) = s <;> simp [es]
-- OVER
/-- PIECES of one man on PIECES of another -/
def zov (ρ : Nat → Nat) (a b : Nat) : Nat := zsum (fun i => zsum (fun j => (zblw ρ (ρ (870 + (60 * a + i))) (ρ (450 + (60 * a + i))) (60 * b + j)).toNat) 0 (ρ (14 + b))) 0 (ρ (14 + a))
theorem zsum_one {f : Nat → Nat} {i k a : Nat} (h1 : i ≤ a) (h2 : a < i + k) (h : ∀ j, i ≤ j → j < i + k → j ≠ a → f j = 0) : zsum f i k = f a := by
  have := zsum_delta (c := f a) (j0 := a) (i := i) (k := k)
  rw [if_pos ⟨h1, h2⟩] at this
  rw [← this]
  refine zsum_congr fun j g1 g2 => ?_
  by_cases e : j = a
  · rw [if_pos e, e]
  · rw [if_neg e, h j g1 g2 e]
theorem zwU_own (hH : zH τ ρ) {s T b : Nat} (hb : b < τ 0 0) : zwU τ ρ s T (fun q => if q / 60 = b then 1 else 0) = zsum (fun j => (zblw ρ s T (60 * b + j)).toNat) 0 (ρ (14 + b)) := by
  unfold zwU zwt
  rw [zsum_one (a := b) (Nat.zero_le _) (by omega) (fun m _ hm hne => ?_)]
  · refine zsum_congr fun j _ hj => ?_
    have := hH.2 b hb
    dsimp only
    rw [if_pos (show (60 * b + j) / 60 = b by omega)]
    cases zblw ρ s T (60 * b + j) <;> simp
  · refine zsum_0 fun j _ hj => ?_
    have := hH.2 m (by omega)
    dsimp only
    rw [if_neg (show ¬ (60 * m + j) / 60 = b by omega), ite_self]
theorem zwU_own0 (hH : zH τ ρ) {s T b : Nat} (hb : ¬ b < τ 0 0) : zwU τ ρ s T (fun q => if q / 60 = b then 1 else 0) = 0 := by
  refine zwt_0 hH fun q hq => ?_
  have := hq.1
  dsimp only
  rw [if_neg (show ¬ q / 60 = b by omega), ite_self]
theorem zwU_le (hH : zH τ ρ) {s T b : Nat} : zwU τ ρ s T (fun q => if q / 60 = b then 1 else 0) ≤ 420 := by
  have h1 : zwU τ ρ s T (fun q => if q / 60 = b then 1 else 0) ≤ zcb τ ρ s T := zwt_le hH fun q _ => by
    by_cases h : zblw ρ s T q = true
    · rw [if_pos h, if_pos h]; dsimp only; split <;> omega
    · rw [if_neg h, if_neg h]; exact Nat.le_refl _
  exact Nat.le_trans h1 (zcb_le hH)
theorem C_over_inner {d1 : Nat} (hd : zDy Z d1) {I : zI} (hH : zH τ ρ) (hU : zTU τ ρ) (hC : zCP I d1 τ ρ) {x1 : Int32} {b x4 : Nat} (hb8 : b < 1000) {o : zO} : ∀ (n i x3 v T s : Nat), zcb τ ρ s T = n → zbel τ ρ s T v → i + n ≤ 420 → zE (d + 1) kX0_countOver 5 [some (.ref d1), some (.int x1), some (.int (nI b)), some (.int (nI (x3 + zwU τ ρ s T (fun q => if q / 60 = b then 1 else 0)))), some (.int (nI (x4 + 1))), none, none] [] Z I J o → zE (d + 1) kX0_countOver 36 [some (.ref d1), some (.int x1), some (.int (nI b)), some (.int (nI x3)), some (.int (nI x4)), some (.int (nI v)), some (.int (nI i))] [] Z I J o := by
  intro n
  induction n with
  | zero =>
    intro i x3 v T s hn hb hi h
    cases v with
    | zero =>
      rw [zwU_0 hH hb, Nat.add_zero] at h
      exact BX0_countOver_36 _ _ _ _ _ _ hd ⟨fun _ => by rw [zadd1]; exact h, fun _ => ⟨fun _ => by rw [zadd1]; exact h, fun q => absurd rfl q⟩⟩
    | succ q => have := zcbS hH hU hb; omega
  | succ n ih =>
    intro i x3 v T s hn hb hi h
    cases v with
    | zero => have := zcb0 hH hb; omega
    | succ q =>
      obtain ⟨v', e, hb'⟩ := hC.under hH hb
      have hl := zbel_lt hH hb
      have := zcbS hH hU hb
      rw [zwU_s hH hU hb] at h
      refine BX0_countOver_36 _ _ _ _ _ _ hd ⟨fun z => absurd z (zlim hi), fun _ => ⟨fun z => ?_, fun _ => ⟨fun z => ?_, fun z => ?_⟩⟩⟩
      · rw [zn0 (by omega)] at z; omega
      all_goals rw [zowI (by omega), zeq (by omega) (by omega)] at z
      · rw [if_neg z, Nat.zero_add] at h
        rw [e, zadd1, Int32.add_zero]
        exact ih (i + 1) x3 v' _ s (by omega) hb' (by omega) h
      · rw [if_pos z, ← Nat.add_assoc] at h
        rw [e, zadd1, zadd1]
        exact ih (i + 1) (x3 + 1) v' _ s (by omega) hb' (by omega) h
theorem C_countOver' {d1 : Nat} (hd : zDy Z d1) {I : zI} (hH : zH τ ρ) (hU : zTU τ ρ) (hC : zCD I d1 τ ρ) {m b : Nat} (hm : m < τ 0 0) (hb : b < 7) : zE (d + 1) kX0_countOver 0 [some (.ref d1), some (.int (nI m)), some (.int (nI b)), none, none, none, none] [] Z I J (some (.int (nI (zsum (fun i => zwU τ ρ (ρ (870 + (60 * m + i))) (ρ (450 + (60 * m + i))) (fun q => if q / 60 = b then 1 else 0)) 0 (ρ (14 + m))))), Z, I, J) := by
  have h7 := hH.1
  have h60 := hH.2 m hm
  have a3 : zat I (d1 + 3) 7 (nI m) = nI (ρ (14 + m)) := by rw [zatI (by omega) (by decide), (hC.2.1 m hm).2.2.1]
  have outer : ∀ i, i ≤ ρ (14 + m) → ∀ acc, zE (d + 1) kX0_countOver 5 [some (.ref d1), some (.int (nI m)), some (.int (nI b)), some (.int (nI acc)), some (.int (nI i)), none, none] [] Z I J (some (.int (nI (acc + zsum (fun i => zwU τ ρ (ρ (870 + (60 * m + i))) (ρ (450 + (60 * m + i))) (fun q => if q / 60 = b then 1 else 0)) i (ρ (14 + m) - i)))), Z, I, J) := by
    refine zloop _ _ ?_ ?_
    · intro acc
      refine BX0_countOver_5 _ _ _ _ hd ⟨fun _ => ?_, fun q => ?_⟩
      · rw [zsum_end]; rfl
      · rw [a3] at q; exact absurd (Int32.le_refl _) q
    · intro i hi ih acc
      have hv := zlive_mk (ρ := ρ) hH hm hi
      obtain ⟨-, -, -, v, e, hbl⟩ := hC.2.2.1 _ hv
      have hlt := zlive_lt hH hv
      refine BX0_countOver_5 _ _ _ _ hd ⟨fun q => ?_, fun _ y ey => ?_⟩
      · exfalso; rw [a3, zle' (by omega) (by omega)] at q; omega
      · rw [zpcI, zatI (by omega) (by decide), e] at ey
        subst ey
        have := ih (acc + zwU τ ρ (ρ (870 + (60 * m + i))) (ρ (450 + (60 * m + i))) (fun q => if q / 60 = b then 1 else 0))
        rw [zsum_lt hi, ← Nat.add_assoc]
        exact C_over_inner hd hH hU hC.2.2 (by omega) _ 0 acc v _ _ rfl hbl (by have := zcb_le (s := ρ (870 + (60 * m + i))) (T := ρ (450 + (60 * m + i))) hH; omega) this
  have h := outer 0 (Nat.zero_le _) 0
  rw [Nat.zero_add, Nat.sub_zero] at h
  exact BX0_countOver_0 _ _ hd h
theorem C_countOver {d1 : Nat} (hd : zDy Z d1) {I : zI} (hH : zH τ ρ) (hU : zTU τ ρ) (hC : zCD I d1 τ ρ) {m b : Nat} (hm : m < τ 0 0) (hb : b < τ 0 0) : zE (d + 1) kX0_countOver 0 [some (.ref d1), some (.int (nI m)), some (.int (nI b)), none, none, none, none] [] Z I J (some (.int (nI (zov ρ m b))), Z, I, J) := by
  have h := C_countOver' (d := d) (J := J) hd hH hU hC hm (b := b) (by have := hH.1; omega)
  have e : zov ρ m b = zsum (fun i => zwU τ ρ (ρ (870 + (60 * m + i))) (ρ (450 + (60 * m + i))) (fun q => if q / 60 = b then 1 else 0)) 0 (ρ (14 + m)) := zsum_congr fun i _ _ => (zwU_own hH hb).symm
  rw [e]; exact h
theorem zov_le (hH : zH τ ρ) {a b : Nat} (ha : a < τ 0 0) (hb : b < τ 0 0) : zov ρ a b ≤ 25200 := by
  have h1 := hH.2 a ha
  refine Nat.le_trans (zsum_le (b := 420) fun i _ _ => ?_) (by omega)
  rw [← zwU_own hH hb]; exact zwU_le hH
/-- how often one is OVER others -/
def zova (ρ : Nat → Nat) (n a : Nat) : Nat := zsum (fun b => if b = a then 0 else zov ρ a b) 0 n
theorem zova_le (hH : zH τ ρ) {a : Nat} (ha : a < τ 0 0) : zova ρ (τ 0 0) a ≤ 176400 := by
  have := hH.1
  refine Nat.le_trans (zsum_le (b := 25200) fun b _ hb => ?_) (by omega)
  split
  · omega
  · exact zov_le hH ha (by omega)
theorem C_countOverOthers {d1 : Nat} (hd : zDy Z d1) {I : zI} (hH : zH τ ρ) (hU : zTU τ ρ) (hC : zCD I d1 τ ρ) {m : Nat} (hm : m < τ 0 0) : zE (d + 2) kX0_countOverOthers 0 [some (.ref d1), some (.int (nI m)), none, none] [] Z I J (some (.int (nI (zova ρ (τ 0 0) m))), Z, I, J) := by
  have h7 := hH.1
  obtain ⟨g, hg⟩ : ∃ g : Nat → Nat, g = fun b => if b = m then 0 else zsum (fun i => zwU τ ρ (ρ (870 + (60 * m + i))) (ρ (450 + (60 * m + i))) (fun q => if q / 60 = b then 1 else 0)) 0 (ρ (14 + m)) := ⟨_, rfl⟩
  have loop : ∀ b, b ≤ 7 → ∀ acc, zE (d + 2) kX0_countOverOthers 4 [some (.ref d1), some (.int (nI m)), some (.int (nI acc)), some (.int (nI b))] [] Z I J (some (.int (nI (acc + zsum g b (7 - b)))), Z, I, J) := by
    refine zloop _ _ ?_ ?_
    · intro acc
      exact BX0_countOverOthers_4 _ _ _ hd ⟨fun _ => rfl, fun q => absurd (by decide) q⟩
    · intro b hb ih acc
      rw [zsum_lt hb, ← Nat.add_assoc]
      refine BX0_countOverOthers_4 _ _ _ hd ⟨fun q => ?_, fun _ => ⟨fun q => ?_, fun q => ?_⟩⟩
      · exfalso; rw [show (7 : Int32) = nI 7 from rfl, zle' (by decide) (by omega)] at q; omega
      · rw [zeq (by omega) (by omega)] at q
        refine ⟨_, C_countOver' hd hH hU hC hm hb, ?_⟩
        have := ih (acc + g b)
        rw [hg] at this ⊢
        simp only [if_neg q] at this ⊢
        rw [zadd, zadd1]; exact this
      · rw [zeq (by omega) (by omega)] at q
        have := ih (acc + g b)
        rw [hg] at this ⊢
        simp only [if_pos q, Nat.add_zero] at this ⊢
        rw [Int32.add_zero, zadd1]; exact this
  have h := loop 0 (by decide) 0
  rw [Nat.zero_add, Nat.sub_zero] at h
  have e : zsum g 0 7 = zova ρ (τ 0 0) m := by
    rw [show 7 = τ 0 0 + (7 - τ 0 0) by omega, zsum_split]
    rw [zsum_0 (i := 0 + τ 0 0) (fun b h1 h2 => ?_), Nat.add_zero]
    · refine zsum_congr fun b _ hb => ?_
      rw [hg]
      simp only
      by_cases e : b = m
      · rw [if_pos e, if_pos e]
      · rw [if_neg e, if_neg e]
        exact zsum_congr fun i _ _ => zwU_own hH (by omega)
    · rw [hg]
      simp only
      by_cases e : b = m
      · rw [if_pos e]
      · rw [if_neg e]
        exact zsum_0 fun i _ _ => zwU_own0 hH (by omega)
  rw [e] at h
  exact BX0_countOverOthers_0 _ hd h
-- OVER in the reference
theorem M_overOf (hL : zLY Z t u) {I : zI} (hH : zH τ ρ) (hR : zRM I 458 0 ρ) (hB : zRB ρ) {a b : Nat} (ha : a < τ 0 0) (hb : b < τ 0 0) : zE d kX12_overOf 0 [some (.ref 420), some (.int (nI a)), some (.int (nI b)), none, none, none, none, none] [] Z I J (some (.int (nI (zov ρ a b))), Z, I, J) := by
  have h7 := hH.1
  have h60a := hH.2 a ha
  have h60b := hH.2 b hb
  have ra : I 458 ((14 : Int32) + nI a).toNatClampNeg = nI (ρ (14 + a)) := by rw [zk_14, zclm (by omega)]; exact hR.at (by omega)
  have rb : I 458 ((14 : Int32) + nI b).toNatClampNeg = nI (ρ (14 + b)) := by rw [zk_14, zclm (by omega)]; exact hR.at (by omega)
  have va : vp_in ((14 : Int32) + nI a) 1290 := by rw [zk_14]; exact zvin (by omega) (by decide)
  have vb : vp_in ((14 : Int32) + nI b) 1290 := by rw [zk_14]; exact zvin (by omega) (by decide)
  have r870 : ∀ q, q < 420 → I 458 ((870 : Int32) + nI q).toNatClampNeg = nI (ρ (870 + q)) := fun q hq => by rw [zk_870, zclm (by omega)]; exact hR.at (by omega)
  have r450 : ∀ q, q < 420 → I 458 ((450 : Int32) + nI q).toNatClampNeg = nI (ρ (450 + q)) := fun q hq => by rw [zk_450, zclm (by omega)]; exact hR.at (by omega)
  have v870 : ∀ q, q < 420 → vp_in ((870 : Int32) + nI q) 1290 := fun q hq => by rw [zk_870]; exact zvin (by omega) (by decide)
  have v450 : ∀ q, q < 420 → vp_in ((450 : Int32) + nI q) 1290 := fun q hq => by rw [zk_450]; exact zvin (by omega) (by decide)
  have em : ∀ m i, ((60 : Int32) * nI m) + nI i = nI (60 * m + i) := fun m i => by rw [show (60 : Int32) = nI 60 from rfl, zmul, zadd]
  have outer : ∀ i, i ≤ ρ (14 + a) → ∀ acc, zE d kX12_overOf 5 [some (.ref 420), some (.int (nI a)), some (.int (nI b)), some (.int (nI acc)), some (.int (nI i)), none, none, none] [] Z I J (some (.int (nI (acc + zsum (fun i => zsum (fun j => (zblw ρ (ρ (870 + (60 * a + i))) (ρ (450 + (60 * a + i))) (60 * b + j)).toNat) 0 (ρ (14 + b))) i (ρ (14 + a) - i)))), Z, I, J) := by
    refine zloop _ _ ?_ ?_
    · intro acc
      refine BX12_overOf_5 _ _ _ _ hL ⟨va, fun _ => ?_, fun q => ?_⟩
      · rw [zsum_end]; rfl
      · rw [ra] at q; exact absurd (Int32.le_refl _) q
    · intro i hi ih acc
      have hqa : 60 * a + i < 420 := by omega
      have inner : ∀ j, j ≤ ρ (14 + b) → ∀ c, zE d kX12_overOf 31 [some (.ref 420), some (.int (nI a)), some (.int (nI b)), some (.int (nI c)), some (.int (nI i)), some (.int (nI (60 * a + i))), some (.int (nI j)), none] [] Z I J (some (.int (nI (c + zsum (fun j => (zblw ρ (ρ (870 + (60 * a + i))) (ρ (450 + (60 * a + i))) (60 * b + j)).toNat) j (ρ (14 + b) - j) + zsum (fun i => zsum (fun j => (zblw ρ (ρ (870 + (60 * a + i))) (ρ (450 + (60 * a + i))) (60 * b + j)).toNat) 0 (ρ (14 + b))) (i + 1) (ρ (14 + a) - (i + 1))))), Z, I, J) := by
        refine zloop _ _ ?_ ?_
        · intro c
          refine BX12_overOf_31 _ _ _ _ _ _ hL ⟨vb, fun _ => ?_, fun q => ?_⟩
          · rw [zsum_end, Nat.add_zero, zadd1]; exact ih c
          · rw [rb] at q; exact absurd (Int32.le_refl _) q
        · intro j hj ih2 c
          have hqb : 60 * b + j < 420 := by omega
          have b1 := hB (870 + (60 * a + i)) (by omega)
          have b2 := hB (870 + (60 * b + j)) (by omega)
          have b3 := hB (450 + (60 * a + i)) (by omega)
          have b4 := hB (450 + (60 * b + j)) (by omega)
          rw [zsum_lt hj]
          have no : zblw ρ (ρ (870 + (60 * a + i))) (ρ (450 + (60 * a + i))) (60 * b + j) = false → zE d kX12_overOf 31 [some (.ref 420), some (.int (nI a)), some (.int (nI b)), some (.int (nI c)), some (.int (nI i)), some (.int (nI (60 * a + i))), some (.int (nI j + 1)), none] [] Z I J (some (.int (nI (c + ((zblw ρ (ρ (870 + (60 * a + i))) (ρ (450 + (60 * a + i))) (60 * b + j)).toNat + zsum (fun j => (zblw ρ (ρ (870 + (60 * a + i))) (ρ (450 + (60 * a + i))) (60 * b + j)).toNat) (j + 1) (ρ (14 + b) - (j + 1))) + zsum (fun i => zsum (fun j => (zblw ρ (ρ (870 + (60 * a + i))) (ρ (450 + (60 * a + i))) (60 * b + j)).toNat) 0 (ρ (14 + b))) (i + 1) (ρ (14 + a) - (i + 1))))), Z, I, J) := by
            intro h
            rw [h, Bool.toNat_false, Nat.zero_add, zadd1]; exact ih2 c
          have yes : zblw ρ (ρ (870 + (60 * a + i))) (ρ (450 + (60 * a + i))) (60 * b + j) = true → zE d kX12_overOf 31 [some (.ref 420), some (.int (nI a)), some (.int (nI b)), some (.int (nI c + 1)), some (.int (nI i)), some (.int (nI (60 * a + i))), some (.int (nI j + 1)), none] [] Z I J (some (.int (nI (c + ((zblw ρ (ρ (870 + (60 * a + i))) (ρ (450 + (60 * a + i))) (60 * b + j)).toNat + zsum (fun j => (zblw ρ (ρ (870 + (60 * a + i))) (ρ (450 + (60 * a + i))) (60 * b + j)).toNat) (j + 1) (ρ (14 + b) - (j + 1))) + zsum (fun i => zsum (fun j => (zblw ρ (ρ (870 + (60 * a + i))) (ρ (450 + (60 * a + i))) (60 * b + j)).toNat) 0 (ρ (14 + b))) (i + 1) (ρ (14 + a) - (i + 1))))), Z, I, J) := by
            intro h
            rw [h, Bool.toNat_true, ← Nat.add_assoc c 1, zadd1, zadd1]; exact ih2 (c + 1)
          refine BX12_overOf_31 _ _ _ _ _ _ hL ⟨vb, fun q => ?_, fun _ y ey => ?_⟩
          · exfalso; rw [rb, zle' (by omega) (by omega)] at q; omega
          · rw [em] at ey
            subst ey
            refine ⟨v870 _ hqa, v870 _ hqb, fun q => no ?_, fun q => ⟨v450 _ hqa, v450 _ hqb, fun q2 => no ?_, fun q2 => yes ?_⟩⟩
            · rw [r870 _ hqa, r870 _ hqb, zeq (by omega) (by omega)] at q
              rw [← Bool.not_eq_true, zblw_iff]; exact fun z => q z.1.symm
            all_goals rw [r870 _ hqa, r870 _ hqb, zeq (by omega) (by omega)] at q
            all_goals rw [r450 _ hqa, r450 _ hqb, zle' (by omega) (by omega)] at q2
            · rw [← Bool.not_eq_true, zblw_iff]; omega
            · rw [zblw_iff]; omega
      have hin := inner 0 (Nat.zero_le _) acc
      refine BX12_overOf_5 _ _ _ _ hL ⟨va, fun q => ?_, fun _ y ey => ?_⟩
      · exfalso; rw [ra, zle' (by omega) (by omega)] at q; omega
      · rw [em] at ey
        subst ey
        rw [zsum_lt hi, ← Nat.add_assoc]; exact hin
  have h := outer 0 (Nat.zero_le _) 0
  rw [Nat.zero_add, Nat.sub_zero] at h
  exact BX12_overOf_0 _ _ hL h
end

/-! orders, orderAt, cuts -/
section
variable {d : Nat} {Z : zZ} {J : zJ} {I I' : zI} {t u v b : Nat} {τ : Nat → Nat → Nat} {Λ : Nat → Option zLaw} {ρ : Nat → Nat}
theorem zWs_sub (h7 : τ 0 0 ≤ 7) (hH : zH τ ρ) (m : Nat) : zWs τ ρ m &&& (127 ^^^ zbs (zthr ρ true) (τ 0 0)) = 0 := by
  refine (zsub_iff (zWs_lt h7 m)).mpr (fun o ho hb => ?_)
  unfold zWs at hb
  by_cases hm : m < τ 0 0
  · rw [if_pos hm, zbs_bit] at hb
    rw [zbs_bit]
    simp only [Bool.and_eq_true, decide_eq_true_eq] at hb ⊢
    refine ⟨hb.1, ?_⟩
    obtain ⟨i, -, h2, -⟩ := zsum_pos.mp hb.2.2
    unfold zthr; simp; omega
  · rw [if_neg hm] at hb; simp at hb
/-- the class's table of ORDERS so far, a set h being home and men ahead of m done -/
def zInv (F W : Nat → Nat) (n O h m : Nat) : Prop :=
  (∀ s, s < 128 → s &&& (127 ^^^ O) ≠ 0 → F s = 0) ∧
  (h < O → h &&& (127 ^^^ O) = 0 → zsum (zGt F W n O) (h + 1) (127 - h) + F h * zsum (fun m => if zfree W (O &&& (127 ^^^ h)) m then zb W n (zrm (O &&& (127 ^^^ h)) m) else 0) m (n - m) = zb W n O) ∧
  (h < O → h &&& (127 ^^^ O) ≠ 0 → zsum (zGt F W n O) (h + 1) (127 - h) = zb W n O) ∧ (O ≤ h → F O = zb W n O)
theorem zInv_go {F W : Nat → Nat} {n O h m : Nat} (hn : n ≤ 7) (hO : O < 128) (hOn : ∀ m, m < 7 → O.testBit m = true → m < n) (hW : ∀ m, W m < 128 ∧ W m &&& (127 ^^^ O) = 0) (hh : h < 128) (hm : m < 7) (hI : zInv F W n O h m) (hx : znx W O h m) : zInv (zFu F (h ||| 2 ^ m) (F h)) W n O h (m + 1) := by
  obtain ⟨i1, i2, i3, i4⟩ := hI
  have hb := hx.1
  have hOm : O.testBit m = true ∧ h.testBit m = false := by
    rw [zb_dt hm] at hb
    revert hb
    cases O.testBit m <;> cases h.testBit m <;> decide
  have hmn := hOn m hm hOm.1
  have hgt := zor_gt h hh m hm hOm.2
  have hw128 : h ||| 2 ^ m < 128 := zb_lt hh (zb_p m hm)
  have hfree := (znx_free hm hO (hW m).1 (hW m).2).mp hx
  refine ⟨fun s hs hz => ?_, fun h1 h2 => ?_, fun h1 h2 => ?_, fun h1 => ?_⟩
  · unfold zFu
    by_cases e : s = h ||| 2 ^ m
    · subst e
      rw [if_pos rfl, i1 _ hw128 hz, i1 h hh (fun z => hz ?_)]
      refine (zsub_iff hw128).mpr (fun o ho hb => ?_)
      rw [Nat.testBit_or, zb_tp, Bool.or_eq_true] at hb
      rcases hb with hb | hb
      · exact (zsub_iff hh).mp z o ho hb
      · have : m = o := by simpa using hb
        subst this; exact hOm.1
    · rw [if_neg e]; exact i1 s hs hz
  · have hsub : (h ||| 2 ^ m) &&& (127 ^^^ O) = 0 := (zsub_iff hw128).mpr (fun o ho hb => by
      rw [Nat.testBit_or, zb_tp, Bool.or_eq_true] at hb
      rcases hb with hb | hb
      · exact (zsub_iff hh).mp h2 o ho hb
      · have : m = o := by simpa using hb
        subst this; exact hOm.1)
    have e1 : zFu F (h ||| 2 ^ m) (F h) h = F h := by unfold zFu; rw [if_neg (by omega)]
    have := i2 h1 h2
    rw [zGt_up (by omega) (by omega) hsub, e1, zhome_next hm hO hh hb]
    rw [zsum_lt hmn, if_pos hfree, Nat.mul_add] at this
    omega
  · have hF := i1 h hh h2
    have e2 : zFu F (h ||| 2 ^ m) (F h) = F := by
      funext s; unfold zFu
      split
      · rename_i e; rw [hF, e]; rfl
      · rfl
    rw [e2]; exact i3 h1 h2
  · unfold zFu; rw [if_neg (by omega)]; exact i4 h1
theorem zInv_no {F W : Nat → Nat} {n O h m : Nat} (hO : O < 128) (hW : ∀ m, W m < 128 ∧ W m &&& (127 ^^^ O) = 0) (hm : m < 7) (hI : zInv F W n O h m) (hx : ¬ znx W O h m) : zInv F W n O h (m + 1) := by
  obtain ⟨i1, i2, i3, i4⟩ := hI
  refine ⟨i1, fun h1 h2 => ?_, i3, i4⟩
  have := i2 h1 h2
  by_cases hmn : m < n
  · rw [zsum_lt hmn, if_neg (fun z => hx ((znx_free hm hO (hW m).1 (hW m).2).mpr z)), Nat.zero_add] at this
    exact this
  · rw [show n - (m + 1) = n - m by omega]
    rw [show n - m = 0 by omega] at this ⊢
    exact this
theorem zInv_nx {F W : Nat → Nat} {n O h : Nat} (hn : n ≤ 7) (hO : O < 128) (hh : h < 127) (hI : zInv F W n O h 7) : zInv F W n O (h + 1) 0 := by
  obtain ⟨i1, i2, i3, i4⟩ := hI
  have hall : h < O → zsum (zGt F W n O) (h + 1) (127 - h) = zb W n O := fun h1 => by
    by_cases h2 : h &&& (127 ^^^ O) = 0
    · have := i2 h1 h2
      rw [show n - 7 = 0 by omega] at this
      simpa [zsum] using this
    · exact i3 h1 h2
  have hs : zsum (zGt F W n O) (h + 1) (127 - h) = zGt F W n O (h + 1) + zsum (zGt F W n O) (h + 1 + 1) (127 - (h + 1)) := by
    rw [show 127 - h = (127 - (h + 1)) + 1 by omega]; rfl
  refine ⟨i1, fun h1 h2 => ?_, fun h1 h2 => ?_, fun h1 => ?_⟩
  · have := hall (by omega)
    rw [hs] at this
    have eg : zGt F W n O (h + 1) = F (h + 1) * zb W n (O &&& (127 ^^^ (h + 1))) := by unfold zGt; rw [if_pos h2]
    have hne : O &&& (127 ^^^ (h + 1)) ≠ 0 := fun z => by
      have := zsub_le O hO (h + 1) (by omega) z; omega
    rw [eg, zbS hn (zb_al hO) hne] at this
    rw [Nat.sub_zero]; omega
  · have := hall (by omega)
    rw [hs] at this
    have eg : zGt F W n O (h + 1) = 0 := by unfold zGt; rw [if_neg h2]
    omega
  · by_cases e : O = h + 1
    · have := hall (by omega)
      rw [hs, ← e] at this
      have eg : zGt F W n O O = F O := by
        unfold zGt
        have e0 : O &&& (127 ^^^ O) = 0 := (zsub_iff hO).mpr (fun _ _ h => h)
        rw [if_pos e0, e0, zb0, Nat.mul_one]
      rw [eg, zsum_0 (fun s h1 h2 => by
        unfold zGt
        rw [if_neg]
        intro z
        have := zsub_le s (by omega) O hO z; omega)] at this
      omega
    · exact i4 (by omega)
theorem C_countOrders (hL : zLY Z t u) {W : Nat → Nat} {n O : Nat} (hn : n ≤ 7) (hO : O < 128) (hOI : I 401 3 = nI O) (hOn : ∀ m, m < 7 → O.testBit m = true → m < n) (hW : ∀ m, W m < 128 ∧ W m &&& (127 ^^^ O) = 0) (hWI : ∀ m, m < 7 → I 402 m = nI (W m)) : ∃ I', zE (d + 1) kX7_countOrders 0 [some (.ref 401), none, none, none, none] [] Z I J (some (.int (nI (zb W n O))), Z, I', J) ∧ ∀ a, a ≠ 406 → I' a = I a := by
  have bit1 : ∀ a, a < 128 → ∀ m, m < 7 → (nI a &&& ((1 : Int32) <<< (nI m &&& 31)) = 0 ↔ a.testBit m = false) := fun a ha m hm => by
    rw [zb_one m hm, zb_and a ha _ (zb_p m hm), zn0 (Nat.lt_of_lt_of_le (zb_al ha) (by decide))]
    have : ∀ a, a < 128 → ∀ m, m < 7 → (a &&& 2 ^ m = 0 ↔ a.testBit m = false) := by decide +kernel
    exact this a ha m hm
  have outer : ∀ h, h ≤ 128 → ∀ (I1 : zI) (F : Nat → Nat), (∀ a, a ≠ 406 → I1 a = I a) → (∀ s, s < 128 → I1 406 s = nI (F s)) → (h < 128 → zInv F W n O h 0) → (h = 128 → F O = zb W n O) → ∃ I', zE (d + 1) kX7_countOrders 19 [some (.ref 401), some (.int (nI h)), none, none, none] [] Z I1 J (some (.int (nI (zb W n O))), Z, I', J) ∧ ∀ a, a ≠ 406 → I' a = I a := by
    refine zloop _ _ ?_ ?_
    · intro I1 F f1 f2 _ f4
      refine ⟨I1, BX7_countOrders_19 _ hL ⟨fun _ => ?_, fun q => absurd (by decide) q⟩, f1⟩
      rw [f1 401 (by decide), hOI, zatI hO (by decide), f2 O hO, f4 rfl]
    · intro h hh ih I1 F f1 f2 f3 _
      have inner : ∀ m, m ≤ 7 → ∀ (I2 : zI) (F : Nat → Nat), (∀ a, a ≠ 406 → I2 a = I a) → (∀ s, s < 128 → I2 406 s = nI (F s)) → zInv F W n O h m → ∃ I', zE (d + 1) kX7_countOrders 30 [some (.ref 401), some (.int (nI h)), some (.int (nI m)), none, none] [] Z I2 J (some (.int (nI (zb W n O))), Z, I', J) ∧ ∀ a, a ≠ 406 → I' a = I a := by
        refine zloop _ _ ?_ ?_
        · intro I2 F f1 f2 f3
          obtain ⟨I', k1, k2⟩ := ih I2 F f1 f2 (fun hl => zInv_nx hn hO (by omega) f3) (fun hl => f3.2.2.2 (by omega))
          exact ⟨I', BX7_countOrders_30 _ _ hL ⟨fun _ => by rw [zadd1]; exact k1, fun q => absurd (by decide) q⟩, k2⟩
        · intro m hm ih2 I2 F f1 f2 f3
          have n7 : ¬ (7 : Int32) ≤ nI m := by rw [show (7 : Int32) = nI 7 from rfl, zle' (by decide) (by omega)]; omega
          have e1 : ((I2 401 3 &&& (nI h ^^^ (-1))) &&& ((1 : Int32) <<< (nI m &&& 31)) = 0) ↔ (O &&& (127 ^^^ h)).testBit m = false := by
            rw [f1 401 (by decide), hOI, zb_sd hO hh, bit1 _ (zb_al hO) m hm]
          have e2 : (zat I2 402 7 (nI m) &&& (nI h ^^^ (-1)) = 0) ↔ W m &&& (127 ^^^ h) = 0 := by
            rw [zatI hm (by decide), f1 402 (by decide), hWI m hm, zb_sd (hW m).1 hh, zn0 (Nat.lt_of_lt_of_le (zb_al (hW m).1) (by decide))]
          by_cases hx : znx W O h m
          · have hw128 : h ||| 2 ^ m < 128 := zb_lt hh (zb_p m hm)
            obtain ⟨I', k1, k2⟩ := ih2 (zu I2 406 (h ||| 2 ^ m) (nI (F (h ||| 2 ^ m) + F h))) (zFu F (h ||| 2 ^ m) (F h)) (fun a ha => by rw [zu_ne ha]; exact f1 a ha) (fun s hs => by
              unfold zFu
              by_cases e : s = h ||| 2 ^ m
              · rw [e, zu_eq, if_pos rfl]
              · rw [zu_k e, if_neg e]; exact f2 s hs) (zInv_go hn hO hOn hW hh hm f3 hx)
            refine ⟨I', BX7_countOrders_30 _ _ hL ⟨fun q => absurd q n7, fun _ y ey => ⟨fun q => ?_, fun _ => ⟨fun q => absurd (e2.mpr hx.2) q, fun _ I3 e3 => ?_⟩⟩⟩, k2⟩
            · rw [e1, hx.1] at q; exact absurd q (by decide)
            · rw [zb_set hh hm] at ey
              rw [ey, zptI hw128 (by decide), zatI hw128 (by decide), zatI hh (by decide), f2 _ hw128, f2 h hh, zadd] at e3
              rw [e3, zadd1]; exact k1
          · obtain ⟨I', k1, k2⟩ := ih2 I2 F f1 f2 (zInv_no hO hW hm f3 hx)
            refine ⟨I', BX7_countOrders_30 _ _ hL ⟨fun q => absurd q n7, fun _ y ey => ⟨fun q => by rw [zadd1]; exact k1, fun q => ⟨fun q2 => by rw [zadd1]; exact k1, fun q2 => ?_⟩⟩⟩, k2⟩
            exfalso
            rw [e1] at q; rw [e2] at q2
            exact hx ⟨by simpa using q, q2⟩
      obtain ⟨I', k1, k2⟩ := inner 0 (by decide) I1 F f1 f2 (f3 hh)
      refine ⟨I', BX7_countOrders_19 _ hL ⟨fun q => ?_, fun _ => k1⟩, k2⟩
      exfalso
      have q' : nI 128 ≤ nI h := q
      rw [zle' (by decide) (by omega)] at q'; omega
  -- the beginning
  obtain ⟨F0, f00, f0n⟩ : ∃ F0 : Nat → Nat, F0 0 = 1 ∧ ∀ s, s ≠ 0 → F0 s = 0 := ⟨fun s => if s = 0 then 1 else 0, rfl, fun s hs => if_neg hs⟩
  have hF0 : ∀ s, s < 128 → zu (zrw I 406 0 (fun _ => 0) 128) 406 0 1 406 s = nI (F0 s) := fun s hs => by
    by_cases e : s = 0
    · subst e; rw [zu_eq, f00]; rfl
    · rw [zu_k e, zrw_at0 hs, f0n s e]; rfl
  have e00 : (0 : Nat) &&& (127 ^^^ O) = 0 := Nat.zero_and _
  have eO0 : O &&& (127 ^^^ 0) = O := by
    have : ∀ a, a < 128 → a &&& (127 ^^^ 0) = a := by decide +kernel
    exact this O hO
  have inv0 : zInv F0 W n O 0 0 := by
    refine ⟨fun s hs hz => ?_, fun h1 _ => ?_, fun _ h2 => absurd e00 h2, fun h1 => ?_⟩
    · refine f0n s ?_; rintro rfl; exact hz e00
    · have z : zsum (zGt F0 W n O) (0 + 1) (127 - 0) = 0 := zsum_0 fun s h3 _ => by
        unfold zGt
        rw [f0n s (by omega), Nat.zero_mul, ite_self]
      rw [z, f00, Nat.one_mul, Nat.zero_add, eO0, Nat.sub_zero]
      exact (zbS hn hO (by omega)).symm
    · have : O = 0 := by omega
      rw [this, f00, zb0]
  obtain ⟨I', k1, k2⟩ := outer 0 (by decide) (zu (zrw I 406 0 (fun _ => 0) 128) 406 0 1) _ (fun a ha => by rw [zu_ne ha, zrw_ne ha]) hF0 (fun _ => inv0) (fun h => by omega)
  refine ⟨I', BX7_countOrders_0 hL ⟨_, S_fill (by decide) (ly_a406 hL), fun I2 e2 => ?_⟩, k2⟩
  have : zpt (zrw I 406 0 (fun _ => 0) 128) 406 128 0 1 = zu (zrw I 406 0 (fun _ => 0) 128) 406 0 1 := zptI (k := 0) (by decide) (by decide)
  rw [e2, this]; exact k1
theorem C_firstFree (hL : zLY Z t u) {W : Nat → Nat} (hW : ∀ m, W m < 128) (hWI : ∀ m, m < 7 → I 402 m = nI (W m)) {S : Nat} (hS : S < 128) : zE (d + 1) kX7_firstFree 0 [some (.ref 401), some (.int (nI S)), none] [] Z I J (some (.int (match zff W S 7 0 with | none => -1 | some w => nI w)), Z, I, J) := by
  have loop : ∀ m, m ≤ 7 → zE (d + 1) kX7_firstFree 2 [some (.ref 401), some (.int (nI S)), some (.int (nI m))] [] Z I J (some (.int (match zff W S (7 - m) m with | none => -1 | some w => nI w)), Z, I, J) := by
    refine zloop _ _ ?_ ?_
    · exact BX7_firstFree_2 _ _ hL ⟨fun _ => rfl, fun q => absurd (by decide) q⟩
    · intro m hm ih
      have hb := zb_bit0 hS hm
      rw [show 7 - m = (7 - (m + 1)) + 1 by omega]
      simp only [zff]
      have e2 : (zat I 402 7 (nI m) &&& nI S = 0) ↔ W m &&& S = 0 := by
        rw [zatI hm (by decide), hWI m hm, zb_and _ (hW m) _ hS, zn0 (Nat.lt_of_lt_of_le (zb_al (hW m)) (by decide))]
      refine BX7_firstFree_2 _ _ hL ⟨fun q => ?_, fun _ => ⟨fun q => ?_, fun q => ⟨fun q2 => ?_, fun q2 => ?_⟩⟩⟩
      · exfalso; rw [show (7 : Int32) = nI 7 from rfl, zle' (by decide) (by omega)] at q; omega
      all_goals rw [hb] at q
      · rw [if_neg (fun z => by rw [z.1] at q; exact absurd q (by decide)), zadd1]; exact ih
      · rw [e2] at q2; rw [if_neg (fun z => q2 z.2), zadd1]; exact ih
      · rw [e2] at q2; rw [if_pos ⟨by simpa using q, q2⟩]
  have := loop 0 (by decide)
  exact BX7_firstFree_0 _ hL this
theorem C_find_loop (hL : zLY Z t u) {W : Nat → Nat} {n : Nat} (hn : n ≤ 7) (hW : ∀ m, W m < 128) : ∀ (f i : Nat) (S : Nat) (I : zI), i + f = 7 → zcd S 7 ≤ f → S < 128 → (∀ m, m < 7 → S.testBit m = true → m < n) → (∀ m, m < 7 → I 402 m = nI (W m)) →
    ∃ I', zE (d + 2) kX7_findOrder 11 [some (.ref 401), none, some (.int (nI S)), some (.int (nI i)), none] [] Z I J (some (.int (if zb W n S = 0 then 0 else 1)), Z, I', J) ∧ (∀ a, a ≠ 404 → I' a = I a) ∧ (∀ j, j < i → I' 404 j = I 404 j) ∧ (0 < zb W n S → ∀ k, k < zcd S 7 → I' 404 (i + k) = zga W k S) := by
  intro f
  induction f with
  | zero =>
    intro i S I hi hf hS hSn hWI
    have := zcd_0 hS (by omega)
    subst this
    refine ⟨I, BX7_findOrder_11 _ _ hL ⟨fun _ => by rw [zb0]; rfl, fun q => ?_⟩, fun _ _ => rfl, fun _ _ => rfl, fun _ k hk => by omega⟩
    exfalso; apply q; rw [show (7 : Int32) = nI 7 from rfl, zle' (by decide) (by omega)]; omega
  | succ f ih =>
    intro i S I hi hf hS hSn hWI
    have n7 : ¬ (7 : Int32) ≤ nI i := by rw [show (7 : Int32) = nI 7 from rfl, zle' (by decide) (by omega)]; omega
    by_cases h0 : S = 0
    · subst h0
      refine ⟨I, BX7_findOrder_11 _ _ hL ⟨fun q => absurd q n7, fun _ => ⟨fun _ => by rw [zb0]; rfl, fun q => absurd rfl q⟩⟩, fun _ _ => rfl, fun _ _ => rfl, fun _ k hk => ?_⟩
      have : zcd 0 7 = 0 := zsum_0 (fun _ _ _ => by simp)
      omega
    · have hS0 : ¬ nI S = 0 := by rw [zn0 (by omega)]; exact h0
      have hff := C_firstFree (d := d) (J := J) hL hW hWI hS
      cases hz : zff W S 7 0 with
      | none =>
        rw [hz] at hff
        have hb0 : zb W n S = 0 := by
          apply Classical.byContradiction
          intro hb
          obtain ⟨w, e, -⟩ := zb_pos hn hW hS h0 hSn (by omega)
          rw [hz] at e; simp at e
        refine ⟨I, BX7_findOrder_11 _ _ hL ⟨fun q => absurd q n7, fun _ => ⟨fun q => absurd q hS0, fun _ => ⟨-1, hff, fun q => absurd rfl q, fun _ => by rw [hb0]; rfl⟩⟩⟩, fun _ _ => rfl, fun _ _ => rfl, fun hb => by omega⟩
      | some w =>
        rw [hz] at hff
        obtain ⟨-, w7, hfr, -⟩ := zff_some hz
        have w7 : w < 7 := by omega
        have hwn := hSn w w7 hfr.1
        have hcd := zrm_cd w7 hfr.1
        obtain ⟨I', k1, k2, k3, k4⟩ := ih (i + 1) (zrm S w) (zu I 404 i (nI w)) (by omega) (by omega) (zrm_lt hS) (fun m hm hb => by rw [zrm_bit hm, Bool.and_eq_true] at hb; exact hSn m hm hb.1) (fun m hm => by rw [zu_ne (by decide)]; exact hWI m hm)
        have hiff : zb W n S = 0 ↔ zb W n (zrm S w) = 0 := by
          constructor
          · intro h; have := zb_ge hn hS hwn hfr; omega
          · intro h
            apply Classical.byContradiction
            intro hb
            have := zb_any hn hW 7 S w (zcd_le7 S) hS hwn hfr (by omega)
            omega
        refine ⟨I', BX7_findOrder_11 _ _ hL ⟨fun q => absurd q n7, fun _ => ⟨fun q => absurd q hS0, fun _ => ⟨nI w, hff, fun _ I2 e2 y3 e3 => ?_, fun q => ?_⟩⟩⟩, fun a ha => by rw [k2 a ha, zu_ne ha], fun j hj => by rw [k3 j (by omega), zu_k (by omega)], fun hb k hk => ?_⟩
        · rw [zb_one w w7, zb_sd hS (zb_p w w7)] at e3
          rw [zptI (by omega) (by decide)] at e2
          rw [e2, e3, zadd1]
          by_cases e : zb W n S = 0
          · rw [if_pos e]; rw [if_pos (hiff.mp e)] at k1; exact k1
          · rw [if_neg e]; rw [if_neg (fun z => e (hiff.mpr z))] at k1; exact k1
        · exfalso
          exact absurd (q ▸ znn (by omega) : (0 : Int32) ≤ -1) (by decide)
        · cases k with
          | zero =>
            rw [Nat.add_zero, k3 i (by omega), zu_eq]
            simp only [zga]
            rw [if_neg h0, hz]
          | succ k =>
            have hp := fun z => (Nat.ne_of_gt hb) (hiff.mpr z)
            rw [show i + (k + 1) = i + 1 + k by omega, k4 (by omega) k (by omega)]
            simp only [zga]
            rw [if_neg h0, hz]
/-- how many PIECES of these men lie -/
def zpo (τ : Nat → Nat → Nat) (ρ : Nat → Nat) (S : Nat) : Nat := zsum (fun m => if S.testBit m = true then ρ (14 + m) else 0) 0 (τ 0 0)
theorem zpo_le (hH : zH τ ρ) (S : Nat) : zpo τ ρ S ≤ 420 := by
  have h := zsum_le (f := fun m => if S.testBit m = true then ρ (14 + m) else 0) (b := 60) (i := 0) (k := τ 0 0) (fun j _ hj => by
    have := hH.2 j (by omega)
    split <;> omega)
  have := hH.1
  unfold zpo; omega
theorem C_countLying {d1 t1 : Nat} (hd : zDy Z d1) (ht : zTx Z t1) (h7 : τ 0 0 ≤ 7) (hT : I t1 2 = nI (τ 0 0)) (hC : zCD I d1 τ ρ) {S : Nat} (hS : S < 128) : zE (d + 1) kX0_countLying 0 [some (.ref d1), some (.ref t1), some (.int (nI S)), none, none] [] Z I J (some (.int (nI (zpo τ ρ S))), Z, I, J) := by
  have loop : ∀ m, m ≤ τ 0 0 → ∀ acc, zE (d + 1) kX0_countLying 5 [some (.ref d1), some (.ref t1), some (.int (nI S)), some (.int (nI acc)), some (.int (nI m))] [] Z I J (some (.int (nI (acc + zsum (fun m => if S.testBit m = true then ρ (14 + m) else 0) m (τ 0 0 - m)))), Z, I, J) := by
    refine zloop _ _ ?_ ?_
    · intro acc
      exact BX0_countLying_5 _ _ _ hd ht ⟨fun _ => by rw [zsum_end]; rfl, fun q => absurd (by rw [hT]; exact Int32.le_refl _) q⟩
    · intro m hm ih acc
      have hb := zb_bit0 (m := m) hS (by omega)
      rw [zsum_lt hm, ← Nat.add_assoc]
      refine BX0_countLying_5 _ _ _ hd ht ⟨fun q => ?_, fun _ => ⟨fun q => ?_, fun q y ey => ?_⟩⟩
      · exfalso; rw [hT, zle' (by omega) (by omega)] at q; omega
      all_goals rw [hb] at q
      · rw [if_neg (by rw [q]; decide), Nat.add_zero, Int32.add_zero, zadd1]; exact ih acc
      · rw [zatI (by omega) (by decide), (hC.2.1 m hm).2.2.1, zadd] at ey
        rw [if_pos (by simpa using q), ey, zadd1]; exact ih _
  have := loop 0 (Nat.zero_le _) 0
  rw [Nat.zero_add, Nat.sub_zero] at this
  exact BX0_countLying_0 _ hd ht this
theorem S_bitCount {S : Nat} (hS : S < 128) : zE d kJ6_bitCount_0f7a4 0 [some (.int (nI S))] [] Z I J (some (.int (nI (zcd S 7))), Z, I, J) := by
  refine BJ6_bitCount_0f7a4_0 _ (fun y1 e1 y2 e2 y3 e3 y4 e4 y5 e5 => ?_)
  have fin : ∀ S, S < 128 → ∀ y1 y2 y3 y4 y5 : Int32, y1 = nI S - (((nI S).toUInt32 >>> (Int32.toUInt32 1 &&& Int32.toUInt32 31)).toInt32 &&& 1431655765) → y2 = ((y1 &&& 858993459) + ((y1.toUInt32 >>> (Int32.toUInt32 2 &&& Int32.toUInt32 31)).toInt32 &&& 858993459)) → y3 = ((y2 + (y2.toUInt32 >>> (Int32.toUInt32 4 &&& Int32.toUInt32 31)).toInt32) &&& 252645135) → y4 = (y3 + (y3.toUInt32 >>> (Int32.toUInt32 8 &&& Int32.toUInt32 31)).toInt32) → y5 = (y4 + (y4.toUInt32 >>> (Int32.toUInt32 16 &&& Int32.toUInt32 31)).toInt32) → y5 &&& 63 = nI (zcd S 7) := by
    intro S hS y1 y2 y3 y4 y5 e1 e2 e3 e4 e5
    have all : ∀ S, S < 128 → (let y1 := nI S - (((nI S).toUInt32 >>> (Int32.toUInt32 1 &&& Int32.toUInt32 31)).toInt32 &&& 1431655765); let y2 := ((y1 &&& 858993459) + ((y1.toUInt32 >>> (Int32.toUInt32 2 &&& Int32.toUInt32 31)).toInt32 &&& 858993459)); let y3 := ((y2 + (y2.toUInt32 >>> (Int32.toUInt32 4 &&& Int32.toUInt32 31)).toInt32) &&& 252645135); let y4 := (y3 + (y3.toUInt32 >>> (Int32.toUInt32 8 &&& Int32.toUInt32 31)).toInt32); let y5 := (y4 + (y4.toUInt32 >>> (Int32.toUInt32 16 &&& Int32.toUInt32 31)).toInt32); y5 &&& 63 = nI (zcd S 7)) := by decide +kernel
    rw [e5, e4, e3, e2, e1]
    exact all S hS
  rw [fin S hS y1 y2 y3 y4 y5 e1 e2 e3 e4 e5]
end

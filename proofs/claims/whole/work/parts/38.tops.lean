/-! whose a PIECE on a street is; the uppermost -/
section
variable {d : Nat} {Z : zZ} {J : zJ} {I I' : zI} {t u v b : Nat} {τ : Nat → Nat → Nat} {Λ : Nat → Option zLaw} {ρ : Nat → Nat}
theorem zcb_lt (hH : zH τ ρ) {s q T : Nat} (hq : zlive τ ρ q) (hs : ρ (870 + q) = s) (ht : ρ (450 + q) < T) : zcb τ ρ s (ρ (450 + q)) < zcb τ ρ s T := by
  have hd := zwt_delta (c := 1) hH hq
  have : zwt ρ (τ 0 0) (fun x => (if zblw ρ s (ρ (450 + q)) x = true then 1 else 0) + (if x = q then 1 else 0)) ≤ zcb τ ρ s T := by
    refine zwt_le hH fun x hx => ?_
    by_cases e : x = q
    · subst e
      rw [if_neg (fun z => by have := (zblw_iff.mp z).2; omega), if_pos rfl, if_pos (zblw_iff.mpr ⟨hs, ht⟩)]
      exact Nat.le_refl _
    · rw [if_neg e]
      by_cases z : zblw ρ s (ρ (450 + q)) x = true
      · obtain ⟨z1, z2⟩ := zblw_iff.mp z
        rw [if_pos z, if_pos (zblw_iff.mpr ⟨z1, by omega⟩)]
        exact Nat.le_refl _
      · rw [if_neg z]; exact Nat.zero_le _
  rw [zwt_add, hd] at this
  exact this
theorem zcb_inj (hH : zH τ ρ) (hU : zTU τ ρ) {s q q' : Nat} (hq : zlive τ ρ q) (hq' : zlive τ ρ q') (hs : ρ (870 + q) = s) (hs' : ρ (870 + q') = s) (h : zcb τ ρ s (ρ (450 + q)) = zcb τ ρ s (ρ (450 + q'))) : q = q' := by
  rcases Nat.lt_trichotomy (ρ (450 + q)) (ρ (450 + q')) with g | g | g
  · have := zcb_lt hH hq hs g; omega
  · exact hU q q' hq hq' g
  · have := zcb_lt hH hq' hs' g; omega
set_option maxHeartbeats 1000000 in
theorem M_whoseAt (h : zR0 Z I t u v τ Λ b ρ) (hR : zRM I 458 0 ρ) {s : Nat} (hs : s < 1000) {x r : Int32} (h1 : ∀ q, zlive τ ρ q → ρ (870 + q) = s → nI (zcb τ ρ s (ρ (450 + q))) = x → r = nI (q / 60)) (h2 : (∀ q, zlive τ ρ q → ρ (870 + q) = s → ¬ nI (zcb τ ρ s (ρ (450 + q))) = x) → r = -1) : zE (d + 1) kX12_whoseAt 0 [some (.ref 420), some (.int (nI s)), some (.int x), none, none, none] [] Z I J (some (.int r), Z, I, J) := by
  have h7 := h.n7
  have hlv := h.M.1.2
  have hv2 := h.M.1.1
  have hvl : vp_in (I 420 18) 2 := by rw [hlv]; exact zvin hv2 (by decide)
  have hn : I 431 (I 420 18).toNatClampNeg = nI (τ 0 0) := by rw [hlv, zclm (by omega)]; exact h.M.2.1.1
  have outer : ∀ m, m ≤ τ 0 0 → (∀ q, zlive τ ρ q → q / 60 < m → ρ (870 + q) = s → ¬ nI (zcb τ ρ s (ρ (450 + q))) = x) → zE (d + 1) kX12_whoseAt 2 [some (.ref 420), some (.int (nI s)), some (.int x), some (.int (nI m)), none, none] [] Z I J (some (.int r), Z, I, J) := by
    refine zloop _ _ ?_ ?_
    · intro hno
      refine BX12_whoseAt_2 _ _ _ h.L ⟨hvl, fun _ => ?_, fun q => absurd (by rw [hn]; exact Int32.le_refl _) q⟩
      rw [h2 (fun q hq => hno q hq hq.1)]
    · intro m hm ih hno
      have h60 := h.H.2 m hm
      have r14 : I 458 ((14 : Int32) + nI m).toNatClampNeg = nI (ρ (14 + m)) := by rw [zk_14, zclm (by omega)]; exact hR.at (by omega)
      have v14 : vp_in ((14 : Int32) + nI m) 1290 := by rw [zk_14]; exact zvin (by omega) (by decide)
      have inner : ∀ i, i ≤ ρ (14 + m) → (∀ j, j < i → ρ (870 + (60 * m + j)) = s → ¬ nI (zcb τ ρ s (ρ (450 + (60 * m + j)))) = x) → zE (d + 1) kX12_whoseAt 18 [some (.ref 420), some (.int (nI s)), some (.int x), some (.int (nI m)), some (.int (nI i)), none] [] Z I J (some (.int r), Z, I, J) := by
        refine zloop _ _ ?_ ?_
        · intro hno2
          refine BX12_whoseAt_18 _ _ _ _ h.L ⟨v14, fun _ => ?_, fun q => absurd (by rw [r14]; exact Int32.le_refl _) q⟩
          rw [zadd1]
          refine ih (fun q hq hlt => ?_)
          by_cases e : q / 60 = m
          · have := hno2 (q % 60) (by have := hq.2; rw [e] at this; exact this)
            rw [show 60 * m + q % 60 = q by omega] at this
            exact this
          · exact hno q hq (by omega)
        · intro i hi ih2 hno2
          have hq420 : 60 * m + i < 420 := by omega
          have hv := zlive_mk (ρ := ρ) h.H hm hi
          have b870 := h.B (870 + (60 * m + i)) (by omega)
          have r870 : I 458 ((870 : Int32) + nI (60 * m + i)).toNatClampNeg = nI (ρ (870 + (60 * m + i))) := by rw [zk_870, zclm (by omega)]; exact hR.at (by omega)
          have r450 : I 458 ((450 : Int32) + nI (60 * m + i)).toNatClampNeg = nI (ρ (450 + (60 * m + i))) := by rw [zk_450, zclm (by omega)]; exact hR.at (by omega)
          have next : (ρ (870 + (60 * m + i)) = s → ¬ nI (zcb τ ρ s (ρ (450 + (60 * m + i)))) = x) → zE (d + 1) kX12_whoseAt 18 [some (.ref 420), some (.int (nI s)), some (.int x), some (.int (nI m)), some (.int (nI i + 1)), none] [] Z I J (some (.int r), Z, I, J) := by
            intro hne
            rw [zadd1]
            refine ih2 (fun j hj => ?_)
            by_cases e : j = i
            · rw [e]; exact hne
            · exact hno2 j (by omega)
          refine BX12_whoseAt_18 _ _ _ _ h.L ⟨v14, fun q => ?_, fun _ y ey => ?_⟩
          · exfalso; rw [r14, zle' (by omega) (by omega)] at q; omega
          · rw [zk_60] at ey
            subst ey
            refine ⟨by rw [zk_870]; exact zvin (by omega) (by decide), fun q => next ?_, fun q => ⟨by rw [zk_450]; exact zvin (by omega) (by decide), nI (zcb τ ρ s (ρ (450 + (60 * m + i)))), ?_, fun q2 => next (fun _ => q2), fun q2 => ?_⟩⟩
            · rw [r870, zeq (by omega) (by omega)] at q; exact fun z => absurd z q
            · rw [r450, ← zoth_bb h.B h.H hv]
              exact M_others (s := s) (tm := nI (ρ (450 + (60 * m + i)))) (ov := false) h.L h.W h.M hR h.B h.D.dl (by omega)
            · rw [r870, zeq (by omega) (by omega)] at q
              rw [h1 _ hv q q2, show (60 * m + i) / 60 = m by omega]
      refine BX12_whoseAt_2 _ _ _ h.L ⟨hvl, fun q => ?_, fun _ => ?_⟩
      · exfalso; rw [hn, zle' (by omega) (by omega)] at q; omega
      · exact inner 0 (Nat.zero_le _) (fun j hj => absurd hj (by omega))
  exact BX12_whoseAt_0 _ _ h.L (outer 0 (Nat.zero_le _) (fun q _ hq => absurd hq (by omega)))
theorem M_manyOn (h : zR0 Z I t u v τ Λ b ρ) (hR : zRM I 458 0 ρ) {s : Nat} (hs : s < 1000) : zE (d + 1) kX12_manyOn 0 [some (.ref 420), some (.int (nI s))] [] Z I J (some (.int (nI (zcb τ ρ s (ρ 29)))), Z, I, J) := by
  rw [← zct_all h.W h.D h.B]
  exact BX12_manyOn_0 _ h.L ⟨_, M_others (s := s) (tm := -1) (ov := true) h.L h.W h.M hR h.B h.D.dl (by omega), rfl⟩
/-- who has the uppermost, by its number and 1 more -/
def ztp (V : Nat) : Int32 := if V = 0 then -1 else nI ((V - 1) / 60)
theorem M_topOf (h : zR0 Z I t u v τ Λ b ρ) (hR : zRM I 458 0 ρ) {s V : Nat} (hs : s < 1000) (hb : zbel τ ρ s (ρ 29) V) : zE (d + 2) kX12_topOf 0 [some (.ref 420), some (.int (nI s))] [] Z I J (some (.int (ztp V)), Z, I, J) := by
  refine BX12_topOf_0 _ h.L ⟨_, M_manyOn h hR hs, _, M_whoseAt (r := ztp V) h hR hs (fun q hq e1 e2 => ?_) (fun hno => ?_), rfl⟩
  · have hc := zcb_le (s := s) (T := ρ (450 + q)) h.H
    cases V with
    | zero =>
      rw [zcb0 h.H hb] at e2
      have e2 : nI (zcb τ ρ s (ρ (450 + q))) = -1 := e2
      exact absurd (e2 ▸ znn (by omega) : (0 : Int32) ≤ -1) (by decide)
    | succ q' =>
      obtain ⟨a1, a2, a3, a4⟩ := zbel_q hb
      have hc' := zcb_le (s := s) (T := ρ (450 + q')) h.H
      rw [zcbS h.H h.U hb, Nat.add_comm 1, zsub1, zeq (by omega) (by omega)] at e2
      rw [zcb_inj h.H h.U hq a1 e1 a2 e2]
      unfold ztp
      rw [if_neg (by omega), Nat.add_sub_cancel]
  · cases V with
    | zero => rfl
    | succ q' =>
      obtain ⟨a1, a2, a3, a4⟩ := zbel_q hb
      exfalso
      refine hno q' a1 a2 ?_
      rw [zcbS h.H h.U hb, Nat.add_comm 1, zsub1]
theorem C_from_loop {d1 : Nat} (hd : zDy Z d1) (hH : zH τ ρ) (hU : zTU τ ρ) (hC : zCP I d1 τ ρ) {dn s : Nat} : ∀ (n j v T : Nat), zbel τ ρ s T v → n < zcb τ ρ s T → j + n = dn → j + zcb τ ρ s T ≤ 420 →
    ∃ q, zlive τ ρ q ∧ ρ (870 + q) = s ∧ zcb τ ρ s (ρ (450 + q)) + 1 + n = zcb τ ρ s T ∧ zE (d + 1) kX0_fromTop 12 [some (.ref d1), none, some (.int (nI dn)), some (.int (nI v)), some (.int (nI j))] [] Z I J (some (.int (nI (q + 1))), Z, I, J) := by
  intro n
  induction n with
  | zero =>
    intro j v T hb hn hj hl
    cases v with
    | zero => rw [zcb0 hH hb] at hn; omega
    | succ q =>
      obtain ⟨a1, a2, a3, a4⟩ := zbel_q hb
      have := zcbS hH hU hb
      refine ⟨q, a1, a2, by omega, BX0_fromTop_12 _ _ _ hd ⟨fun _ => rfl, fun z => ?_⟩⟩
      exfalso; rw [zle' (by omega) (by omega)] at z; omega
  | succ n ih =>
    intro j v T hb hn hj hl
    cases v with
    | zero => rw [zcb0 hH hb] at hn; omega
    | succ q =>
      obtain ⟨v', e, hb'⟩ := hC.under hH hb
      have hl2 := zbel_lt hH hb
      have := zcbS hH hU hb
      obtain ⟨q', b1, b2, b3, b4⟩ := ih (j + 1) v' _ hb' (by omega) (by omega) (by omega)
      refine ⟨q', b1, b2, by omega, BX0_fromTop_12 _ _ _ hd ⟨fun z => ?_, fun _ => ⟨fun z => ?_, fun _ => ?_⟩⟩⟩
      · exfalso; rw [zle' (by omega) (by omega)] at z; omega
      · exfalso; rw [show (420 : Int32) = nI 420 from rfl, zle' (by decide) (by omega)] at z; omega
      · rw [e, zadd1]; exact b4
theorem C_fromTop {d1 : Nat} (hd : zDy Z d1) (hH : zH τ ρ) (hU : zTU τ ρ) (hC : zCP I d1 τ ρ) {s k : Nat} (hs : s < 288) (hk : k < zcb τ ρ s (ρ 29)) : ∃ q, zlive τ ρ q ∧ ρ (870 + q) = s ∧ zcb τ ρ s (ρ (450 + q)) = k ∧ zE (d + 1) kX0_fromTop 0 [some (.ref d1), some (.int (nI (zenc s))), some (.int (nI (zcb τ ρ s (ρ 29) - 1 - k))), none, none] [] Z I J (some (.int (nI (q + 1))), Z, I, J) := by
  obtain ⟨V, e, hb⟩ := hC.2 s hs
  have := zcb_le (s := s) (T := ρ 29) hH
  obtain ⟨q, b1, b2, b3, b4⟩ := C_from_loop (d := d) (J := J) (dn := zcb τ ρ s (ρ 29) - 1 - k) hd hH hU hC (zcb τ ρ s (ρ 29) - 1 - k) 0 V _ hb (by omega) (by omega) (by omega)
  refine ⟨q, b1, b2, by omega, BX0_fromTop_0 _ _ hd ?_⟩
  rw [zatI (zenc_lt hs) (by decide), e]
  exact b4
theorem M_isStreet (h : zR0 Z I t u v τ Λ b ρ) {x y w : Int32} : zE (d + 2) kX12_isStreet 0 [some (.ref 420), some (.int x), some (.int y), some (.int w)] [] Z I J (some (.int (zbi ((1 ≤ w ∧ w ≤ 4) ∧ zcor τ x y ∧ zcor τ (x + zdx w) (y + zdy w)))), Z, I, J) := by
  refine BX12_isStreet_0 _ _ _ h.L ⟨fun q => ?_, fun q => ⟨_, M_isCorner h.L h.M, fun q2 => ?_, fun q2 => ⟨_, M_isCorner h.L h.M, fun q3 => ?_, fun q3 => ?_⟩⟩⟩
  · rw [zbi_eq0] at q; rw [zbi_f (fun z => q z.1)]
  · rw [zbi_eq0] at q2; rw [zbi_f (fun z => q2 z.2.1)]
  · rw [zbi_eq0] at q3; rw [zbi_f (fun z => q3 z.2.2)]
  · rw [zbi_ne0] at q q2 q3; rw [zbi_t ⟨q, q2, q3⟩]
theorem zcor_ex {n : Nat} (hn : 2 ≤ n) (hn2 : n ≤ 12) {x : Int32} (h : 0 ≤ x ∧ x ≤ nI n - 1) : ∃ a, a < n ∧ x = nI a := by
  obtain ⟨k, rfl⟩ : ∃ k, n = k + 1 := ⟨n - 1, by omega⟩
  obtain ⟨j, hj, rfl⟩ := znI_ex x (Int32.not_lt.mpr h.1)
  rw [zsub1, zle' hj (by omega)] at h
  exact ⟨j, by omega, rfl⟩
/-- a street by a corner and a step -/
theorem zstr_ex (hW : zTW τ Λ) {x y w : Int32} (h : (1 ≤ w ∧ w ≤ 4) ∧ zcor τ x y ∧ zcor τ (x + zdx w) (y + zdy w)) : ∃ s, s < 288 ∧ zsc x y w = nI (zenc s) ∧ zsm x y w = nI s := by
  obtain ⟨-, w1, w2, w3, w4, -⟩ := hW.1
  obtain ⟨⟨h1, h4⟩, ⟨hx, hy⟩, hx', hy'⟩ := h
  obtain ⟨a, ha, rfl⟩ := zcor_ex w1 w2 hx
  obtain ⟨c, hc, rfl⟩ := zcor_ex w3 w4 hy
  obtain ⟨k, hk, rfl⟩ := znI_ex w (fun z => absurd (Int32.lt_of_lt_of_le z (Int32.le_trans (by decide : (0 : Int32) ≤ 1) h1)) (fun y => Int32.lt_irrefl y))
  rw [show (4 : Int32) = nI 4 from rfl, zle' hk (by decide)] at h4
  rw [show (1 : Int32) = nI 1 from rfl, zle' (by decide) hk] at h1
  rw [zdxI (by omega), zin_iff (zdi_b k) (by omega) (by omega) (by omega)] at hx'
  rw [zdyI (by omega), zin_iff (zdj_b k) (by omega) (by omega) (by omega)] at hy'
  have g3 : k = 3 → 1 ≤ c := fun e => by subst e; simp [zdj] at hy'; omega
  have g4 : k = 4 → 1 ≤ a := fun e => by subst e; simp [zdi] at hx'; omega
  exact ⟨zsn a c k, zsn_lt (by omega) (by omega) h1 h4, zscI (by omega) (by omega) h1 h4 g3 g4, zsmI h1 h4 g3 g4⟩
theorem Q_street (h : zR0 Z I t u v τ Λ b ρ) (x y w i : Int32) : zQ2 kX11_street kX12_street [some (.ref 0), some (.int x), some (.int y), some (.int w), some (.int i), none, none] [some (.ref 420), some (.int x), some (.int y), some (.int w), some (.int i), none] Z I J := by
  have hC := S_hasStreet (d := 8) (J := J) h.L (ly_tx h.L) h.S h.W h.T (x := x) (y := y) (w := w)
  have hM : ∀ {I : zI}, zR0 Z I t u v τ Λ b ρ → zE 9 kX12_isStreet 0 [some (.ref 420), some (.int x), some (.int y), some (.int w)] [] Z I J (some (.int (zbi ((1 ≤ w ∧ w ≤ 4) ∧ zcor τ x y ∧ zcor τ (x + zdx w) (y + zdy w)))), Z, I, J) := fun {I} h => M_isStreet (d := 7) h
  by_cases hst : (1 ≤ w ∧ w ≤ 4) ∧ zcor τ x y ∧ zcor τ (x + zdx w) (y + zdy w)
  · rw [zbi_t hst] at hC
    have hM1 : ∀ {I : zI}, zR0 Z I t u v τ Λ b ρ → zE 9 kX12_isStreet 0 [some (.ref 420), some (.int x), some (.int y), some (.int w)] [] Z I J (some (.int 1), Z, I, J) := fun {I} h => by have := hM h; rw [zbi_t hst] at this; exact this
    obtain ⟨s, hs, e1, e2⟩ := zstr_ex h.W hst
    have n1 : ¬ (1 : Int32) = 0 := by decide
    by_cases hi : -1 ≤ i
    · have hcl := zcb_le (s := s) (T := ρ 29) h.H
      by_cases hm1 : i = -1
      · refine zQ2.of h (nI (zcb τ ρ s (ρ 29))) ⟨I, BX11_street_0 (d := 7) _ _ _ _ h.L ⟨1, hC, fun q => absurd q n1, fun _ => ⟨fun _ => ⟨_, by rw [e1]; exact C_countOn (ly_d47 h.L) h.H h.U h.P hs, fun q => absurd hm1 q, fun _ => rfl⟩, fun q => absurd hi q⟩⟩, zscr.rf⟩ (fun I1 h => ?_)
        obtain ⟨I2, g1, g2, g3, g4, g5⟩ := M_cop (d := 9) (J := J) h
        exact ⟨I2, BX12_street_0 (d := 7) _ _ _ _ h.L ⟨1, hM1 h, fun q => absurd q n1, fun _ => ⟨fun _ => ⟨I2, g1, fun q => absurd hm1 q, fun _ => ⟨_, by rw [e2]; exact M_manyOn g2 g3 (by omega), rfl⟩⟩, fun q => absurd hi q⟩⟩, g5⟩
      · have h0 : ¬ i < 0 := fun q => by
          rw [Int32.lt_iff_toInt_lt] at q
          rw [Int32.le_iff_toInt_le] at hi
          have e0 : (-1 : Int32).toInt = -1 := by decide
          have : i.toInt = (-1 : Int32).toInt := by simp at q; omega
          exact hm1 (Int32.toInt_inj.mp this)
        obtain ⟨k, hk, rfl⟩ := znI_ex i h0
        by_cases hlt : k < zcb τ ρ s (ρ 29)
        · obtain ⟨q, b1, b2, b3, b4⟩ := C_fromTop (d := 8) (J := J) (ly_d47 h.L) h.H h.U h.P hs hlt
          have hq := zlive_lt h.H b1
          refine zQ2.of h (nI (q / 60)) ⟨I, BX11_street_0 (d := 7) _ _ _ _ h.L ⟨1, hC, fun q => absurd q n1, fun _ => ⟨fun _ => ⟨_, by rw [e1]; exact C_countOn (ly_d47 h.L) h.H h.U h.P hs, fun _ => ⟨fun z => ?_, fun _ => ⟨nI (q + 1), ?_, ?_⟩⟩, fun z => absurd z hm1⟩, fun q => absurd hi q⟩⟩, zscr.rf⟩ (fun I1 h => ?_)
          · exfalso; rw [zle' (by omega) (by omega)] at z; omega
          · obtain ⟨c, hc⟩ : ∃ c, zcb τ ρ s (ρ 29) = c + 1 := ⟨zcb τ ρ s (ρ 29) - 1, by omega⟩
            rw [e1, hc, zsub1, zsub (by omega)]
            rw [hc, Nat.add_sub_cancel] at b4
            exact b4
          · rw [zowI (by omega)]
          · obtain ⟨I2, g1, g2, g3, g4, g5⟩ := M_cop (d := 9) (J := J) h
            refine ⟨I2, BX12_street_0 (d := 7) _ _ _ _ h.L ⟨1, hM1 h, fun q => absurd q n1, fun _ => ⟨fun _ => ⟨I2, g1, fun _ => ⟨nI (q / 60), ?_, rfl⟩, fun z => absurd z hm1⟩, fun q => absurd hi q⟩⟩, g5⟩
            rw [e2]
            refine M_whoseAt g2 g3 (by omega) (fun q' c1 c2 c3 => ?_) (fun hno => absurd (by rw [b3]) (hno q b1 b2))
            have := zcb_le (s := s) (T := ρ (450 + q')) h.H
            rw [zeq (by omega) (by omega)] at c3
            rw [zcb_inj h.H h.U c1 b1 c2 b2 (by omega)]
        · refine zQ2.of h (-1) ⟨I, BX11_street_0 (d := 7) _ _ _ _ h.L ⟨1, hC, fun q => absurd q n1, fun _ => ⟨fun _ => ⟨_, by rw [e1]; exact C_countOn (ly_d47 h.L) h.H h.U h.P hs, fun _ => ⟨fun _ => rfl, fun z => ?_⟩, fun z => absurd z hm1⟩, fun q => absurd hi q⟩⟩, zscr.rf⟩ (fun I1 h => ?_)
          · exfalso; rw [zle' (by omega) (by omega)] at z; omega
          · obtain ⟨I2, g1, g2, g3, g4, g5⟩ := M_cop (d := 9) (J := J) h
            refine ⟨I2, BX12_street_0 (d := 7) _ _ _ _ h.L ⟨1, hM1 h, fun q => absurd q n1, fun _ => ⟨fun _ => ⟨I2, g1, fun _ => ⟨-1, ?_, rfl⟩, fun z => absurd z hm1⟩, fun q => absurd hi q⟩⟩, g5⟩
            rw [e2]
            refine M_whoseAt g2 g3 (by omega) (fun q' c1 c2 c3 => ?_) (fun _ => rfl)
            exfalso
            have h3 := zcb_lt h.H c1 c2 (zlive_t h.D c1)
            rw [zeq (by omega) (by omega)] at c3
            omega
    · exact zQ2.of h (-1) ⟨I, BX11_street_0 (d := 7) _ _ _ _ h.L ⟨1, hC, fun q => absurd q n1, fun _ => ⟨fun q => absurd q hi, fun _ => rfl⟩⟩, zscr.rf⟩ (fun I1 h => ⟨I1, BX12_street_0 (d := 7) _ _ _ _ h.L ⟨1, hM1 h, fun q => absurd q n1, fun _ => ⟨fun q => absurd q hi, fun _ => rfl⟩⟩, zscr.rf⟩)
  · rw [zbi_f hst] at hC
    have hM1 : ∀ {I : zI}, zR0 Z I t u v τ Λ b ρ → zE 9 kX12_isStreet 0 [some (.ref 420), some (.int x), some (.int y), some (.int w)] [] Z I J (some (.int 0), Z, I, J) := fun {I} h => by have := hM h; rw [zbi_f hst] at this; exact this
    exact zQ2.of h (-1) ⟨I, BX11_street_0 (d := 7) _ _ _ _ h.L ⟨0, hC, fun _ => rfl, fun q => absurd rfl q⟩, zscr.rf⟩ (fun I1 h => ⟨I1, BX12_street_0 (d := 7) _ _ _ _ h.L ⟨0, hM1 h, fun _ => rfl, fun q => absurd rfl q⟩, zscr.rf⟩)
theorem zdye (h : zR0 Z I t u v τ Λ b ρ) {m : Nat} (hm : m < τ 0 0) : zat I (t + 10) 7 (nI m) = nI (τ 3 m) ∧ vp_in (((7 : Int32) * I 420 18) + nI m) 14 ∧ I 434 (((7 : Int32) * I 420 18) + nI m).toNatClampNeg = nI (τ 3 m) := by
  have h7 := h.n7
  have hv2 := h.M.1.1
  have e : ((7 : Int32) * I 420 18) + nI m = nI (7 * v + m) := by rw [h.M.1.2, show (7 : Int32) = nI 7 from rfl, zmul, zadd]
  refine ⟨by rw [zatI (by omega) (by decide)]; exact (h.T.2.1 m hm).2.2.1, by rw [e]; exact zvin (by omega) (by decide), ?_⟩
  rw [e, zclm (by omega)]; exact (h.M.2.2.1 m hm).2.2.1
theorem Q_shows (h : zR0 Z I t u v τ Λ b ρ) (x y w : Int32) : zQ2 kX11_shows kX12_shows [some (.ref 0), some (.int x), some (.int y), some (.int w), none] [some (.ref 420), some (.int x), some (.int y), some (.int w), none] Z I J := by
  have hC := S_hasStreet (d := 8) (J := J) h.L (ly_tx h.L) h.S h.W h.T (x := x) (y := y) (w := w)
  have hM : ∀ {I : zI}, zR0 Z I t u v τ Λ b ρ → zE 9 kX12_isStreet 0 [some (.ref 420), some (.int x), some (.int y), some (.int w)] [] Z I J (some (.int (zbi ((1 ≤ w ∧ w ≤ 4) ∧ zcor τ x y ∧ zcor τ (x + zdx w) (y + zdy w)))), Z, I, J) := fun {I} h => M_isStreet (d := 7) h
  by_cases hst : (1 ≤ w ∧ w ≤ 4) ∧ zcor τ x y ∧ zcor τ (x + zdx w) (y + zdy w)
  · rw [zbi_t hst] at hC
    have hM1 : ∀ {I : zI}, zR0 Z I t u v τ Λ b ρ → zE 9 kX12_isStreet 0 [some (.ref 420), some (.int x), some (.int y), some (.int w)] [] Z I J (some (.int 1), Z, I, J) := fun {I} h => by have := hM h; rw [zbi_t hst] at this; exact this
    obtain ⟨s, hs, e1, e2⟩ := zstr_ex h.W hst
    have n1 : ¬ (1 : Int32) = 0 := by decide
    obtain ⟨V, eV, hb⟩ := h.P.2 s hs
    have hV := zbel_lt h.H hb
    have ea : zat I (47 + 9) 288 (zsc x y w) = nI V := by rw [e1, zatI (zenc_lt hs) (by decide), eV]
    cases V with
    | zero =>
      refine zQ2.of h (-2) ⟨I, BX11_shows_0 (d := 8) _ _ _ h.L ⟨1, hC, fun _ y2 ey => ⟨fun q => absurd (by rw [ey, ea]; rfl) q, fun _ => rfl⟩, fun q => absurd q n1⟩, zscr.rf⟩ (fun I1 h => ?_)
      obtain ⟨I2, g1, g2, g3, g4, g5⟩ := M_cop (d := 9) (J := J) h
      exact ⟨I2, BX12_shows_0 (d := 7) _ _ _ h.L ⟨1, hM1 h, fun _ => ⟨I2, g1, _, by rw [e2]; exact M_topOf g2 g3 (by omega) hb, fun q => absurd q (by decide), fun _ => rfl⟩, fun q => absurd q n1⟩, g5⟩
    | succ q0 =>
      obtain ⟨a1, a2, a3, a4⟩ := zbel_q hb
      have hq0 := zlive_lt h.H a1
      have hd := zdye h a1.1
      refine zQ2.of h (nI (τ 3 (q0 / 60))) ⟨I, BX11_shows_0 (d := 8) _ _ _ h.L ⟨1, hC, fun _ y2 ey => ⟨fun _ => ?_, fun q => ?_⟩, fun q => absurd q n1⟩, zscr.rf⟩ (fun I1 h => ?_)
      · rw [ey, ea, zowI (by omega), hd.1]
      · exfalso; rw [ey, ea, zn0 (by omega)] at q; omega
      · obtain ⟨I2, g1, g2, g3, g4, g5⟩ := M_cop (d := 9) (J := J) h
        have hd2 := zdye g2 a1.1
        have et : ztp (q0 + 1) = nI (q0 / 60) := by unfold ztp; rw [if_neg (by omega), Nat.add_sub_cancel]
        refine ⟨I2, BX12_shows_0 (d := 7) _ _ _ h.L ⟨1, hM1 h, fun _ => ⟨I2, g1, nI (q0 / 60), ?_, fun _ => ⟨hd2.2.1, by rw [hd2.2.2]⟩, fun q => absurd (znn (by omega)) q⟩, fun q => absurd q n1⟩, g5⟩
        rw [e2, ← et]; exact M_topOf g2 g3 (by omega) hb
  · rw [zbi_f hst] at hC
    have hM1 : ∀ {I : zI}, zR0 Z I t u v τ Λ b ρ → zE 9 kX12_isStreet 0 [some (.ref 420), some (.int x), some (.int y), some (.int w)] [] Z I J (some (.int 0), Z, I, J) := fun {I} h => by have := hM h; rw [zbi_f hst] at this; exact this
    exact zQ2.of h (-1) ⟨I, BX11_shows_0 (d := 8) _ _ _ h.L ⟨0, hC, fun q => absurd rfl q, fun _ => rfl⟩, zscr.rf⟩ (fun I1 h => ⟨I1, BX12_shows_0 (d := 7) _ _ _ h.L ⟨0, hM1 h, fun q => absurd rfl q, fun _ => rfl⟩, zscr.rf⟩)
-- sums over streets
theorem zsum_comm {f : Nat → Nat → Nat} {a m c n : Nat} : zsum (fun i => zsum (fun j => f i j) c n) a m = zsum (fun j => zsum (fun i => f i j) a m) c n := by
  induction m generalizing a with
  | zero => simp only [zsum]; exact (zsum_0 (fun _ _ _ => rfl)).symm
  | succ m ih =>
    simp only [zsum]
    rw [ih, ← zsum_add]
theorem zsum_2 {g : Nat → Nat} (n : Nat) : zsum (fun s => g (2 * s) + g (2 * s + 1)) 0 n = zsum g 0 (2 * n) := by
  induction n with
  | zero => rfl
  | succ n ih =>
    rw [zsum_last, ih, show 2 * (n + 1) = 2 * n + 1 + 1 by omega, zsum_last, zsum_last, Nat.zero_add, Nat.zero_add, Nat.zero_add]
    omega
theorem zsum_sh {g : Nat → Nat} {c i k : Nat} : zsum (fun j => g (j + c)) i k = zsum g (i + c) k := by
  induction k generalizing i with
  | zero => rfl
  | succ k ih => simp only [zsum]; rw [ih, show i + 1 + c = i + c + 1 by omega]
theorem zsum_enc {g : Nat → Nat} : zsum (fun s => g (zenc s)) 0 288 = zsum g 0 288 := by
  rw [show 288 = 144 + 144 by rfl, zsum_split]
  have e1 : zsum (fun s => g (zenc s)) 0 144 = zsum (fun s => g (2 * s)) 0 144 := zsum_congr fun s _ h => by unfold zenc; rw [if_pos (by omega)]
  have e2 : zsum (fun s => g (zenc s)) (0 + 144) 144 = zsum (fun s => g (2 * s + 1)) 0 144 := by
    rw [← zsum_sh (g := fun s => g (zenc s))]
    refine zsum_congr fun s _ h => ?_
    show g (zenc (s + 144)) = _
    unfold zenc; rw [if_neg (by omega), Nat.add_sub_cancel]
  rw [e1, e2, ← zsum_add, zsum_2]
/-- the uppermost PIECE, by the street's number in the memory of a day -/
def zV (I : zI) (d1 c : Nat) : Nat := (I (d1 + 9) c).toNatClampNeg
theorem zV_ok {d1 : Nat} (hH : zH τ ρ) (hC : zCP I d1 τ ρ) {s : Nat} (hs : s < 288) : I (d1 + 9) (zenc s) = nI (zV I d1 (zenc s)) ∧ zbel τ ρ s (ρ 29) (zV I d1 (zenc s)) := by
  obtain ⟨V, e, hb⟩ := hC.2 s hs
  have := zbel_lt hH hb
  have e2 : zV I d1 (zenc s) = V := by unfold zV; rw [e, zclm (by omega)]
  rw [e2]; exact ⟨e, hb⟩
/-- streets on which his PIECE is the uppermost -/
def zct1 (V : Nat → Nat) (m : Nat) : Nat := zsum (fun c => if V c ≠ 0 ∧ (V c - 1) / 60 = m then 1 else 0) 0 288
theorem zct1_le (V : Nat → Nat) (m : Nat) : zct1 V m ≤ 288 := by
  have := zsum_le (f := fun c => if V c ≠ 0 ∧ (V c - 1) / 60 = m then 1 else 0) (b := 1) (i := 0) (k := 288) (fun j _ _ => by split <;> omega)
  unfold zct1; omega
theorem C_countTops {d1 : Nat} (hd : zDy Z d1) (hH : zH τ ρ) (hC : zCP I d1 τ ρ) {m : Nat} (hm : m < τ 0 0) : zE (d + 1) kX0_countTops 0 [some (.ref d1), some (.int (nI m)), none, none, none] [] Z I J (some (.int (nI (zct1 (zV I d1) m))), Z, I, J) := by
  have h7 := hH.1
  have loop : ∀ c, c ≤ 288 → ∀ acc, zE (d + 1) kX0_countTops 4 [some (.ref d1), some (.int (nI m)), some (.int (nI acc)), some (.int (nI c)), none] [] Z I J (some (.int (nI (acc + zsum (fun c => if zV I d1 c ≠ 0 ∧ (zV I d1 c - 1) / 60 = m then 1 else 0) c (288 - c)))), Z, I, J) := by
    refine zloop _ _ ?_ ?_
    · intro acc
      exact BX0_countTops_4 _ _ _ hd ⟨fun _ => rfl, fun q => absurd (by decide) q⟩
    · intro c hc ih acc
      obtain ⟨s, hs, rfl⟩ := zenc_sur hc
      obtain ⟨e, hb⟩ := zV_ok hH hC hs
      have hl := zbel_lt hH hb
      have ea : zat I (d1 + 9) 288 (nI (zenc s)) = nI (zV I d1 (zenc s)) := by rw [zatI hc (by decide), e]
      rw [zsum_lt hc, ← Nat.add_assoc]
      refine BX0_countTops_4 _ _ _ hd ⟨fun q => ?_, fun _ => ⟨fun q => ?_, fun q => ⟨fun q2 => ?_, fun q2 => ?_⟩⟩⟩
      · exfalso; rw [show (288 : Int32) = nI 288 from rfl, zle' (by decide) (by omega)] at q; omega
      · rw [ea, zn0 (by omega)] at q
        rw [if_neg (fun z => z.1 q), Nat.add_zero, zadd1]; exact ih acc
      all_goals rw [ea, zn0 (by omega)] at q
      all_goals obtain ⟨q0, hq0⟩ : ∃ q0, zV I d1 (zenc s) = q0 + 1 := ⟨zV I d1 (zenc s) - 1, by omega⟩
      all_goals rw [ea, hq0, zowI (by omega), zeq (by omega) (by omega)] at q2
      · rw [if_neg (fun z => q2 (by have := z.2; rw [hq0] at this; exact this)), Nat.add_zero, zadd1]; exact ih acc
      · rw [if_pos ⟨q, by rw [hq0]; exact q2⟩, zadd1, zadd1]; exact ih (acc + 1)
  have := loop 0 (by decide) 0
  rw [Nat.zero_add, Nat.sub_zero] at this
  exact BX0_countTops_0 _ hd this
theorem ztp_eq {V m : Nat} (hV : V < 421) (hm : m < 7) : ztp V = nI m ↔ V ≠ 0 ∧ (V - 1) / 60 = m := by
  unfold ztp
  by_cases e : V = 0
  · rw [if_pos e]
    constructor
    · intro h; exact absurd (h ▸ znn (by omega) : (0 : Int32) ≤ -1) (by decide)
    · rintro ⟨h, -⟩; exact absurd e h
  · rw [if_neg e, zeq (by omega) (by omega)]
    exact ⟨fun h => ⟨e, h⟩, fun h => h.2⟩
theorem Q_uppermost (h : zR0 Z I t u v τ Λ b ρ) (x : Int32) : zQ2 kX11_uppermost kX12_uppermost [some (.ref 0), some (.int x)] [some (.ref 420), some (.int x), none, none] Z I J := by
  have h7 := h.n7
  by_cases hx : zism τ x
  · obtain ⟨m, hm, rfl⟩ := (zism_iff h7 x).mp hx
    have nm : ¬ zbi (zism τ (nI m)) = 0 := zbi_ne0.mpr hx
    refine zQ2.of h (nI (zct1 (zV I 47) m)) ⟨I, BX11_uppermost_0 (d := 8) _ h.L ⟨_, C_isMan h.L h7 h.men, fun q => absurd q nm, fun _ => ⟨_, C_countTops (ly_d47 h.L) h.H h.P hm, rfl⟩⟩, zscr.rf⟩ (fun I1 h1 => ?_)
    obtain ⟨I2, g1, g2, g3, g4, g5⟩ := M_cop (d := 9) (J := J) h1
    have loop : ∀ s, s ≤ 288 → ∀ acc, zE 10 kX12_uppermost 18 [some (.ref 420), some (.int (nI m)), some (.int (nI acc)), some (.int (nI s))] [] Z I2 J (some (.int (nI (acc + zsum (fun s => if zV I 47 (zenc s) ≠ 0 ∧ (zV I 47 (zenc s) - 1) / 60 = m then 1 else 0) s (288 - s)))), Z, I2, J) := by
      refine zloop _ _ ?_ ?_
      · intro acc
        exact BX12_uppermost_18 (d := 7) _ _ _ g2.L ⟨fun _ => rfl, fun q => absurd (by decide) q⟩
      · intro s hs ih acc
        obtain ⟨-, hb⟩ := zV_ok h.H h.P hs
        have hl := zbel_lt h.H hb
        have hiff := ztp_eq (m := m) hl (by omega)
        rw [zsum_lt hs, ← Nat.add_assoc]
        refine BX12_uppermost_18 (d := 7) _ _ _ g2.L ⟨fun q => ?_, fun _ => ⟨_, M_topOf g2 g3 (by omega) hb, fun q => ?_, fun q => ?_⟩⟩
        · exfalso; rw [show (288 : Int32) = nI 288 from rfl, zle' (by decide) (by omega)] at q; omega
        · rw [if_neg (fun z => q (hiff.mpr z)), Nat.add_zero, zadd1]; exact ih acc
        · rw [if_pos (hiff.mp q), zadd1, zadd1]; exact ih (acc + 1)
    have := loop 0 (by decide) 0
    rw [Nat.zero_add, Nat.sub_zero, zsum_enc (g := fun c => if zV I 47 c ≠ 0 ∧ (zV I 47 c - 1) / 60 = m then 1 else 0)] at this
    exact ⟨I2, BX12_uppermost_0 (d := 7) _ h1.L ⟨_, M_isMan h1.L h1.W h1.M, fun _ => ⟨I2, g1, this⟩, fun q => absurd q nm⟩, g5⟩
  · have nm : zbi (zism τ x) = 0 := zbi_eq0.mpr hx
    exact zQ2.of h (-1) ⟨I, BX11_uppermost_0 (d := 8) _ h.L ⟨_, C_isMan h.L h7 h.men, fun _ => rfl, fun q => absurd nm q⟩, zscr.rf⟩ (fun I1 h => ⟨I1, BX12_uppermost_0 (d := 7) _ h.L ⟨_, M_isMan h.L h.W h.M, fun q => absurd nm q, fun _ => rfl⟩, zscr.rf⟩)
theorem Q_shown (h : zR0 Z I t u v τ Λ b ρ) (x : Int32) : zQ2 kX11_shown kX12_shown [some (.ref 0), some (.int x), none, none] [some (.ref 420), some (.int x), none, none, none] Z I J := by
  have h7 := h.n7
  by_cases hx : 0 ≤ x ∧ x ≤ 9
  · obtain ⟨e, he, rfl⟩ := znI_ex x (Int32.not_lt.mpr hx.1)
    have he9 : e ≤ 9 := by have := hx.2; rw [show (9 : Int32) = nI 9 from rfl, zle' he (by decide)] at this; exact this
    obtain ⟨V, hV⟩ : ∃ V : Nat → Nat, V = zV I 47 := ⟨_, rfl⟩
    have cl : ∀ m, m ≤ τ 0 0 → ∀ acc, zE 10 kX11_shown 16 [some (.ref 0), some (.int (nI e)), some (.int (nI acc)), some (.int (nI m))] [] Z I J (some (.int (nI (acc + zsum (fun m => if τ 3 m = e then zct1 V m else 0) m (τ 0 0 - m)))), Z, I, J) := by
      refine zloop _ _ ?_ ?_
      · intro acc
        refine BX11_shown_16 (d := 8) _ _ _ h.L ⟨fun _ => ?_, fun q => absurd (by rw [h.men]; exact Int32.le_refl _) q⟩
        rw [zsum_end]; rfl
      · intro m hm ih acc
        have hd := zdye h hm
        have h9 := (h.W.2.1 m hm).2.2.1
        rw [zsum_lt hm, ← Nat.add_assoc]
        refine BX11_shown_16 (d := 8) _ _ _ h.L ⟨fun q => ?_, fun _ => ⟨fun q => ?_, fun q => ⟨nI (zct1 V m), by rw [hV]; exact C_countTops (ly_d47 h.L) h.H h.P hm, ?_⟩⟩⟩
        · exfalso; rw [h.men, zle' (by omega) (by omega)] at q; omega
        all_goals rw [hd.1, zeq (by omega) (by omega)] at q
        · rw [if_neg q, Nat.add_zero, zadd1]; exact ih acc
        · rw [if_pos q, zadd, zadd1]; exact ih _
    have c0 := cl 0 (Nat.zero_le _) 0
    rw [Nat.zero_add, Nat.sub_zero] at c0
    -- both sums are one
    have key : zsum (fun m => if τ 3 m = e then zct1 V m else 0) 0 (τ 0 0) = zsum (fun s => if V (zenc s) ≠ 0 ∧ τ 3 ((V (zenc s) - 1) / 60) = e then 1 else 0) 0 288 := by
      rw [zsum_enc (g := fun c => if V c ≠ 0 ∧ τ 3 ((V c - 1) / 60) = e then 1 else 0)]
      have e1 : zsum (fun m => if τ 3 m = e then zct1 V m else 0) 0 (τ 0 0) = zsum (fun m => zsum (fun c => if τ 3 m = e ∧ V c ≠ 0 ∧ (V c - 1) / 60 = m then 1 else 0) 0 288) 0 (τ 0 0) := zsum_congr fun m _ _ => by
        by_cases q : τ 3 m = e
        · rw [if_pos q]
          refine zsum_congr fun c _ _ => ?_
          by_cases z : V c ≠ 0 ∧ (V c - 1) / 60 = m
          · rw [if_pos z, if_pos ⟨q, z⟩]
          · rw [if_neg z, if_neg (fun y => z y.2)]
        · rw [if_neg q]
          exact (zsum_0 fun c _ _ => if_neg (fun z => q z.1)).symm
      rw [e1, zsum_comm]
      refine zsum_congr fun c _ hc => ?_
      obtain ⟨s, hs, rfl⟩ := zenc_sur (c := c) (by omega)
      obtain ⟨-, hb⟩ := zV_ok h.H h.P hs
      rw [← hV] at hb
      by_cases z : V (zenc s) = 0
      · rw [if_neg (fun y => y.1 z)]
        exact zsum_0 fun m _ _ => if_neg (fun y => y.2.1 z)
      · obtain ⟨q0, hq0⟩ : ∃ q0, V (zenc s) = q0 + 1 := ⟨V (zenc s) - 1, by omega⟩
        rw [hq0] at hb ⊢
        have hown := (zbel_q hb).1.1
        rw [zsum_one (a := q0 / 60) (Nat.zero_le _) (by omega) (fun m _ _ hne => if_neg (fun y => hne (by have := y.2.2; omega)))]
        rw [Nat.add_sub_cancel]
        by_cases y : τ 3 (q0 / 60) = e
        · rw [if_pos ⟨y, by omega, rfl⟩, if_pos ⟨by omega, y⟩]
        · rw [if_neg (fun z => y z.1), if_neg (fun z => y z.2)]
    rw [key] at c0
    refine zQ2.of h _ ⟨I, BX11_shown_0 (d := 8) _ h.L ⟨fun q => absurd q (Int32.not_lt.mpr hx.1), fun _ => ⟨fun _ => c0, fun q => absurd hx.2 q⟩⟩, zscr.rf⟩ (fun I1 h1 => ?_)
    obtain ⟨I2, g1, g2, g3, g4, g5⟩ := M_cop (d := 9) (J := J) h1
    have loop : ∀ s, s ≤ 288 → ∀ acc, zE 10 kX12_shown 20 [some (.ref 420), some (.int (nI e)), some (.int (nI acc)), some (.int (nI s)), none] [] Z I2 J (some (.int (nI (acc + zsum (fun s => if V (zenc s) ≠ 0 ∧ τ 3 ((V (zenc s) - 1) / 60) = e then 1 else 0) s (288 - s)))), Z, I2, J) := by
      refine zloop _ _ ?_ ?_
      · intro acc
        exact BX12_shown_20 (d := 7) _ _ _ g2.L ⟨fun _ => rfl, fun q => absurd (by decide) q⟩
      · intro s hs ih acc
        obtain ⟨-, hb⟩ := zV_ok h.H h.P hs
        rw [← hV] at hb
        have hl := zbel_lt h.H hb
        rw [zsum_lt hs, ← Nat.add_assoc]
        have h288 : ¬ (288 : Int32) ≤ nI s := by rw [show (288 : Int32) = nI 288 from rfl, zle' (by decide) (by omega)]; omega
        by_cases z : V (zenc s) = 0
        · rw [if_neg (fun y => y.1 z), Nat.add_zero]
          have et : ztp (V (zenc s)) = -1 := by rw [z]; rfl
          refine BX12_shown_20 (d := 7) _ _ _ g2.L ⟨fun q => absurd q h288, fun _ => ⟨-1, by rw [← et]; exact M_topOf g2 g3 (by omega) hb, fun _ => by rw [zadd1]; exact ih acc, fun q => absurd (by decide) q⟩⟩
        · obtain ⟨q0, hq0⟩ : ∃ q0, V (zenc s) = q0 + 1 := ⟨V (zenc s) - 1, by omega⟩
          rw [hq0] at hb
          have a1 := (zbel_q hb).1
          have hq420 := zlive_lt h.H a1
          have hd2 := zdye g2 a1.1
          have h9 := (h.W.2.1 _ a1.1).2.2.1
          have et : ztp (q0 + 1) = nI (q0 / 60) := by unfold ztp; rw [if_neg (by omega), Nat.add_sub_cancel]
          refine BX12_shown_20 (d := 7) _ _ _ g2.L ⟨fun q => absurd q h288, fun _ => ⟨nI (q0 / 60), by rw [← et]; exact M_topOf g2 g3 (by omega) hb, fun q => absurd q (zneg (by omega)), fun _ => ⟨hd2.2.1, fun q => ?_, fun q => ?_⟩⟩⟩
          all_goals rw [hd2.2.2, zeq (by omega) (by omega)] at q
          · rw [if_neg (fun y => q (by have := y.2; rw [hq0, Nat.add_sub_cancel] at this; exact this)), Nat.add_zero, zadd1]; exact ih acc
          · rw [if_pos ⟨z, by rw [hq0, Nat.add_sub_cancel]; exact q⟩, zadd1, zadd1]; exact ih (acc + 1)
    have := loop 0 (by decide) 0
    rw [Nat.zero_add, Nat.sub_zero] at this
    exact ⟨I2, BX12_shown_0 (d := 7) _ h1.L ⟨fun _ => ⟨I2, g1, this⟩, fun q => absurd hx (zbi_eq0.mp q)⟩, g5⟩
  · refine zQ2.of h (-1) ⟨I, BX11_shown_0 (d := 8) _ h.L ⟨fun _ => rfl, fun q => ⟨fun q2 => absurd ⟨Int32.not_lt.mp q, q2⟩ hx, fun _ => rfl⟩⟩, zscr.rf⟩ (fun I1 h => ⟨I1, BX12_shown_0 (d := 7) _ h.L ⟨fun q => absurd (zbi_ne0.mp q) hx, fun _ => rfl⟩, zscr.rf⟩)
end

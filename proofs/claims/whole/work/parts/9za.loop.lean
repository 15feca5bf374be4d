/-! the law's loop over the script; the claim -/
section
variable {nm : String} {L b i : Nat} {xs : Nat → Int32} {Z : zZ} {I : zI} {J : zJ} {o : zO}
theorem zlt6 (hL : L ≤ 3072) (hi : i ≤ 3078) : nI L - 6 < nI i ↔ L < i + 6 := by
  by_cases c : 6 ≤ L
  · rw [show (6 : Int32) = nI 6 from rfl, zsub c, zlt (by omega) (by omega)]; omega
  · have h1 : nI L - 6 < 0 := (by decide : ∀ k, k < 6 → nI k - 6 < 0) L (by omega)
    exact ⟨fun _ => by omega, fun _ => Int32.lt_of_lt_of_le h1 (znn (by omega))⟩
theorem L_head (hro : zro Z 1000000 L) (hL : L ≤ 3072) (hi : i ≤ L) (h1 : L < i + 6 → zE 11 (kL nm) 1381 (zlwl i) [] Z I J o) (h2 : i + 6 ≤ L → zE 11 (kL nm) 27 (zlwl i) [] Z I J o) : zE 11 (kL nm) 18 (zlwl i) [] Z I J o := by
  refine ex_step (pc' := 19) dL_law_18 rfl ?_
  refine ex_step (pc' := 20) dL_law_19 rfl ?_
  refine ex_alen (kd := 1) dL_law_20 (Or.inr hro) ?_
  refine ex_step (pc' := 23) (st' := [.int 6, .int (nI L), .int (nI i)]) dL_law_21 rfl ?_
  refine ex_step (pc' := 24) (st' := [.int (nI L - 6), .int (nI i)]) dL_law_23 rfl ?_
  refine ex_icmp (pc' := 1381) dL_law_24 (by decide) (fun c => ?_) (fun c => ?_)
  · exact h1 ((zlt6 hL (by omega)).mp c)
  · exact h2 (by
      have c' : ¬ nI L - 6 < nI i := c
      rw [zlt6 hL (by omega)] at c'; omega)
theorem zAll.up (H : zAll Z I J b xs L) (hb : b + 2000 < 500000000) : zAll Z I J (b + 2000) xs L := by
  obtain ⟨⟨t, u, v, τ, Λ, ρ, n, nx, hs, sl, kt, A, hF⟩, H2⟩ := H
  exact ⟨⟨t, u, v, τ, Λ, ρ, n, nx, hs, sl, kt, A, hF.up (by omega) hb⟩, H2⟩
theorem L_one (H : zAll Z I J b xs L) (hb : b + 2000 < 500000000) (hL : L ≤ 3072) (hi : i + 6 ≤ L) : ∃ (Z1 : zZ) (I2 : zI) (J2 : zJ), zAll Z1 I2 J2 (b + 2000) xs L ∧ ∀ o, zE 11 (kL nm) 1375 (zlwl i) [] Z1 I2 J2 o → zE 11 (kL nm) 27 (zlwl i) [] Z I J o := by
  obtain ⟨x, ex⟩ : ∃ x : Int32, x = xs i &&& 63 := ⟨_, rfl⟩
  have D : ∀ o, zE 11 (kL nm) 33 (zlwl i) [.int x] Z I J o → zE 11 (kL nm) 27 (zlwl i) [] Z I J o := fun o ho => by
    refine ex_step (pc' := 28) dL_law_27 rfl ?_
    refine ex_step (pc' := 29) dL_law_28 rfl ?_
    refine ex_iald dL_law_29 (Or.inr H.2.2.2.1) (zvin (show i < L by omega) (by omega)) ?_
    rw [zclm (show i < 2147483648 by omega), H.2.2.1]
    refine ex_step (pc' := 32) (st' := [.int 63, .int (xs i)]) dL_law_30 rfl ?_
    refine ex_step (pc' := 33) (st' := [.int (xs i &&& 63)]) dL_law_32 rfl ?_
    rw [← ex]; exact ho
  by_cases hx : x.toInt < 0 ∨ 42 < x.toInt
  · exact ⟨Z, I, J, H.up hb, fun o ho => D o (ex_tabOut (pc' := 1375) dL_law_33 hx (by decide) ho)⟩
  · obtain ⟨q, hq⟩ : ∃ q : Nat, x.toInt = q := Int.eq_ofNat_of_zero_le (by omega)
    have hq43 : q < 43 := by omega
    match q, hq, hq43 with
    | 0, hq, _ =>
      obtain ⟨Z1, I2, J2, H2, hs⟩ := L_feed (nm := nm) H hb hL hi
      exact ⟨Z1, I2, J2, H2, fun o ho => D o (ex_tabIn (off := 187) (pc' := 220) dL_law_33 (by rw [hq]; decide) (by rw [hq]; decide) (by rw [hq]; rfl) (by decide) (hs o ho))⟩
    | 1, hq, _ =>
      obtain ⟨Z1, I2, J2, H2, hs⟩ := L_back (nm := nm) H hb hL hi
      exact ⟨Z1, I2, J2, H2, fun o ho => D o (ex_tabIn (off := 250) (pc' := 283) dL_law_33 (by rw [hq]; decide) (by rw [hq]; decide) (by rw [hq]; rfl) (by decide) (hs o ho))⟩
    | 2, hq, _ =>
      obtain ⟨Z1, I2, J2, H2, hs⟩ := L_read (nm := nm) H hb hL hi
      exact ⟨Z1, I2, J2, H2, fun o ho => D o (ex_tabIn (off := 273) (pc' := 306) dL_law_33 (by rw [hq]; decide) (by rw [hq]; decide) (by rw [hq]; rfl) (by decide) (hs o ho))⟩
    | 3, hq, _ =>
      obtain ⟨Z1, I2, J2, H2, hs⟩ := L_place (nm := nm) H hb hL hi
      exact ⟨Z1, I2, J2, H2, fun o ho => D o (ex_tabIn (off := 286) (pc' := 319) dL_law_33 (by rw [hq]; decide) (by rw [hq]; decide) (by rw [hq]; rfl) (by decide) (hs o ho))⟩
    | 4, hq, _ =>
      obtain ⟨Z1, I2, J2, H2, hs⟩ := L_man (nm := nm) H hb hL hi
      exact ⟨Z1, I2, J2, H2, fun o ho => D o (ex_tabIn (off := 299) (pc' := 332) dL_law_33 (by rw [hq]; decide) (by rw [hq]; decide) (by rw [hq]; rfl) (by decide) (hs o ho))⟩
    | 5, hq, _ =>
      obtain ⟨Z1, I2, J2, H2, hs⟩ := L_piece (nm := nm) H hb hL hi
      exact ⟨Z1, I2, J2, H2, fun o ho => D o (ex_tabIn (off := 332) (pc' := 365) dL_law_33 (by rw [hq]; decide) (by rw [hq]; decide) (by rw [hq]; rfl) (by decide) (hs o ho))⟩
    | 6, hq, _ =>
      obtain ⟨Z1, I2, J2, H2, hs⟩ := L_step (nm := nm) H hb hL hi
      exact ⟨Z1, I2, J2, H2, fun o ho => D o (ex_tabIn (off := 375) (pc' := 408) dL_law_33 (by rw [hq]; decide) (by rw [hq]; decide) (by rw [hq]; rfl) (by decide) (hs o ho))⟩
    | 7, hq, _ =>
      obtain ⟨Z1, I2, J2, H2, hs⟩ := L_wind (nm := nm) H hb hL hi
      exact ⟨Z1, I2, J2, H2, fun o ho => D o (ex_tabIn (off := 408) (pc' := 441) dL_law_33 (by rw [hq]; decide) (by rw [hq]; decide) (by rw [hq]; rfl) (by decide) (hs o ho))⟩
    | 8, hq, _ =>
      obtain ⟨Z1, I2, J2, H2, hs⟩ := L_home (nm := nm) H hb hL hi
      exact ⟨Z1, I2, J2, H2, fun o ho => D o (ex_tabIn (off := 431) (pc' := 464) dL_law_33 (by rw [hq]; decide) (by rw [hq]; decide) (by rw [hq]; rfl) (by decide) (hs o ho))⟩
    | 9, hq, _ =>
      obtain ⟨Z1, I2, J2, H2, hs⟩ := L_cut (nm := nm) H hb hL hi
      exact ⟨Z1, I2, J2, H2, fun o ho => D o (ex_tabIn (off := 454) (pc' := 487) dL_law_33 (by rw [hq]; decide) (by rw [hq]; decide) (by rw [hq]; rfl) (by decide) (hs o ho))⟩
    | 10, hq, _ =>
      obtain ⟨Z1, I2, J2, H2, hs⟩ := L_run (nm := nm) H hb hL hi
      exact ⟨Z1, I2, J2, H2, fun o ho => D o (ex_tabIn (off := 477) (pc' := 510) dL_law_33 (by rw [hq]; decide) (by rw [hq]; decide) (by rw [hq]; rfl) (by decide) (hs o ho))⟩
    | 11, hq, _ =>
      obtain ⟨Z1, I2, J2, H2, hs⟩ := L_undo (nm := nm) H hb hL hi
      exact ⟨Z1, I2, J2, H2, fun o ho => D o (ex_tabIn (off := 500) (pc' := 533) dL_law_33 (by rw [hq]; decide) (by rw [hq]; decide) (by rw [hq]; rfl) (by decide) (hs o ho))⟩
    | 12, hq, _ =>
      obtain ⟨Z1, I2, J2, H2, hs⟩ := L_over (nm := nm) H hb hL hi
      exact ⟨Z1, I2, J2, H2, fun o ho => D o (ex_tabIn (off := 513) (pc' := 546) dL_law_33 (by rw [hq]; decide) (by rw [hq]; decide) (by rw [hq]; rfl) (by decide) (hs o ho))⟩
    | 13, hq, _ =>
      obtain ⟨Z1, I2, J2, H2, hs⟩ := L_waits (nm := nm) H hb hL hi
      exact ⟨Z1, I2, J2, H2, fun o ho => D o (ex_tabIn (off := 546) (pc' := 579) dL_law_33 (by rw [hq]; decide) (by rw [hq]; decide) (by rw [hq]; rfl) (by decide) (hs o ho))⟩
    | 14, hq, _ =>
      obtain ⟨Z1, I2, J2, H2, hs⟩ := L_orders (nm := nm) H hb hL hi
      exact ⟨Z1, I2, J2, H2, fun o ho => D o (ex_tabIn (off := 569) (pc' := 602) dL_law_33 (by rw [hq]; decide) (by rw [hq]; decide) (by rw [hq]; rfl) (by decide) (hs o ho))⟩
    | 15, hq, _ =>
      obtain ⟨Z1, I2, J2, H2, hs⟩ := L_orderAt (nm := nm) H hb hL hi
      exact ⟨Z1, I2, J2, H2, fun o ho => D o (ex_tabIn (off := 582) (pc' := 615) dL_law_33 (by rw [hq]; decide) (by rw [hq]; decide) (by rw [hq]; rfl) (by decide) (hs o ho))⟩
    | 16, hq, _ =>
      obtain ⟨Z1, I2, J2, H2, hs⟩ := L_cuts (nm := nm) H hb hL hi
      exact ⟨Z1, I2, J2, H2, fun o ho => D o (ex_tabIn (off := 605) (pc' := 638) dL_law_33 (by rw [hq]; decide) (by rw [hq]; decide) (by rw [hq]; rfl) (by decide) (hs o ho))⟩
    | 17, hq, _ =>
      obtain ⟨Z1, I2, J2, H2, hs⟩ := L_way (nm := nm) H hb hL hi
      exact ⟨Z1, I2, J2, H2, fun o ho => D o (ex_tabIn (off := 628) (pc' := 661) dL_law_33 (by rw [hq]; decide) (by rw [hq]; decide) (by rw [hq]; rfl) (by decide) (hs o ho))⟩
    | 18, hq, _ =>
      obtain ⟨Z1, I2, J2, H2, hs⟩ := L_wayAt (nm := nm) H hb hL hi
      exact ⟨Z1, I2, J2, H2, fun o ho => D o (ex_tabIn (off := 651) (pc' := 684) dL_law_33 (by rw [hq]; decide) (by rw [hq]; decide) (by rw [hq]; rfl) (by decide) (hs o ho))⟩
    | 19, hq, _ =>
      obtain ⟨Z1, I2, J2, H2, hs⟩ := L_lives (nm := nm) H hb hL hi
      exact ⟨Z1, I2, J2, H2, fun o ho => D o (ex_tabIn (off := 684) (pc' := 717) dL_law_33 (by rw [hq]; decide) (by rw [hq]; decide) (by rw [hq]; rfl) (by decide) (hs o ho))⟩
    | 20, hq, _ =>
      obtain ⟨Z1, I2, J2, H2, hs⟩ := L_turns (nm := nm) H hb hL hi
      exact ⟨Z1, I2, J2, H2, fun o ho => D o (ex_tabIn (off := 707) (pc' := 740) dL_law_33 (by rw [hq]; decide) (by rw [hq]; decide) (by rw [hq]; rfl) (by decide) (hs o ho))⟩
    | 21, hq, _ =>
      obtain ⟨Z1, I2, J2, H2, hs⟩ := L_meet (nm := nm) H hb hL hi
      exact ⟨Z1, I2, J2, H2, fun o ho => D o (ex_tabIn (off := 740) (pc' := 773) dL_law_33 (by rw [hq]; decide) (by rw [hq]; decide) (by rw [hq]; rfl) (by decide) (hs o ho))⟩
    | 22, hq, _ =>
      obtain ⟨Z1, I2, J2, H2, hs⟩ := L_most (nm := nm) H hb hL hi
      exact ⟨Z1, I2, J2, H2, fun o ho => D o (ex_tabIn (off := 773) (pc' := 806) dL_law_33 (by rw [hq]; decide) (by rw [hq]; decide) (by rw [hq]; rfl) (by decide) (hs o ho))⟩
    | 23, hq, _ =>
      obtain ⟨Z1, I2, J2, H2, hs⟩ := L_street (nm := nm) H hb hL hi
      exact ⟨Z1, I2, J2, H2, fun o ho => D o (ex_tabIn (off := 796) (pc' := 829) dL_law_33 (by rw [hq]; decide) (by rw [hq]; decide) (by rw [hq]; rfl) (by decide) (hs o ho))⟩
    | 24, hq, _ =>
      obtain ⟨Z1, I2, J2, H2, hs⟩ := L_dusk (nm := nm) H hb hL hi
      exact ⟨Z1, I2, J2, H2, fun o ho => D o (ex_tabIn (off := 849) (pc' := 882) dL_law_33 (by rw [hq]; decide) (by rw [hq]; decide) (by rw [hq]; rfl) (by decide) (hs o ho))⟩
    | 25, hq, _ =>
      obtain ⟨Z1, I2, J2, H2, hs⟩ := L_bestDusk (nm := nm) H hb hL hi
      exact ⟨Z1, I2, J2, H2, fun o ho => D o (ex_tabIn (off := 882) (pc' := 915) dL_law_33 (by rw [hq]; decide) (by rw [hq]; decide) (by rw [hq]; rfl) (by decide) (hs o ho))⟩
    | 26, hq, _ =>
      obtain ⟨Z1, I2, J2, H2, hs⟩ := L_shows (nm := nm) H hb hL hi
      exact ⟨Z1, I2, J2, H2, fun o ho => D o (ex_tabIn (off := 895) (pc' := 928) dL_law_33 (by rw [hq]; decide) (by rw [hq]; decide) (by rw [hq]; rfl) (by decide) (hs o ho))⟩
    | 27, hq, _ =>
      obtain ⟨Z1, I2, J2, H2, hs⟩ := L_shown (nm := nm) H hb hL hi
      exact ⟨Z1, I2, J2, H2, fun o ho => D o (ex_tabIn (off := 938) (pc' := 971) dL_law_33 (by rw [hq]; decide) (by rw [hq]; decide) (by rw [hq]; rfl) (by decide) (hs o ho))⟩
    | 28, hq, _ =>
      obtain ⟨Z1, I2, J2, H2, hs⟩ := L_uppermost (nm := nm) H hb hL hi
      exact ⟨Z1, I2, J2, H2, fun o ho => D o (ex_tabIn (off := 961) (pc' := 994) dL_law_33 (by rw [hq]; decide) (by rw [hq]; decide) (by rw [hq]; rfl) (by decide) (hs o ho))⟩
    | 29, hq, _ =>
      obtain ⟨Z1, I2, J2, H2, hs⟩ := L_knows (nm := nm) H hb hL hi
      exact ⟨Z1, I2, J2, H2, fun o ho => D o (ex_tabIn (off := 984) (pc' := 1017) dL_law_33 (by rw [hq]; decide) (by rw [hq]; decide) (by rw [hq]; rfl) (by decide) (hs o ho))⟩
    | 30, hq, _ =>
      obtain ⟨Z1, I2, J2, H2, hs⟩ := L_links (nm := nm) H hb hL hi
      exact ⟨Z1, I2, J2, H2, fun o ho => D o (ex_tabIn (off := 1007) (pc' := 1040) dL_law_33 (by rw [hq]; decide) (by rw [hq]; decide) (by rw [hq]; rfl) (by decide) (hs o ho))⟩
    | 31, hq, _ =>
      obtain ⟨Z1, I2, J2, H2, hs⟩ := L_rounds (nm := nm) H hb hL hi
      exact ⟨Z1, I2, J2, H2, fun o ho => D o (ex_tabIn (off := 1040) (pc' := 1073) dL_law_33 (by rw [hq]; decide) (by rw [hq]; decide) (by rw [hq]; rfl) (by decide) (hs o ho))⟩
    | 32, hq, _ =>
      obtain ⟨Z1, I2, J2, H2, hs⟩ := L_crowd (nm := nm) H hb hL hi
      exact ⟨Z1, I2, J2, H2, fun o ho => D o (ex_tabIn (off := 1053) (pc' := 1086) dL_law_33 (by rw [hq]; decide) (by rw [hq]; decide) (by rw [hq]; rfl) (by decide) (hs o ho))⟩
    | 33, hq, _ =>
      obtain ⟨Z1, I2, J2, H2, hs⟩ := L_plain (nm := nm) H hb hL hi
      exact ⟨Z1, I2, J2, H2, fun o ho => D o (ex_tabIn (off := 1076) (pc' := 1109) dL_law_33 (by rw [hq]; decide) (by rw [hq]; decide) (by rw [hq]; rfl) (by decide) (hs o ho))⟩
    | 34, hq, _ =>
      obtain ⟨Z1, I2, J2, H2, hs⟩ := L_thieves (nm := nm) H hb hL hi
      exact ⟨Z1, I2, J2, H2, fun o ho => D o (ex_tabIn (off := 1099) (pc' := 1132) dL_law_33 (by rw [hq]; decide) (by rw [hq]; decide) (by rw [hq]; rfl) (by decide) (hs o ho))⟩
    | 35, hq, _ =>
      obtain ⟨Z1, I2, J2, H2, hs⟩ := L_nearest (nm := nm) H hb hL hi
      exact ⟨Z1, I2, J2, H2, fun o ho => D o (ex_tabIn (off := 1112) (pc' := 1145) dL_law_33 (by rw [hq]; decide) (by rw [hq]; decide) (by rw [hq]; rfl) (by decide) (hs o ho))⟩
    | 36, hq, _ =>
      obtain ⟨Z1, I2, J2, H2, hs⟩ := L_unfair (nm := nm) H hb hL hi
      exact ⟨Z1, I2, J2, H2, fun o ho => D o (ex_tabIn (off := 1145) (pc' := 1178) dL_law_33 (by rw [hq]; decide) (by rw [hq]; decide) (by rw [hq]; rfl) (by decide) (hs o ho))⟩
    | 37, hq, _ =>
      obtain ⟨Z1, I2, J2, H2, hs⟩ := L_tell (nm := nm) H hb hL hi
      exact ⟨Z1, I2, J2, H2, fun o ho => D o (ex_tabIn (off := 1158) (pc' := 1191) dL_law_33 (by rw [hq]; decide) (by rw [hq]; decide) (by rw [hq]; rfl) (by decide) (hs o ho))⟩
    | 38, hq, _ =>
      obtain ⟨Z1, I2, J2, H2, hs⟩ := L_forget (nm := nm) H hb hL hi
      exact ⟨Z1, I2, J2, H2, fun o ho => D o (ex_tabIn (off := 1217) (pc' := 1250) dL_law_33 (by rw [hq]; decide) (by rw [hq]; decide) (by rw [hq]; rfl) (by decide) (hs o ho))⟩
    | 39, hq, _ =>
      obtain ⟨Z1, I2, J2, H2, hs⟩ := L_starts (nm := nm) H hb hL hi
      exact ⟨Z1, I2, J2, H2, fun o ho => D o (ex_tabIn (off := 1230) (pc' := 1263) dL_law_33 (by rw [hq]; decide) (by rw [hq]; decide) (by rw [hq]; rfl) (by decide) (hs o ho))⟩
    | 40, hq, _ =>
      obtain ⟨Z1, I2, J2, H2, hs⟩ := L_hold (nm := nm) H hb hL hi
      exact ⟨Z1, I2, J2, H2, fun o ho => D o (ex_tabIn (off := 1273) (pc' := 1306) dL_law_33 (by rw [hq]; decide) (by rw [hq]; decide) (by rw [hq]; rfl) (by decide) (hs o ho))⟩
    | 41, hq, _ =>
      obtain ⟨Z1, I2, J2, H2, hs⟩ := L_restore (nm := nm) H hb hL hi
      exact ⟨Z1, I2, J2, H2, fun o ho => D o (ex_tabIn (off := 1296) (pc' := 1329) dL_law_33 (by rw [hq]; decide) (by rw [hq]; decide) (by rw [hq]; rfl) (by decide) (hs o ho))⟩
    | 42, hq, _ =>
      obtain ⟨Z1, I2, J2, H2, hs⟩ := L_count (nm := nm) H hb hL hi
      exact ⟨Z1, I2, J2, H2, fun o ho => D o (ex_tabIn (off := 1319) (pc' := 1352) dL_law_33 (by rw [hq]; decide) (by rw [hq]; decide) (by rw [hq]; rfl) (by decide) (hs o ho))⟩
    | (k + 43), _, hq43 => exact absurd hq43 (by omega)
theorem L_loop (hL : L ≤ 3072) : ∀ (f i b : Nat) (Z : zZ) (I : zI) (J : zJ), i ≤ L → L < i + 6 * f → b + 2000 * f < 500000000 → zAll Z I J b xs L → ∃ (Z' : zZ) (I' : zI) (J' : zJ), zE 11 (kL nm) 18 (zlwl i) [] Z I J (some (.int 1), Z', I', J') ∧ Z'.1 ≤ 600000 ∧ Z'.2.1 ≤ 7302250 := by
  intro f
  induction f with
  | zero => intro i b Z I J h1 h2; omega
  | succ f ih =>
    intro i b Z I J h1 h2 hb H
    by_cases c : i + 6 ≤ L
    · have eb : b + 2000 * (f + 1) = b + 2000 + 2000 * f := by omega
      have hb2 : b + 2000 + 2000 * f < 500000000 := by rw [← eb]; exact hb
      have hb3 : b + 2000 < 500000000 := Nat.lt_of_le_of_lt (Nat.le_add_right _ _) hb2
      obtain ⟨Z1, I2, J2, H2, hs⟩ := L_one (nm := nm) H hb3 hL c
      obtain ⟨Z', I', J', g1, g2⟩ := ih (i + 6) (b + 2000) Z1 I2 J2 c (by omega) hb2 H2
      refine ⟨Z', I', J', L_head H.2.2.2.1 hL h1 (fun q => absurd c (by omega)) (fun _ => hs _ ?_), g2⟩
      refine ex_step (pc' := 1378) (ls' := [some (.ref 1000000), some (.ref 0), some (.ref 420), some (.int (nI i + 6))]) dL_law_1375 rfl ?_
      refine ex_step (pc' := 18) dL_law_1378 rfl ?_
      rw [show nI i + 6 = nI (i + 6) from zadd i 6]
      exact g1
    · refine ⟨Z, I, J, L_head H.2.2.2.1 hL h1 (fun _ => ?_) (fun q => absurd q c), H.2.2.2.2⟩
      refine ex_step (pc' := 1382) (st' := [.int 1]) dL_law_1381 rfl ?_
      exact ex_ret (v := some (.int 1)) ⟨dL_law_1382, _, rfl, rfl⟩
end
theorem zZ0_e (L : Nat) : zZ0 L = zML L [] [] := rfl
theorem zLawOK_all : zLawOK := by
  intro nm L xs hL
  obtain ⟨I1, J1, I2, J2, c1, c2, c3, c4, c5, c6⟩ := X_start (L := L) (xs := xs)
  have hl : zmSh.length ≤ 1000000 := by rw [zmSh_len]; decide
  have H : zAll (zML L zmSh zmRf) I2 J2 10000 xs L := ⟨⟨_, _, _, _, _, _, _, _, _, _, _, _, c6⟩, c4, c5, ⟨by decide, by decide, (zML_ro hl (Nat.le_refl _)).trans rfl⟩, (show zmSh.length ≤ 600000 by rw [zmSh_len]; decide), zmSh_su⟩
  obtain ⟨Z', I', J', g1, g2⟩ := L_loop (nm := nm) hL 513 0 10000 _ I2 J2 (Nat.zero_le _) (by omega) (by decide) H
  refine ⟨Z', I', J', ?_, g2⟩
  rw [zZ0_e]
  have A00 : zAl [] [] (zI0 xs) (fun _ _ => 0) 0 := ⟨rfl, fun e he => absurd he List.not_mem_nil, fun b _ hb => zI0_z hb, fun _ _ _ => rfl⟩
  clear H c6
  generalize zML L zmSh zmRf = Zm at *
  refine al_new (ci := 11) A00 (by decide) dL_law_0 (by decide) zn_RL_7 ?_
  refine ex_step (pc' := 4) dL_law_3 rfl ?_
  refine ex_callI (as := []) (b := 0) (st := [.ref 0]) dL_law_4 zmX11_init zl_RL_9 ziX11_init rfl rfl rfl (Nat.le_of_ble_eq_true rfl) (Nat.le_of_ble_eq_true rfl) c1 ?_
  refine ex_step (pc' := 8) (ls' := [some (.ref 1000000), some (.ref 0), none, none]) dL_law_7 rfl ?_
  refine al_new (ci := 12) c2 (by decide) dL_law_8 (by decide) zn_RL_10 ?_
  refine ex_step (pc' := 12) dL_law_11 rfl ?_
  refine ex_callI (as := []) (b := 420) (st := [.ref 420]) dL_law_12 zmX12_init zl_RL_12 ziX12_init rfl rfl rfl (Nat.le_of_ble_eq_true rfl) (Nat.le_of_ble_eq_true rfl) c3 ?_
  refine ex_step (pc' := 16) (ls' := [some (.ref 1000000), some (.ref 0), some (.ref 420), none]) dL_law_15 rfl ?_
  refine ex_step (pc' := 17) (st' := [.int 0]) dL_law_16 rfl ?_
  refine ex_step (pc' := 18) (ls' := zlwl 0) (st' := []) dL_law_17 rfl ?_
  exact g1

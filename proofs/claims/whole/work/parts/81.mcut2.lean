/-! TOKENS: the reference cuts -/
section
variable {d : Nat} {Z : zZ} {I : zI} {J : zJ} {t u : Nat} {B : Nat → Nat} {L p n i e q k : Nat} {o : zO}
abbrev zcl7 (i : Nat) : zL := [some (.ref 420), some (.int (nI i)), none, none, none, none, none, none]
theorem M_cut_blank (hL : zLY Z t u) (hB : zBm I B L) (hk : k ≤ 400) (h10 : I 420 10 = nI k) (K : zE (d + 2) kX12_cut0 7 (zcl7 (zplc B L k)) [] Z I J o) : zE (d + 2) kX12_cut0 7 (zcl7 (zpos B L k)) [] Z I J o := by
  have hLL := hB.1
  have hle := zplc_le (B := B) (L := L) k
  have n4 : ¬ 400 < I 420 10 := by rw [h10, show (400 : Int32) = nI 400 from rfl, zlt (by decide) (by omega)]; omega
  have loop : ∀ i, i ≤ zplc B L k → zpos B L k ≤ i → zE (d + 2) kX12_cut0 7 (zcl7 i) [] Z I J o := by
    refine zloop _ _ (fun _ => K) ?_
    intro i hi ih hge
    have hb := (hB.2.2 i (by omega)).1
    have hbl : zPbl B i = true := (zrn_ok (P := zPbl B) (L := L) _ (zpos B L k) rfl).2.2.1 i hge hi
    have hbl2 := (zblk_iff hb).mpr (of_decide_eq_true hbl)
    have nx : zE (d + 2) kX12_cut0 7 [some (.ref 420), some (.int (nI i + 1)), none, none, none, none, none, none] [] Z I J o := by rw [zadd1]; exact ih (by omega)
    have by' := M_byteAt (d := d + 1) (J := J) hL hB (i := i) (by omega)
    rw [if_pos (show i < L by omega)] at by'
    refine BX12_cut0_7 _ hL ⟨fun q => absurd q n4, fun _ => ⟨_, by', fun _ => ⟨fun _ => nx, fun q9 => ⟨fun _ => nx, fun q10 => ⟨fun _ => nx, fun q13 => ⟨fun q32 => ?_, fun _ => nx⟩⟩⟩⟩, fun q => ?_⟩⟩
    · exfalso
      rcases hbl2 with g | g | g | g
      · exact q9 g
      · exact q10 g
      · exact q13 g
      · exact q32 g
    · exfalso; rw [hB.2.1, zlt (by omega) (by omega)] at q; omega
  exact loop _ (zpos_plc k) (Nat.le_refl _)
theorem M_cut_step (hL : zLY Z t u) (hB : zBm I B L) (hK : zKm J) (hk : k ≤ 400) (h10 : I 420 10 = nI k) (hp : zplc B L k < L) :
    ∃ (v : Int32) (w : Int64), (zknd B L k = 3 → v = nI (zvlu B L k)) ∧ (zknd B L k = 2 → w = lN (zc27 B (zplc B L k) (zpos B L (k + 1) - zplc B L k))) ∧ ∀ o : zO, zE (d + 2) kX12_cut0 7 (zcl7 (zpos B L (k + 1))) [] Z (zu (zu (zu (zu I 423 k (nI (zkr (zknd B L k)))) 424 k (nI (zplc B L k))) 425 k v) 420 10 (nI (k + 1))) (zu J 426 k w) o → zE (d + 2) kX12_cut0 7 (zcl7 (zplc B L k)) [] Z I J o := by
  have hLL := hB.1
  have n4 : ¬ 400 < I 420 10 := by rw [h10, show (400 : Int32) = nI 400 from rfl, zlt (by decide) (by omega)]; omega
  have k403 : k < 403 := by omega
  obtain ⟨p, ep⟩ : ∃ p, p = zplc B L k := ⟨_, rfl⟩
  have hte := zte_ok (B := B) (zplc_le (B := B) (L := L) k)
  have ez : zpos B L (k + 1) = zte B L (zplc B L k) := rfl
  have ekn : zknd B L k = zkn B (zplc B L k) (zpos B L (k + 1)) := rfl
  have evl : zvlu B L k = zc10 B (zplc B L k) (zpos B L (k + 1) - zplc B L k) := rfl
  have hnb : zPbl B (zplc B L k) = false := (zrn_ok (P := zPbl B) (L := L) _ (zpos B L k) rfl).2.2.2 hp
  have hpp : p < L := by rw [ep]; exact hp
  rw [ekn, evl, ez, ← ep]
  rw [← ep] at hte hnb
  clear hp
  have hp : p < L := hpp
  obtain ⟨n, hn⟩ : ∃ n, zte B L p = p + n := ⟨zte B L p - p, by omega⟩
  have hn0 : 0 < n := by have := hte.2.2 hp; omega
  have hnL : p + n ≤ L := by have := hte.2.1; omega
  have hn2 : p + n - p = n := by omega
  have nle : ¬ p + n ≤ p := by omega
  have hb := (hB.2.2 p hp).1
  have hnb2 : ¬ (nI (B p) = 9 ∨ nI (B p) = 10 ∨ nI (B p) = 13 ∨ nI (B p) = 32) := fun z => by
    have := decide_eq_true ((zblk_iff hb).mp z)
    unfold zPbl at hnb
    rw [this] at hnb; exact absurd hnb (by decide)
  have byp := M_byteAt (d := d + 1) (J := J) hL hB (i := p) (by omega)
  rw [if_pos hp] at byp
  have head : ∀ o : zO, (zPlt B p = true → zE (d + 2) kX12_cut0 85 [some (.ref 420), some (.int (nI p)), none, some (.int 0), some (.long 0), none, none, none] [] Z I J o) → (¬ zPlt B p = true → zPdg B p = true → zE (d + 2) kX12_cut0 208 [some (.ref 420), some (.int (nI p)), none, some (.int 0), some (.int 0), none, none, none] [] Z I J o) → (¬ zPlt B p = true → ¬ zPdg B p = true → (∃ (v2 : Int32), zE (d + 1) kX12_byteAt 0 [some (.ref 420), some (.int (nI p + 1))] [] Z I J (some (.int v2), Z, I, J) ∧ (∃ (v3 : Int32) (I4 : zI) (J5 : zJ), zE (d + 1) kX12_sign 0 [some (.ref 420), some (.int (nI p)), some (.int (nI (B p))), some (.int v2), none] [] Z I J (some (.int v3), Z, I4, J5) ∧ zE (d + 2) kX12_cut0 7 [some (.ref 420), some (.int (nI p + v3)), none, none, none, none, none, none] [] Z I4 J5 o))) → zE (d + 2) kX12_cut0 7 (zcl7 p) [] Z I J o := by
    intro o K1 K2 K3
    refine BX12_cut0_7 _ hL ⟨fun q => absurd q n4, fun _ => ⟨_, byp, fun _ => ⟨fun q => absurd (Or.inl q) hnb2, fun _ => ⟨fun q => absurd (Or.inr (Or.inl q)) hnb2, fun _ => ⟨fun q => absurd (Or.inr (Or.inr (Or.inl q))) hnb2, fun _ => ⟨fun _ => ⟨fun q => ⟨fun q2 => ?_, fun q2 => ?_⟩, fun q => ?_⟩, fun q => absurd (Or.inr (Or.inr (Or.inr q))) hnb2⟩⟩⟩⟩, fun q => ?_⟩⟩
    · rw [zbi_eq0, zltr_iff hb] at q
      rw [zbi_eq0, zdgt_iff hb] at q2
      exact K3 (fun z => q (of_decide_eq_true z)) (fun z => q2 (of_decide_eq_true z))
    · rw [zbi_eq0, zltr_iff hb] at q
      rw [zbi_ne0, zdgt_iff hb] at q2
      exact K2 (fun z => q (of_decide_eq_true z)) (decide_eq_true q2)
    · rw [zbi_ne0, zltr_iff hb] at q
      exact K1 (decide_eq_true q)
    · exfalso; rw [hB.2.1, zlt (by omega) (by omega)] at q; omega
  have byj : ∀ j, j ≤ n → zE (d + 1) kX12_byteAt 0 [some (.ref 420), some (.int (nI p + nI j))] [] Z I J (some (.int (nI (if p + j < L then B (p + j) else 0))), Z, I, J) := fun j hj => by rw [zadd]; exact M_byteAt hL hB (by omega)
  have pn : nI p + nI n = nI (p + n) := zadd p n
  by_cases g1 : zPlt B p = true
  · have er : zte B L p = zrn (zPlt B) L p := by unfold zte; rw [if_pos hp, if_pos g1]
    obtain ⟨-, -, r3, r4⟩ := zrn_ok (P := zPlt B) (L := L) _ p rfl
    rw [← er, hn] at r3 r4
    have hl : ∀ j, j < n → zPlt B (p + j) = true := fun j hj => r3 (p + j) (by omega) (by omega)
    have hend : ¬ (97 ≤ nI (if p + n < L then B (p + n) else 0) ∧ nI (if p + n < L then B (p + n) else 0) ≤ 122) := by
      by_cases c : p + n < L
      · rw [if_pos c, zltr_iff (hB.2.2 _ c).1]
        intro z
        have := r4 c
        unfold zPlt at this
        rw [decide_eq_true z] at this; exact absurd this (by decide)
      · rw [if_neg c]; decide
    refine ⟨0, lN (zc27 B p (min n 8)), fun c => ?_, fun c => ?_, fun o K => head o (fun _ => ?_) (fun z => absurd g1 z) (fun z => absurd g1 z)⟩
    · exfalso
      rw [hn] at c
      unfold zkn at c
      rw [if_neg nle, if_pos g1] at c
      split at c
      · have := zwf_ne (zc32 B p (p + n - p)) 17 0; omega
      · omega
    · rw [hn, hn2]
      by_cases c8 : n ≤ 8
      · rw [Nat.min_eq_left c8]
      · exfalso
        rw [hn] at c
        unfold zkn at c
        rw [if_neg nle, if_pos g1, hn2, if_neg c8] at c
        omega
    · rw [hn] at K
      -- behind the letters
      have fin : ∀ y : Nat, y = zkr (zkn B p (p + n)) → ∃ (I2 : zI) (J3 : zJ), zE (d + 1) kX12_token 0 [some (.ref 420), some (.int (nI y)), some (.int (nI p)), some (.int 0), some (.long (lN (zc27 B p (min n 8)))), none] [] Z I J (none, Z, I2, J3) ∧ zE (d + 2) kX12_cut0 7 [some (.ref 420), some (.int (nI p + nI n)), none, none, none, none, none, none] [] Z I2 J3 o := by
        intro y hy
        refine ⟨_, _, M_token (d := d + 1) hL k403 h10 _ _ _ _, ?_⟩
        rw [hy, pn]; exact K
      have keys : n ≤ 7 → ∀ f kk y, kk + f = 17 → zwr (zc27 B p n) f kk y = zkr (zkn B p (p + n)) → zE (d + 2) kX12_cut0 146 [some (.ref 420), some (.int (nI p)), none, some (.int (nI n)), some (.long (lN (zc27 B p (min n 8)))), none, some (.int (nI y)), some (.int (nI kk))] [] Z I J o := by
        intro h7 f
        have hx := zc27_b (show n ≤ 8 by omega) hl
        induction f with
        | zero =>
          intro kk y hkk he
          obtain rfl : kk = 17 := by omega
          exact BX12_cut0_146 _ _ _ _ _ hL ⟨fun _ => fin y he, fun q => absurd (by decide) q⟩
        | succ f ih =>
          intro kk y hkk he
          have e : lg_cmp (J 427 (nI kk).toNatClampNeg) (lN (zc27 B p (min n 8))) = 0 ↔ zk27 kk = zc27 B p n := by
            rw [zclm (by omega), hK kk (by omega), lg_cmp_eq, Nat.min_eq_left (by omega), pk_lEQ (by have := zk27_lt kk (by omega); omega) (by omega)]
          simp only [zwr] at he
          refine BX12_cut0_146 _ _ _ _ _ hL ⟨fun q => ?_, fun _ => ⟨zvin (by omega) (by decide), fun q => ?_, fun q => ?_⟩⟩
          · exfalso; rw [show (17 : Int32) = nI 17 from rfl, zle' (by decide) (by omega)] at q; omega
          · rw [e] at q
            rw [if_neg q] at he
            rw [zadd1]; exact ih (kk + 1) y (by omega) he
          · rw [e] at q
            rw [if_pos q] at he
            rw [zadd1, show (20 : Int32) = nI 20 from rfl, zadd]; exact ih (kk + 1) _ (by omega) he
      have loop : ∀ j, j ≤ n → zE (d + 2) kX12_cut0 85 [some (.ref 420), some (.int (nI p)), none, some (.int (nI j)), some (.long (lN (zc27 B p (min j 8)))), none, none, none] [] Z I J o := by
        refine zloop _ _ ?_ ?_
        · refine BX12_cut0_85 _ _ _ hL ⟨_, byj n (Nat.le_refl _), fun _ => ⟨fun q8 => ⟨fun q7 => ?_, fun q7 => ?_⟩, fun q8 => ⟨fun q7 => ?_, fun q7 => ?_⟩⟩, fun q => absurd (zbi_eq0.mpr hend) q⟩
          all_goals rw [show (8 : Int32) = nI 8 from rfl, zle' (by omega) (by decide)] at q8
          all_goals rw [show (7 : Int32) = nI 7 from rfl, zlt (by decide) (by omega)] at q7
          · refine fin 1 ?_
            have n8 : n = 7 + 1 := by omega
            unfold zkn
            rw [if_neg nle, if_pos g1, hn2, if_pos q8, zwf_no 17 0 rfl (fun j hj z => ?_)]
            · rfl
            · have h1 := zc32_ge (B := B) (p := p) 7 (by rw [← n8]; exact hl)
              have h2 := (by decide : ∀ j, j < 17 → zk32 j < 32 ^ 7) j hj
              rw [n8] at z
              omega
          · refine keys (by omega) 17 0 1 rfl ?_
            unfold zkn
            rw [if_neg nle, if_pos g1, hn2, if_pos q8]
            exact zwr_wf (fun kk hkk => zkw_iff hkk hl) 17 0 rfl
          · refine fin 3 ?_
            unfold zkn
            rw [if_neg nle, if_pos g1, hn2, if_neg q8]
            rfl
          · omega
        · intro j hj ih
          have hlj := hl j hj
          have hlj2 := of_decide_eq_true hlj
          have hbj := (hB.2.2 (p + j) (by omega)).1
          have byj' := byj j (by omega)
          rw [if_pos (show p + j < L by omega)] at byj'
          refine BX12_cut0_85 _ _ _ hL ⟨_, byj', fun q => absurd ((zltr_iff hbj).mpr hlj2) (zbi_eq0.mp q), fun _ => ⟨fun q8 => ?_, fun q8 => ⟨_, byj', ?_⟩⟩⟩
          all_goals rw [show (8 : Int32) = nI 8 from rfl, zle' (by decide) (by omega)] at q8
          · rw [zadd1]
            rw [show min (j + 1) 8 = min j 8 by omega] at ih
            exact ih
          · rw [zadd1, zup27 hlj2.1 hbj]
            rw [show min (j + 1) 8 = j + 1 by omega] at ih
            rw [show min j 8 = j by omega]
            exact ih
      exact loop 0 (Nat.zero_le _)
  · by_cases g2 : zPdg B p = true
    · have er : zte B L p = zrn (zPdg B) L p := by unfold zte; rw [if_pos hp, if_neg g1, if_pos g2]
      obtain ⟨-, -, r3, r4⟩ := zrn_ok (P := zPdg B) (L := L) _ p rfl
      rw [← er, hn] at r3 r4
      have hl : ∀ j, j < n → zPdg B (p + j) = true := fun j hj => r3 (p + j) (by omega) (by omega)
      have hend : ¬ (48 ≤ nI (if p + n < L then B (p + n) else 0) ∧ nI (if p + n < L then B (p + n) else 0) ≤ 57) := by
        by_cases c : p + n < L
        · rw [if_pos c, zdgt_iff (hB.2.2 _ c).1]
          intro z
          have := r4 c
          unfold zPdg at this
          rw [decide_eq_true z] at this; exact absurd this (by decide)
        · rw [if_neg c]; decide
      have ek : zkn B p (p + n) = if n ≤ 4 then 3 else 1 := by unfold zkn; rw [if_neg nle, if_neg g1, if_pos g2, hn2]
      refine ⟨nI (zc10 B p (min n 4)), 0, fun c => ?_, fun c => ?_, fun o K => head o (fun z => absurd z g1) (fun _ _ => ?_) (fun _ z => absurd g2 z)⟩
      · rw [hn, hn2]
        rw [hn, ek] at c
        by_cases c4 : n ≤ 4
        · rw [Nat.min_eq_left c4]
        · rw [if_neg c4] at c; exact absurd c (by decide)
      · exfalso
        rw [hn, ek] at c
        split at c <;> omega
      · rw [hn] at K
        have fin : ∀ y : Nat, y = zkr (zkn B p (p + n)) → ∃ (I2 : zI) (J3 : zJ), zE (d + 1) kX12_token 0 [some (.ref 420), some (.int (nI y)), some (.int (nI p)), some (.int (nI (zc10 B p (min n 4)))), some (.long 0), none] [] Z I J (none, Z, I2, J3) ∧ zE (d + 2) kX12_cut0 7 [some (.ref 420), some (.int (nI p + nI n)), none, none, none, none, none, none] [] Z I2 J3 o := by
          intro y hy
          refine ⟨_, _, M_token (d := d + 1) hL k403 h10 _ _ _ _, ?_⟩
          rw [hy, pn]; exact K
        have loop : ∀ j, j ≤ n → zE (d + 2) kX12_cut0 208 [some (.ref 420), some (.int (nI p)), none, some (.int (nI j)), some (.int (nI (zc10 B p (min j 4)))), none, none, none] [] Z I J o := by
          refine zloop _ _ ?_ ?_
          · refine BX12_cut0_208 _ _ _ hL ⟨_, byj n (Nat.le_refl _), fun _ => ⟨fun q4 => ?_, fun q4 => ?_⟩, fun q => absurd (zbi_eq0.mpr hend) q⟩
            all_goals rw [show (4 : Int32) = nI 4 from rfl, zle' (by omega) (by decide)] at q4
            · exact fin 2 (by rw [ek, if_pos q4]; rfl)
            · exact fin 3 (by rw [ek, if_neg q4]; rfl)
          · intro j hj ih
            have hlj := hl j hj
            have hlj2 := of_decide_eq_true hlj
            have hbj := (hB.2.2 (p + j) (by omega)).1
            have byj' := byj j (by omega)
            rw [if_pos (show p + j < L by omega)] at byj'
            refine BX12_cut0_208 _ _ _ hL ⟨_, byj', fun q => absurd ((zdgt_iff hbj).mpr hlj2) (zbi_eq0.mp q), fun _ => ⟨fun q4 => ?_, fun q4 => ⟨_, byj', fun y ey => ?_⟩⟩⟩
            all_goals rw [show (4 : Int32) = nI 4 from rfl, zle' (by decide) (by omega)] at q4
            · rw [zadd1]
              rw [show min (j + 1) 4 = min j 4 by omega] at ih
              exact ih
            · rw [show min (j + 1) 4 = j + 1 by omega] at ih
              rw [show min j 4 = j by omega, show (10 : Int32) = nI 10 from rfl, show (48 : Int32) = nI 48 from rfl, zmul, zadd, zsub (by omega), show 10 * zc10 B p j + B (p + j) - 48 = 10 * zc10 B p j + (B (p + j) - 48) by omega] at ey
              rw [zadd1, ey]
              exact ih
        exact loop 0 (Nat.zero_le _)
    · have e1 : zte B L p = p + 1 := by unfold zte; rw [if_pos hp, if_neg g1, if_neg g2]
      have ek : zkn B p (p + 1) = if B p ∈ zsgL then B p else 1 := by unfold zkn; rw [if_neg (by omega), if_neg g1, if_neg g2]
      rw [e1, ek]
      have by1 : zE (d + 1) kX12_byteAt 0 [some (.ref 420), some (.int (nI p + 1))] [] Z I J (some (.int (nI (if p + 1 < L then B (p + 1) else 0))), Z, I, J) := by rw [zadd1]; exact M_byteAt hL hB (by omega)
      refine ⟨0, 0, fun c => ?_, fun c => ?_, fun o K => head o (fun z => absurd z g1) (fun _ z => absurd z g2) (fun _ _ => ⟨_, by1, 1, _, _, M_sign (d := d) hL hb k403 h10, ?_⟩)⟩
      · exfalso
        split at c
        · rename_i g
          have := zsg_ne g
          omega
        · omega
      · exfalso
        split at c
        · rename_i g
          have := zsg_ne g
          omega
        · omega
      · rw [zadd1]; exact K
theorem M_cut_loop (hL : zLY Z t u) : ∀ (f k : Nat) (I : zI) (J : zJ), k + f = 401 → zBm I B L → zKm J → I 420 10 = nI k → (∀ j, j < k → zknd B L j ≠ 0) → zTkm I J B L k →
    ∃ I' J', zE (d + 2) kX12_cut0 7 (zcl7 (zpos B L k)) [] Z I J (none, Z, I', J') ∧ zTkm I' J' B L 401 ∧ ((∀ a, a ≠ 420 → a ≠ 423 → a ≠ 424 → a ≠ 425 → I' a = I a) ∧ ∀ j, j ≠ 10 → I' 420 j = I 420 j) ∧ ∀ a, a ≠ 426 → J' a = J a := by
  intro f
  induction f with
  | zero =>
    intro k I J hk hB hK h10 hg hT
    obtain rfl : k = 401 := by omega
    exact ⟨I, J, BX12_cut0_7 _ hL ⟨fun _ => rfl, fun q => absurd (by rw [h10]; decide) q⟩, hT, ⟨fun _ _ _ _ _ => rfl, fun _ _ => rfl⟩, fun _ _ => rfl⟩
  | succ f ih =>
    intro k I J hk hB hK h10 hg hT
    have hle := zplc_le (B := B) (L := L) k
    have hLL := hB.1
    have n4 : ¬ 400 < I 420 10 := by rw [h10, show (400 : Int32) = nI 400 from rfl, zlt (by decide) (by omega)]; omega
    by_cases hp : zplc B L k < L
    · obtain ⟨v, w, s1, s2, s3⟩ := M_cut_step (d := d) hL hB hK (by omega) h10 hp
      obtain ⟨I1, e1⟩ : ∃ I1 : zI, I1 = zu (zu (zu (zu I 423 k (nI (zkr (zknd B L k)))) 424 k (nI (zplc B L k))) 425 k v) 420 10 (nI (k + 1)) := ⟨_, rfl⟩
      obtain ⟨J1, f1⟩ : ∃ J1 : zJ, J1 = zu J 426 k w := ⟨_, rfl⟩
      rw [← e1, ← f1] at s3
      have fr : ∀ a, a ≠ 420 → a ≠ 423 → a ≠ 424 → a ≠ 425 → I1 a = I a := fun a p1 p2 p3 p4 => by rw [e1, zu_ne p1, zu_ne p4, zu_ne p3, zu_ne p2]
      have fl : ∀ j, j ≠ 10 → I1 420 j = I 420 j := fun j hj => by rw [e1, zu_k hj, zu_ne (by decide), zu_ne (by decide), zu_ne (by decide)]
      obtain ⟨I', J', r1, r2, ⟨r3, r4⟩, r5⟩ := ih (k + 1) I1 J1 (by omega) ⟨hLL, by rw [fl 4 (by decide)]; exact hB.2.1, fun i hi => by rw [fr 422 (by decide) (by decide) (by decide) (by decide)]; exact hB.2.2 i hi⟩ (fun j hj => by rw [f1, zu_ne (by decide)]; exact hK j hj) (by rw [e1, zu_eq]) (fun j hj => by
        by_cases e : j = k
        · rw [e, Ne, zknd_0]; omega
        · exact hg j (by omega)) (hT.add e1 f1 s1 s2)
      exact ⟨I', J', M_cut_blank hL hB (by omega) h10 (s3 _ r1), r2, ⟨fun a p1 p2 p3 p4 => by rw [r3 a p1 p2 p3 p4, fr a p1 p2 p3 p4], fun j hj => by rw [r4 j hj, fl j hj]⟩, fun a p => by rw [r5 a p, f1, zu_ne p]⟩
    · have hz : zplc B L k = L := by omega
      have hk0 : zknd B L k = 0 := (zknd_0 k).mpr hz
      have tk := M_token (d := d + 1) (Z := Z) (J := J) hL (show k < 403 by omega) h10 0 (nI L) 0 0
      obtain ⟨I1, e1⟩ : ∃ I1 : zI, I1 = zu (zu (zu (zu I 423 k 0) 424 k (nI L)) 425 k 0) 420 10 (nI (k + 1)) := ⟨_, rfl⟩
      obtain ⟨J1, f1⟩ : ∃ J1 : zJ, J1 = zu J 426 k 0 := ⟨_, rfl⟩
      rw [← e1, ← f1] at tk
      have by' := M_byteAt (d := d + 1) (J := J) hL hB (i := zplc B L k) (by omega)
      refine ⟨I1, J1, M_cut_blank hL hB (by omega) h10 (BX12_cut0_7 _ hL ⟨fun q => absurd q n4, fun _ => ⟨_, by', fun q => ?_, fun _ => ⟨I1, J1, by rw [hB.2.1]; exact tk, rfl⟩⟩⟩), fun m hm hgm => ?_, ⟨fun a p1 p2 p3 p4 => by rw [e1, zu_ne p1, zu_ne p4, zu_ne p3, zu_ne p2], fun j hj => by rw [e1, zu_k hj, zu_ne (by decide), zu_ne (by decide), zu_ne (by decide)]⟩, fun a p => by rw [f1, zu_ne p]⟩
      · exfalso; rw [hB.2.1, zlt (by omega) (by omega)] at q; omega
      · by_cases c : k < m
        · exact absurd hk0 (hgm k c)
        · refine (hT.add (k := k) (v := 0) (w := 0) ?_ f1 (fun z => by rw [hk0] at z; exact absurd z (by decide)) (fun z => by rw [hk0] at z; exact absurd z (by decide))) m (by omega) hgm
          rw [e1, hk0, hz]; rfl
theorem M_cut0 (hL : zLY Z t u) (hB : zBm I B L) (hK : zKm J) : ∃ I' J', zE (d + 2) kX12_cut0 0 [some (.ref 420), none, none, none, none, none, none, none] [] Z I J (none, Z, I', J') ∧ zTkm I' J' B L 401 ∧ ((∀ a, a ≠ 420 → a ≠ 423 → a ≠ 424 → a ≠ 425 → I' a = I a) ∧ ∀ j, j ≠ 10 → I' 420 j = I 420 j) ∧ ∀ a, a ≠ 426 → J' a = J a := by
  obtain ⟨I', J', r1, r2, ⟨r3, r4⟩, r5⟩ := M_cut_loop (d := d) (B := B) (L := L) hL 401 0 (zu I 420 10 0) J (by decide) ⟨hB.1, by rw [zu_k (by decide)]; exact hB.2.1, fun i hi => by rw [zu_ne (by decide)]; exact hB.2.2 i hi⟩ hK (by rw [zu_eq]; rfl) (fun j hj => absurd hj (Nat.not_lt_zero _)) (fun m hm => absurd hm (Nat.not_lt_zero _))
  exact ⟨I', J', BX12_cut0_0 hL (fun I1 e1 => by rw [e1]; exact r1), r2, ⟨fun a p1 p2 p3 p4 => by rw [r3 a p1 p2 p3 p4, zu_ne p1], fun j hj => by rw [r4 j hj, zu_k hj]⟩, r5⟩
end

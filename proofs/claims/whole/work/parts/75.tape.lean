/-! bytes of a word (rows on bits: from the given starting texts) -/
def bt (x : Int32) (i : Nat) : Bool := x.toBitVec.getLsbD i
theorem b_ext {x y : Int32} (h : ∀ i, i < 32 → bt x i = bt y i) : x = y := Int32.toBitVec_inj.mp (BitVec.eq_of_getLsbD_eq (fun i hi => h i hi))
theorem b_and (x y : Int32) (i : Nat) : bt (x &&& y) i = (bt x i && bt y i) := by unfold bt; rw [Int32.toBitVec_and, BitVec.getLsbD_and]
theorem b_big {x : Int32} {i : Nat} (h : 32 ≤ i) : bt x i = false := BitVec.getLsbD_of_ge _ _ h
theorem b_255 (i : Nat) : bt 255 i = decide (i < 8) := by
  rcases Nat.lt_or_ge i 32 with h | h
  · exact (by decide +kernel : ∀ i, i < 32 → bt 255 i = decide (i < 8)) i h
  · rw [b_big h, decide_eq_false (by omega)]
theorem s_l : ∀ n, n < 32 → ((nI n &&& 31).toBitVec.smod 32).toNat = n := by decide +kernel
theorem s_u : ∀ n, n < 32 → (((nI n).toUInt32 &&& Int32.toUInt32 31).toBitVec % 32).toNat = n := by decide +kernel
theorem b_ushr (n : Nat) (hn : n < 32) (x : Int32) (i : Nat) : bt ((x.toUInt32 >>> ((nI n).toUInt32 &&& Int32.toUInt32 31)).toInt32) i = bt x (n + i) := by
  show (x.toUInt32 >>> ((nI n).toUInt32 &&& Int32.toUInt32 31)).toBitVec.getLsbD i = x.toUInt32.toBitVec.getLsbD (n + i)
  rw [UInt32.toBitVec_shiftRight]
  show (x.toUInt32.toBitVec >>> (((nI n).toUInt32 &&& Int32.toUInt32 31).toBitVec % 32).toNat).getLsbD i = _
  rw [s_u n hn, BitVec.getLsbD_ushiftRight]
theorem b_sshr (n : Nat) (hn : n < 32) (x : Int32) {i : Nat} (hi : i < 32) : bt (x >>> (nI n &&& 31)) i = if n + i < 32 then bt x (n + i) else bt x 31 := by
  unfold bt
  rw [Int32.toBitVec_shiftRight]
  show (x.toBitVec.sshiftRight ((nI n &&& 31).toBitVec.smod 32).toNat).getLsbD i = _
  rw [s_l n hn, BitVec.getLsbD_sshiftRight, BitVec.msb_eq_getLsbD_last]
  simp [hi]
theorem bp_b (x : Int32) : x.toInt8.toInt32 &&& 255 = x &&& 255 := by
  apply Int32.toBitVec_inj.mp
  rw [Int32.toBitVec_and, Int32.toBitVec_and, Int8.toBitVec_toInt32, Int32.toBitVec_toInt8]
  apply BitVec.eq_of_getLsbD_eq
  intro i hi
  rw [BitVec.getLsbD_and, BitVec.getLsbD_and]
  have hm : ∀ i < 32, 8 ≤ i → (255 : Int32).toBitVec.getLsbD i = false := by decide
  rcases Nat.lt_or_ge i 8 with z | z
  · rw [BitVec.getLsbD_signExtend, BitVec.getLsbD_signExtend, if_pos z, if_pos hi]
    simp only [z, hi, decide_true, Bool.true_and]
  · rw [hm i hi z]; simp
/-- a byte of a word -/
def zby (x : Int32) (k : Nat) : Nat := ((x.toUInt32 >>> ((nI k).toUInt32 &&& Int32.toUInt32 31)).toInt32).toBitVec.toNat % 2 ^ 8
theorem zby_lt (x : Int32) (k : Nat) : zby x k < 256 := Nat.mod_lt _ (by decide)
theorem zby_u (x : Int32) (k : Nat) : (x.toUInt32 >>> ((nI k).toUInt32 &&& Int32.toUInt32 31)).toInt32 &&& 255 = nI (zby x k) := pk_and _ (m := 255) 8 (by decide)
theorem zby_s (x : Int32) {k : Nat} (hk : k ≤ 24) : (vp_nar .byte ((x >>> (nI k &&& 31)).toInt8.toInt32)) &&& 255 = nI (zby x k) := by
  rw [vp_nar_byte, bp_b, bp_b, ← zby_u]
  apply b_ext
  intro i hi
  rw [b_and, b_and, b_255]
  by_cases h : i < 8
  · rw [b_sshr k (by omega) x hi, b_ushr k (by omega), if_pos (by omega)]
  · rw [decide_eq_false h, Bool.and_false, Bool.and_false]
def zfeed (B : Nat → Nat) (tp : Nat) (x : Int32) : Nat → Nat := fun i => if i < tp then B i else if i = tp then zby x 24 else if i = tp + 1 then zby x 16 else if i = tp + 2 then zby x 8 else zby x 0
/-- the tape, on the class's side, on the reference's -/
def zTc (I : zI) (tp : Nat) (B : Nat → Nat) : Prop := I 0 1 = nI tp ∧ ∀ i, i < tp → I 1 i = nI (B i)
def zTm (I : zI) (tp : Nat) (B : Nat → Nat) : Prop := I 420 2 = nI tp ∧ ∀ i, i < tp → I 421 i &&& 255 = nI (B i)
section
variable {d : Nat} {Z : zZ} {J : zJ} {I I' I1 I2 I4 : zI} {t u v b n nx kt kt' tp : Nat} {τ : Nat → Nat → Nat} {Λ : Nat → Option zLaw} {ρ ρ' : Nat → Nat} {hs : Nat → Nat → Nat} {sl sl' : Nat → Option (Nat → Nat)} {A A' : Nat → Nat × Nat × Bool} {B : Nat → Nat}
theorem C_putStep (hL : zLY Z t u) {x : Int32} {k : Nat} (hk : k < 32) (htp : tp < 2000) (h1 : I 0 1 = nI tp) {o : zO} (K : zE (d + 1) kX11_putWord 3 [some (.ref 0), some (.int x), some (.int (nI k + (-8)))] [] Z (zu (zu I 1 tp (nI (zby x k))) 0 1 (nI (tp + 1))) J o) : zE (d + 1) kX11_putWord 3 [some (.ref 0), some (.int x), some (.int (nI k))] [] Z I J o := by
  refine BX11_putWord_3 _ _ hL ⟨fun q => absurd q (zneg (by omega)), fun _ I1 e1 I2 e2 => ?_⟩
  rw [h1, zptI htp (by decide), zby_u] at e1
  rw [e1, zu_ne (by decide), h1, zadd1] at e2
  rw [e2]; exact K
theorem C_word (hL : zLY Z t u) {x : Int32} (htp : tp + 4 ≤ 2000) (h : zTc I tp B) : ∃ I', zE (d + 1) kX11_putWord 0 [some (.ref 0), some (.int x), none] [] Z I J (none, Z, I', J) ∧ zTc I' (tp + 4) (zfeed B tp x) ∧ (∀ a, a ≠ 0 → a ≠ 1 → I' a = I a) ∧ ∀ k, k ≠ 1 → I' 0 k = I 0 k := by
  refine ⟨zu (zu (zu (zu (zu (zu (zu (zu I 1 tp (nI (zby x 24))) 0 1 (nI (tp + 1))) 1 (tp + 1) (nI (zby x 16))) 0 1 (nI (tp + 1 + 1))) 1 (tp + 1 + 1) (nI (zby x 8))) 0 1 (nI (tp + 1 + 1 + 1))) 1 (tp + 1 + 1 + 1) (nI (zby x 0))) 0 1 (nI (tp + 1 + 1 + 1 + 1)), ?_, ⟨zu_eq, fun i hi => ?_⟩, fun a h1 h2 => by repeat rw [zu_ne (by assumption)], fun k hk => ?_⟩
  · refine BX11_putWord_0 _ hL ?_
    refine C_putStep (k := 24) hL (by decide) (by omega) h.1 ?_
    rw [show nI 24 + (-8) = nI 16 from by decide]
    refine C_putStep (k := 16) hL (by decide) (by omega) zu_eq ?_
    rw [show nI 16 + (-8) = nI 8 from by decide]
    refine C_putStep (k := 8) hL (by decide) (by omega) zu_eq ?_
    rw [show nI 8 + (-8) = nI 0 from by decide]
    refine C_putStep (k := 0) hL (by decide) (by omega) zu_eq ?_
    exact BX11_putWord_3 _ _ hL ⟨fun _ => rfl, fun q => absurd (by decide) q⟩
  · unfold zfeed
    rw [zu_ne (by decide)]
    by_cases c3 : i = tp + 1 + 1 + 1
    · subst c3; rw [zu_eq, if_neg (by omega), if_neg (by omega), if_neg (by omega), if_neg (by omega)]
    rw [zu_k c3, zu_ne (by decide)]
    by_cases c2 : i = tp + 1 + 1
    · subst c2; rw [zu_eq, if_neg (by omega), if_neg (by omega), if_neg (by omega), if_pos (by omega)]
    rw [zu_k c2, zu_ne (by decide)]
    by_cases c1 : i = tp + 1
    · subst c1; rw [zu_eq, if_neg (by omega), if_neg (by omega), if_pos (by omega)]
    rw [zu_k c1, zu_ne (by decide)]
    by_cases c0 : i = tp
    · subst c0; rw [zu_eq, if_neg (by omega), if_pos rfl]
    rw [zu_k c0, if_pos (by omega)]
    exact h.2 i (by omega)
  · rw [zu_k hk, zu_ne (by decide), zu_k hk, zu_ne (by decide), zu_k hk, zu_ne (by decide), zu_k hk, zu_ne (by decide)]
theorem M_putStep (hL : zLY Z t u) {x : Int32} {k : Nat} (hk : k < 32) (htp : tp < 2000) (h1 : I 420 2 = nI tp) {o : zO} (K : zE d kX12_put 3 [some (.ref 420), some (.int x), some (.int (nI k + (-8)))] [] Z (zu (zu I 421 tp (vp_nar .byte ((x >>> (nI k &&& 31)).toInt8.toInt32))) 420 2 (nI (tp + 1))) J o) : zE d kX12_put 3 [some (.ref 420), some (.int x), some (.int (nI k))] [] Z I J o := by
  refine BX12_put_3 _ _ hL ⟨fun q => absurd q (zneg (by omega)), fun _ => ⟨by rw [h1]; exact zvin htp (by decide), fun I1 e1 I2 e2 => ?_⟩⟩
  rw [h1, zclm (by omega)] at e1
  rw [e1, zu_ne (by decide), h1, zadd1] at e2
  rw [e2]; exact K
theorem M_word (hL : zLY Z t u) {x : Int32} (htp : tp + 4 ≤ 2000) (h : zTm I tp B) : ∃ I', zE d kX12_put 0 [some (.ref 420), some (.int x), none] [] Z I J (none, Z, I', J) ∧ zTm I' (tp + 4) (zfeed B tp x) ∧ (∀ a, a ≠ 420 → a ≠ 421 → I' a = I a) ∧ ∀ k, k ≠ 2 → I' 420 k = I 420 k := by
  refine ⟨zu (zu (zu (zu (zu (zu (zu (zu I 421 tp (vp_nar .byte ((x >>> (nI 24 &&& 31)).toInt8.toInt32))) 420 2 (nI (tp + 1))) 421 (tp + 1) (vp_nar .byte ((x >>> (nI 16 &&& 31)).toInt8.toInt32))) 420 2 (nI (tp + 1 + 1))) 421 (tp + 1 + 1) (vp_nar .byte ((x >>> (nI 8 &&& 31)).toInt8.toInt32))) 420 2 (nI (tp + 1 + 1 + 1))) 421 (tp + 1 + 1 + 1) (vp_nar .byte ((x >>> (nI 0 &&& 31)).toInt8.toInt32))) 420 2 (nI (tp + 1 + 1 + 1 + 1)), ?_, ⟨zu_eq, fun i hi => ?_⟩, fun a h1 h2 => by repeat rw [zu_ne (by assumption)], fun k hk => ?_⟩
  · refine BX12_put_0 _ hL ?_
    refine M_putStep (k := 24) hL (by decide) (by omega) h.1 ?_
    rw [show nI 24 + (-8) = nI 16 from by decide]
    refine M_putStep (k := 16) hL (by decide) (by omega) zu_eq ?_
    rw [show nI 16 + (-8) = nI 8 from by decide]
    refine M_putStep (k := 8) hL (by decide) (by omega) zu_eq ?_
    rw [show nI 8 + (-8) = nI 0 from by decide]
    refine M_putStep (k := 0) hL (by decide) (by omega) zu_eq ?_
    exact BX12_put_3 _ _ hL ⟨fun _ => rfl, fun q => absurd (by decide) q⟩
  · unfold zfeed
    rw [zu_ne (by decide)]
    by_cases c3 : i = tp + 1 + 1 + 1
    · subst c3; rw [zu_eq, if_neg (by omega), if_neg (by omega), if_neg (by omega), if_neg (by omega)]; exact zby_s x (by decide)
    rw [zu_k c3, zu_ne (by decide)]
    by_cases c2 : i = tp + 1 + 1
    · subst c2; rw [zu_eq, if_neg (by omega), if_neg (by omega), if_neg (by omega), if_pos (by omega)]; exact zby_s x (by decide)
    rw [zu_k c2, zu_ne (by decide)]
    by_cases c1 : i = tp + 1
    · subst c1; rw [zu_eq, if_neg (by omega), if_neg (by omega), if_pos (by omega)]; exact zby_s x (by decide)
    rw [zu_k c1, zu_ne (by decide)]
    by_cases c0 : i = tp
    · subst c0; rw [zu_eq, if_neg (by omega), if_pos rfl]; exact zby_s x (by decide)
    rw [zu_k c0, if_pos (by omega)]
    exact h.2 i (by omega)
  · rw [zu_k hk, zu_ne (by decide), zu_k hk, zu_ne (by decide), zu_k hk, zu_ne (by decide), zu_k hk, zu_ne (by decide)]
theorem zfeed_lt {x : Int32} (h : ∀ i, i < tp → B i < 256) : ∀ i, i < tp + 4 → zfeed B tp x i < 256 := by
  intro i hi
  unfold zfeed
  split
  · exact h i ‹_›
  · (repeat' split) <;> exact zby_lt _ _
theorem zFul.tape (h : zFul Z I t u v τ Λ b ρ n nx hs sl kt A) (row : ∀ a, a ≠ 0 → a ≠ 1 → a ≠ 420 → a ≠ 421 → I' a = I a) (f0 : I' 0 2 = I 0 2) (fld : ∀ k, k ≠ 2 → I' 420 k = I 420 k) (hT : zTp I') : zFul Z I' t u v τ Λ b ρ n nx hs sl kt A := by
  obtain ⟨a1, ⟨a2, a3, a4⟩, ⟨a5, a6, a7⟩, a8, a9, a10, a11, a12⟩ := h
  have ht := a1.t3
  have r : ∀ a, (1 < a ∧ a < 420 ∨ 421 < a) → I' a = I a := fun a q => row a (by omega) (by omega) (by omega) (by omega)
  refine ⟨⟨a1.1, a1.W, a1.M.same (fld 18 (by decide)) (fun a p1 p2 => r a (by omega)), a1.T.same (fun a p1 p2 _ _ => r a (by omega)), a1.S.same (r _ (by omega)) (r _ (by omega)), fun k hk => by rw [r 457 (by omega)]; exact a1.R k hk, a1.bd, a1.D, a1.E.same (fun a p1 p2 => r a (by omega))⟩, ⟨a2.same a4.1.2 (r 67 (by omega)) (fun a p1 p2 => r a (by omega)), a3.same (fld 58 (by decide)) (r 460 (by omega)), a4⟩, ⟨a5.same (fun a p1 => r a (by omega)), a6.same (r 471 (by omega)) (r 472 (by omega)), a7⟩, a8.same (fun a p1 p2 => r a (by omega)) (fld 69 (by decide)) (fun a p1 p2 => r a (by omega)), a9.same (r 432 (by omega)) (r 433 (by omega)), a10.same (r 458 (by omega)), hT, ?_, a12.2.1.same (fun a p q => r a (by omega)), a12.2.2.same (r 1000006 (by omega))⟩
  rw [f0, fld 17 (by decide)]; exact a12.1
theorem zFul.told (h : zFul Z I t u v τ Λ b ρ n nx hs sl kt A) (row : ∀ a, a ≠ 420 → ¬ (415 ≤ a ∧ a ≤ 418) → ¬ (468 ≤ a ∧ a ≤ 470) → I' a = I a) (fld : ∀ k, k ≠ 69 → I' 420 k = I 420 k) (hT : zTd I' (τ 0 0) kt' A') : zFul Z I' t u v τ Λ b ρ n nx hs sl kt' A' := by
  obtain ⟨a1, ⟨a2, a3, a4⟩, ⟨a5, a6, a7⟩, a8, a9, a10, a11, a12⟩ := h
  have ht := a1.t3
  have r : ∀ a, (a < 415 ∨ a = 419 ∨ 420 < a ∧ a < 468 ∨ 470 < a) → I' a = I a := fun a q => row a (by omega) (by omega) (by omega)
  refine ⟨⟨a1.1, a1.W, a1.M.same (fld 18 (by decide)) (fun a p1 p2 => r a (by omega)), a1.T.same (fun a p1 p2 _ _ => r a (by omega)), a1.S.same (r _ (by omega)) (r _ (by omega)), fun k hk => by rw [r 457 (by omega)]; exact a1.R k hk, a1.bd, a1.D, a1.E.same (fun a p1 p2 => r a (by omega))⟩, ⟨a2.same a4.1.2 (r 67 (by omega)) (fun a p1 p2 => r a (by omega)), a3.same (fld 58 (by decide)) (r 460 (by omega)), a4⟩, ⟨a5.same (fun a p1 => r a (by omega)), a6.same (r 471 (by omega)) (r 472 (by omega)), a7⟩, hT, a9.same (r 432 (by omega)) (r 433 (by omega)), a10.same (r 458 (by omega)), a11.same (r 0 (by omega)) (r 1 (by omega)) (r 421 (by omega)) (fld 2 (by decide)), ?_, a12.2.1.same (fun a p q => r a (by omega)), a12.2.2.same (r 1000006 (by omega))⟩
  rw [r 0 (by omega), fld 17 (by decide)]; exact a12.1
theorem X_place (h : zFul Z I t u v τ Λ b ρ n nx hs sl kt A) (hb : b + 2000 < 500000000) : zX kX11_place kX12_place [some (.ref 0)] [some (.ref 420)] Z I J t u v τ Λ b :=
  zX.q h hb ⟨I 0 2, I, I, BX11_place_0 h.1.L rfl, BX12_place_0 h.1.L (by rw [h.2.2.2.2.2.2.2.1]), zscr.rf⟩
theorem X_forget (h : zFul Z I t u v τ Λ b ρ n nx hs sl kt A) (hb : b + 2000 < 500000000) : zX kX11_forget kX12_forget [some (.ref 0), none] [some (.ref 420), none] Z I J t u v τ Λ b := by
  obtain ⟨⟨h1, h2, h3⟩, -⟩ := h.2.2.2.1
  refine ⟨nI kt, zu I 415 0 0, zu (zu I 415 0 0) 420 69 0, BX11_forget_0 h.1.L (fun I1 e1 => by rw [e1, h2]), BX12_forget_0 h.1.L (fun I1 e1 => by rw [e1, zu_ne (by decide), h3]), ρ, n, nx, hs, sl, 0, A, ?_⟩
  refine (h.told (kt' := 0) (A' := A) (fun a p1 p2 p3 => by rw [zu_ne p1, zu_ne (by omega)]) (fun k p => by rw [zu_k p, zu_ne (by decide)]) ⟨⟨by decide, by rw [zu_ne (by decide), zu_eq]; rfl, by rw [zu_eq]; rfl⟩, fun i hi => absurd hi (Nat.not_lt_zero _)⟩).up (by omega) hb
theorem X_tell (h : zFul Z I t u v τ Λ b ρ n nx hs sl kt A) (hb : b + 2000 < 500000000) (x y w : Int32) (hw : w = 0 ∨ w = 1) : zX kX11_tell kX12_tell [some (.ref 0), some (.int x), some (.int y), some (.int w)] [some (.ref 420), some (.int x), some (.int y), some (.int w)] Z I J t u v τ Λ b := by
  have h0 := h.1
  have h7 := h0.n7
  obtain ⟨⟨k12, hk1, hk2⟩, hA⟩ := h.2.2.2.1
  by_cases hc : zis2 τ x y
  · by_cases hk : kt = 12
    · have e1 : ¬ I 415 0 < 12 := by rw [hk1, hk]; decide
      have e2 : I 420 69 = 12 := by rw [hk2, hk]; rfl
      exact zX.q h hb ⟨-1, I, I, BX11_tell_0 (d := 8) _ _ _ h0.L ⟨_, C_areTwo h0.L h7 h0.men, fun q => absurd hc (zbi_eq0.mp q), fun _ => ⟨-1, I, BX9_add_0 _ _ _ h0.L ⟨fun q => absurd q e1, fun _ => rfl⟩, rfl⟩⟩, BX12_tell_0 (d := 7) _ _ _ h0.L ⟨fun _ => rfl, fun q => absurd e2 q⟩, zscr.rf⟩
    · have hk12 : kt < 12 := by omega
      have e1 : I 415 0 < 12 := by rw [hk1, show (12 : Int32) = nI 12 from rfl, zlt (by omega) (by decide)]; exact hk12
      have e2 : ¬ I 420 69 = 12 := by rw [hk2, show (12 : Int32) = nI 12 from rfl, zeq (by omega) (by decide)]; exact hk
      obtain ⟨m, hm, rfl⟩ := (zism_iff h7 x).mp hc.1
      obtain ⟨o, ho, rfl⟩ := (zism_iff h7 y).mp hc.2.1
      obtain ⟨IC, eC⟩ : ∃ IC : zI, IC = zu (zu (zu (zu I 416 kt (nI m)) 417 kt (nI o)) 418 kt w) 415 0 (nI (kt + 1)) := ⟨_, rfl⟩
      obtain ⟨IM, eM⟩ : ∃ IM : zI, IM = zu (zu (zu (zu IC 468 kt (nI m)) 469 kt (nI o)) 470 kt w) 420 69 (nI (kt + 1)) := ⟨_, rfl⟩
      have fin : ∀ (I1 I2 I3 I4 : zI), I1 = zpt I 416 12 (I 415 0) (nI m) → I2 = zpt I1 417 12 (I1 415 0) (nI o) → I3 = zpt I2 418 12 (I2 415 0) w → I4 = zu I3 415 0 ((I3 415 0) + 1) → ((some (.int (nI kt)), Z, IC, J) : zO) = (some (.int ((I4 415 0) - 1)), Z, I4, J) := by
        intro I1 I2 I3 I4 e1 e2 e3 e4
        rw [hk1, zptI hk12 (by decide)] at e1
        have g1 : I1 415 0 = nI kt := by rw [e1, zu_ne (by decide)]; exact hk1
        rw [g1, zptI hk12 (by decide), e1] at e2
        have g2 : I2 415 0 = nI kt := by rw [e2, zu_ne (by decide), zu_ne (by decide)]; exact hk1
        rw [g2, zptI hk12 (by decide), e2] at e3
        have g3 : I3 415 0 = nI kt := by rw [e3, zu_ne (by decide), zu_ne (by decide), zu_ne (by decide)]; exact hk1
        rw [g3, zadd1, e3] at e4
        rw [eC, e4, zu_eq, zsub1]
      have kC : IC 420 69 = nI kt := by rw [eC, zu_ne (by decide), zu_ne (by decide), zu_ne (by decide), zu_ne (by decide)]; exact hk2
      have hMC : zMT IC v τ Λ := h0.M.same (by rw [eC, zu_ne (by decide), zu_ne (by decide), zu_ne (by decide), zu_ne (by decide)]) (fun a p1 p2 => by rw [eC, zu_ne (by omega), zu_ne (by omega), zu_ne (by omega), zu_ne (by omega)])
      have hwn : vp_nar .boolean w = w := by rcases hw with rfl | rfl <;> rfl
      refine ⟨nI kt, IC, IM, BX11_tell_0 (d := 8) _ _ _ h0.L ⟨_, C_areTwo h0.L h7 h0.men, fun q => absurd hc (zbi_eq0.mp q), fun _ => ⟨nI kt, IC, BX9_add_0 _ _ _ h0.L ⟨fun _ I1 e1 I2 e2 => ⟨fun q I3 e3 I4 e4 => fin I1 I2 I3 I4 e1 e2 (by rw [q]; exact e3) e4, fun q I3 e3 I4 e4 => fin I1 I2 I3 I4 e1 e2 (by rw [hw.resolve_left q]; exact e3) e4⟩, fun q => absurd e1 q⟩, rfl⟩⟩, BX12_tell_0 (d := 7) _ _ _ h0.L ⟨fun q => absurd (kC.symm.trans q) (by rw [← hk2]; exact e2), fun _ => ⟨_, M_areTwo h0.L h0.W hMC, fun _ => ⟨by rw [kC]; exact zvin hk12 (by decide), fun I2 e2 => ?_⟩, fun q => absurd hc (zbi_eq0.mp q)⟩⟩, ρ, n, nx, hs, sl, kt + 1, fun i => if i = kt then (m, o, decide (w = 1)) else A i, ?_⟩
      · rw [kC, zclm (by omega)] at e2
        have g2 : I2 420 69 = nI kt := by rw [e2, zu_ne (by decide)]; exact kC
        refine ⟨by rw [g2]; exact zvin hk12 (by decide), fun I3 e3 => ?_⟩
        rw [g2, zclm (by omega), e2] at e3
        have g3 : I3 420 69 = nI kt := by rw [e3, zu_ne (by decide), zu_ne (by decide)]; exact kC
        refine ⟨by rw [g3]; exact zvin hk12 (by decide), fun I4 e4 I5 e5 => ?_⟩
        rw [g3, zclm (by omega), e3, hwn] at e4
        have g4 : I4 420 69 = nI kt := by rw [e4, zu_ne (by decide), zu_ne (by decide), zu_ne (by decide)]; exact kC
        rw [g4, zadd1, e4] at e5
        rw [eM, e5, zu_eq, zsub1]
      · have e12 : I 415 0 = nI kt := hk1
        refine (h.told (kt' := kt + 1) (A' := fun i => if i = kt then (m, o, decide (w = 1)) else A i) (fun a p1 p2 p3 => ?_) (fun k p => ?_) ⟨⟨by omega, ?_, ?_⟩, fun i hi => ?_⟩).up (by omega) hb
        · rw [eM, zu_ne p1, zu_ne (by omega), zu_ne (by omega), zu_ne (by omega), eC, zu_ne (by omega), zu_ne (by omega), zu_ne (by omega), zu_ne (by omega)]
        · rw [eM, zu_k p, zu_ne (by decide), zu_ne (by decide), zu_ne (by decide), eC, zu_ne (by decide), zu_ne (by decide), zu_ne (by decide), zu_ne (by decide)]
        · rw [eM, zu_ne (by decide), zu_ne (by decide), zu_ne (by decide), zu_ne (by decide), eC, zu_eq]
        · rw [eM, zu_eq]
        · have r1 : IM 416 i = if i = kt then nI m else I 416 i := by rw [eM, zu_ne (by decide), zu_ne (by decide), zu_ne (by decide), zu_ne (by decide), eC, zu_ne (by decide), zu_ne (by decide), zu_ne (by decide)]; unfold zu; simp
          have r2 : IM 417 i = if i = kt then nI o else I 417 i := by rw [eM, zu_ne (by decide), zu_ne (by decide), zu_ne (by decide), zu_ne (by decide), eC, zu_ne (by decide), zu_ne (by decide)]; unfold zu; simp
          have r3 : IM 418 i = if i = kt then w else I 418 i := by rw [eM, zu_ne (by decide), zu_ne (by decide), zu_ne (by decide), zu_ne (by decide), eC, zu_ne (by decide)]; unfold zu; simp
          have r4 : IM 468 i = if i = kt then nI m else I 468 i := by rw [eM, zu_ne (by decide), zu_ne (by decide), zu_ne (by decide), eC]; unfold zu; simp
          have r5 : IM 469 i = if i = kt then nI o else I 469 i := by rw [eM, zu_ne (by decide), zu_ne (by decide), eC]; unfold zu; simp
          have r6 : IM 470 i = if i = kt then w else I 470 i := by rw [eM, zu_ne (by decide), eC]; unfold zu; simp
          rw [r1, r2, r3, r4, r5, r6]
          by_cases e : i = kt
          · have ew : w = zbi (decide (w = 1) = true) := by rcases hw with rfl | rfl <;> rfl
            simp only [if_pos e]
            exact ⟨hm, ho, ⟨trivial, trivial, ew⟩, trivial, trivial, ew⟩
          · simp only [if_neg e]
            exact hA i (by omega)
  · exact zX.q h hb (zQ2.of h0 (-1) ⟨I, BX11_tell_0 (d := 8) _ _ _ h0.L ⟨_, C_areTwo h0.L h7 h0.men, fun _ => rfl, fun q => absurd (zbi_eq0.mpr hc) q⟩, zscr.rf⟩ (fun I1 h1 => ⟨I1, BX12_tell_0 (d := 7) _ _ _ h1.L ⟨fun _ => rfl, fun _ => ⟨_, M_areTwo h1.L h1.W h1.M, fun q => absurd (zbi_eq0.mpr hc) q, fun _ => rfl⟩⟩, zscr.rf⟩))
theorem X_back (h : zFul Z I t u v τ Λ b ρ n nx hs sl kt A) (hb : b + 2000 < 500000000) (x : Int32) : zX kX11_back kX12_back [some (.ref 0), some (.int x)] [some (.ref 420), some (.int x)] Z I J t u v τ Λ b := by
  have h0 := h.1
  obtain ⟨tp, B, ⟨a1, a2, a3⟩, a4⟩ := h.2.2.2.2.2.2.1
  by_cases h1 : x < 0
  · exact zX.q h hb ⟨-1, I, I, BX11_back_0 _ h0.L ⟨fun _ => rfl, fun q => absurd h1 q⟩, BX12_back_0 _ h0.L ⟨fun _ => rfl, fun q => absurd h1 q⟩, zscr.rf⟩
  · by_cases h2 : x ≤ nI tp
    · obtain ⟨k, hk, rfl⟩ := znI_ex x h1
      have hkt := h2
      rw [zle' hk (by omega)] at hkt
      refine ⟨nI (tp - k), zu I 0 1 (nI (tp - k)), zu (zu I 0 1 (nI (tp - k))) 420 2 (nI (tp - k)), BX11_back_0 _ h0.L ⟨fun q => absurd q h1, fun _ => ⟨fun _ I1 e1 => ?_, fun q => absurd (by rw [a2]; exact h2) q⟩⟩, BX12_back_0 _ h0.L ⟨fun q => absurd q h1, fun _ => ⟨fun _ I1 e1 => ?_, fun q => absurd (by rw [zu_ne (by decide), a3]; exact h2) q⟩⟩, ρ, n, nx, hs, sl, kt, A, ?_⟩
      · rw [a2, zsub hkt] at e1
        rw [e1, zu_eq]
      · rw [zu_ne (by decide), a3, zsub hkt] at e1
        rw [e1, zu_eq]
      · refine (h.tape (fun a p1 _ p3 _ => by rw [zu_ne p3, zu_ne p1]) (by rw [zu_ne (by decide), zu_k (by decide)]) (fun j p => by rw [zu_k p, zu_ne (by decide)]) ⟨tp - k, B, ⟨by omega, by rw [zu_ne (by decide), zu_eq], by rw [zu_eq]⟩, fun i hi => ?_⟩).up (by omega) hb
        rw [zu_ne (by decide), zu_ne (by decide), zu_ne (by decide), zu_ne (by decide)]
        exact a4 i (by omega)
    · exact zX.q h hb ⟨-1, I, I, BX11_back_0 _ h0.L ⟨fun q => absurd q h1, fun _ => ⟨fun q => absurd (by rw [← a2]; exact q) h2, fun _ => rfl⟩⟩, BX12_back_0 _ h0.L ⟨fun q => absurd q h1, fun _ => ⟨fun q => absurd (by rw [← a3]; exact q) h2, fun _ => rfl⟩⟩, zscr.rf⟩
theorem X_feed (h : zFul Z I t u v τ Λ b ρ n nx hs sl kt A) (hb : b + 2000 < 500000000) (x1 x2 x3 x4 x5 : Int32) : zX kX11_feed kX12_feed [some (.ref 0), some (.int x1), some (.int x2), some (.int x3), some (.int x4), some (.int x5)] [some (.ref 420), some (.int x1), some (.int x2), some (.int x3), some (.int x4), some (.int x5)] Z I J t u v τ Λ b := by
  have h0 := h.1
  obtain ⟨tp, B, ⟨a1, a2, a3⟩, a4⟩ := h.2.2.2.2.2.2.1
  have e20 : ∀ z : Int32, z = nI tp → (z + 20 ≤ 2000 ↔ tp + 20 ≤ 2000) := fun z hz => by rw [hz, show (20 : Int32) = nI 20 from rfl, zadd, show (2000 : Int32) = nI 2000 from rfl, zle' (by omega) (by decide)]
  by_cases hc : tp + 20 ≤ 2000
  · have c0 : zTc I tp B := ⟨a2, fun i hi => (a4 i hi).2.1⟩
    obtain ⟨I1, r1, c1, f1, g1⟩ := C_word (d := 8) (J := J) (x := x1) h0.L (by omega) c0
    obtain ⟨I2, r2, c2, f2, g2⟩ := C_word (d := 8) (J := J) (x := x2) h0.L (by omega) c1
    obtain ⟨I3, r3, c3, f3, g3⟩ := C_word (d := 8) (J := J) (x := x3) h0.L (by omega) c2
    obtain ⟨I4, r4, c4, f4, g4⟩ := C_word (d := 8) (J := J) (x := x4) h0.L (by omega) c3
    obtain ⟨I5, r5, c5, f5, g5⟩ := C_word (d := 8) (J := J) (x := x5) h0.L (by omega) c4
    have F : ∀ a, a ≠ 0 → a ≠ 1 → I5 a = I a := fun a p q => by rw [f5 a p q, f4 a p q, f3 a p q, f2 a p q, f1 a p q]
    have G : ∀ k, k ≠ 1 → I5 0 k = I 0 k := fun k p => by rw [g5 k p, g4 k p, g3 k p, g2 k p, g1 k p]
    have m0 : zTm I5 tp B := ⟨by rw [F 420 (by decide) (by decide)]; exact a3, fun i hi => by rw [F 421 (by decide) (by decide)]; exact (a4 i hi).2.2⟩
    obtain ⟨M1, s1, m1, p1, o1⟩ := M_word (d := 9) (J := J) (x := x1) h0.L (by omega) m0
    obtain ⟨M2, s2, m2, p2, o2⟩ := M_word (d := 9) (J := J) (x := x2) h0.L (by omega) m1
    obtain ⟨M3, s3, m3, p3, o3⟩ := M_word (d := 9) (J := J) (x := x3) h0.L (by omega) m2
    obtain ⟨M4, s4, m4, p4, o4⟩ := M_word (d := 9) (J := J) (x := x4) h0.L (by omega) m3
    obtain ⟨M5, s5, m5, p5, o5⟩ := M_word (d := 9) (J := J) (x := x5) h0.L (by omega) m4
    have P : ∀ a, a ≠ 420 → a ≠ 421 → M5 a = I5 a := fun a p q => by rw [p5 a p q, p4 a p q, p3 a p q, p2 a p q, p1 a p q]
    have O : ∀ k, k ≠ 2 → M5 420 k = I5 420 k := fun k p => by rw [o5 k p, o4 k p, o3 k p, o2 k p, o1 k p]
    refine ⟨nI (tp + 4 + 4 + 4 + 4 + 4), I5, M5, BX11_feed_0 (d := 8) _ _ _ _ _ h0.L ⟨fun _ => ⟨I1, r1, I2, r2, I3, r3, I4, r4, I5, r5, by rw [c5.1]⟩, fun q => absurd ((e20 _ a2).mpr hc) q⟩, BX12_feed_0 (d := 9) _ _ _ _ _ h0.L ⟨fun _ => ⟨M1, s1, M2, s2, M3, s3, M4, s4, M5, s5, by rw [m5.1]⟩, fun q => absurd ((e20 _ m0.1).mpr hc) q⟩, ρ, n, nx, hs, sl, kt, A, ?_⟩
    refine (h.tape (fun a p q r s => by rw [P a r s, F a p q]) (by rw [P 0 (by decide) (by decide), G 2 (by decide)]) (fun k p => by rw [O k p, F 420 (by decide) (by decide)]) ⟨tp + 4 + 4 + 4 + 4 + 4, _, ⟨by omega, by rw [P 0 (by decide) (by decide)]; exact c5.1, m5.1⟩, fun i hi => ⟨?_, by rw [P 1 (by decide) (by decide)]; exact c5.2 i hi, m5.2 i hi⟩⟩).up (by omega) hb
    exact zfeed_lt (zfeed_lt (zfeed_lt (zfeed_lt (zfeed_lt (fun i hi => (a4 i hi).1))))) i hi
  · exact zX.q h hb ⟨-1, I, I, BX11_feed_0 (d := 8) _ _ _ _ _ h0.L ⟨fun q => absurd ((e20 _ a2).mp q) hc, fun _ => rfl⟩, BX12_feed_0 (d := 9) _ _ _ _ _ h0.L ⟨fun q => absurd ((e20 _ a3).mp q) hc, fun _ => rfl⟩, zscr.rf⟩
end

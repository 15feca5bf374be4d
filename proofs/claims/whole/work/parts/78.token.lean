/-! TOKENS: pure, and how the class cuts them -/
def zrun (P : Nat → Bool) : Nat → Nat → Nat
  | 0, i => i
  | f + 1, i => if P i = true then zrun P f (i + 1) else i
/-- the first place from i on, below L, where P ends -/
def zrn (P : Nat → Bool) (L i : Nat) : Nat := zrun P (L - i) i
theorem zrn_t {P : Nat → Bool} {L i : Nat} (h : i < L) (hp : P i = true) : zrn P L i = zrn P L (i + 1) := by
  unfold zrn; rw [show L - i = (L - (i + 1)) + 1 by omega]; simp only [zrun]; rw [if_pos hp]
theorem zrn_f {P : Nat → Bool} {L i : Nat} (h : i < L → P i = false) : zrn P L i = i := by
  unfold zrn
  cases e : L - i with
  | zero => rfl
  | succ f => simp only [zrun]; rw [if_neg]; rw [h (by omega)]; decide
theorem zrn_ok {P : Nat → Bool} {L : Nat} : ∀ (f i : Nat), L - i = f → i ≤ zrn P L i ∧ (i ≤ L → zrn P L i ≤ L) ∧ (∀ j, i ≤ j → j < zrn P L i → P j = true) ∧ (zrn P L i < L → P (zrn P L i) = false) := by
  intro f
  induction f with
  | zero =>
    intro i hi
    rw [zrn_f (fun h => by omega)]
    exact ⟨Nat.le_refl _, fun h => h, fun j h1 h2 => by omega, fun h => by omega⟩
  | succ f ih =>
    intro i hi
    cases hp : P i with
    | true =>
      rw [zrn_t (by omega) hp]
      obtain ⟨a1, a2, a3, a4⟩ := ih (i + 1) (by omega)
      refine ⟨by omega, fun _ => a2 (by omega), fun j h1 h2 => ?_, a4⟩
      by_cases e : j = i
      · rw [e]; exact hp
      · exact a3 j (by omega) h2
    | false =>
      rw [zrn_f (fun _ => hp)]
      exact ⟨Nat.le_refl _, fun h => h, fun j h1 h2 => by omega, fun _ => hp⟩
def zPbl (B : Nat → Nat) (i : Nat) : Bool := decide (B i = 9 ∨ B i = 10 ∨ B i = 13 ∨ B i = 32)
def zPlt (B : Nat → Nat) (i : Nat) : Bool := decide (97 ≤ B i ∧ B i ≤ 122)
def zPdg (B : Nat → Nat) (i : Nat) : Bool := decide (48 ≤ B i ∧ B i ≤ 57)
def zc32 (B : Nat → Nat) (p : Nat) : Nat → Nat
  | 0 => 0
  | n + 1 => 32 * zc32 B p n + (B (p + n) - 96)
def zc27 (B : Nat → Nat) (p : Nat) : Nat → Nat
  | 0 => 0
  | n + 1 => 27 * zc27 B p n + (B (p + n) - 96)
def zc10 (B : Nat → Nat) (p : Nat) : Nat → Nat
  | 0 => 0
  | n + 1 => 10 * zc10 B p n + (B (p + n) - 48)
def zk32 (k : Nat) : Nat := [671470, 13358, 244915, 409031, 187237828, 546713650, 4901, 627876, 294, 663726, 176741, 24, 25, 446125701, 398548, 12788, 591307].getD k 0
def zk27 (k : Nat) : Nat := [405230, 9518, 148870, 247516, 81665878, 234610470, 3596, 377761, 249, 399641, 107681, 24, 25, 191610176, 240023, 9173, 355412].getD k 0
def zwf (x : Nat) : Nat → Nat → Nat
  | 0, _ => 2
  | f + 1, k => if zk32 k = x then 128 + k else zwf x f (k + 1)
/-- the end of a token that begins at p -/
def zte (B : Nat → Nat) (L p : Nat) : Nat := if p < L then (if zPlt B p = true then zrn (zPlt B) L p else if zPdg B p = true then zrn (zPdg B) L p else p + 1) else p
def zsgL : List Nat := [59, 61, 43, 45, 42, 47, 60, 40, 41]
/-- the kind of a token from p to e -/
def zkn (B : Nat → Nat) (p e : Nat) : Nat := if e ≤ p then 0 else if zPlt B p = true then (if e - p ≤ 8 then zwf (zc32 B p (e - p)) 17 0 else 1) else if zPdg B p = true then (if e - p ≤ 4 then 3 else 1) else if B p ∈ zsgL then B p else 1
def zpos (B : Nat → Nat) (L : Nat) : Nat → Nat
  | 0 => 0
  | i + 1 => zte B L (zrn (zPbl B) L (zpos B L i))
def zplc (B : Nat → Nat) (L i : Nat) : Nat := zrn (zPbl B) L (zpos B L i)
def zknd (B : Nat → Nat) (L i : Nat) : Nat := zkn B (zplc B L i) (zpos B L (i + 1))
def zvlu (B : Nat → Nat) (L i : Nat) : Nat := zc10 B (zplc B L i) (zpos B L (i + 1) - zplc B L i)
def znam (B : Nat → Nat) (L i : Nat) : Nat := zc32 B (zplc B L i) (zpos B L (i + 1) - zplc B L i)
section
variable {B : Nat → Nat} {L p n i : Nat}
theorem zte_ok (hp : p ≤ L) : p ≤ zte B L p ∧ zte B L p ≤ L ∧ (p < L → p < zte B L p) := by
  unfold zte
  by_cases h : p < L
  · rw [if_pos h]
    by_cases h1 : zPlt B p = true
    · rw [if_pos h1, zrn_t h h1]
      obtain ⟨a1, a2, -, -⟩ := zrn_ok (P := zPlt B) (L := L) _ (p + 1) rfl
      exact ⟨by omega, a2 (by omega), fun _ => by omega⟩
    · rw [if_neg h1]
      by_cases h2 : zPdg B p = true
      · rw [if_pos h2, zrn_t h h2]
        obtain ⟨a1, a2, -, -⟩ := zrn_ok (P := zPdg B) (L := L) _ (p + 1) rfl
        exact ⟨by omega, a2 (by omega), fun _ => by omega⟩
      · rw [if_neg h2]; exact ⟨by omega, by omega, fun _ => by omega⟩
  · rw [if_neg h]; exact ⟨Nat.le_refl _, hp, fun q => absurd q h⟩
theorem zpos_le : ∀ i, zpos B L i ≤ L := by
  intro i
  induction i with
  | zero => exact Nat.zero_le _
  | succ i ih => exact (zte_ok ((zrn_ok (P := zPbl B) _ (zpos B L i) rfl).2.1 ih)).2.1
theorem zplc_le (i : Nat) : zplc B L i ≤ L := (zrn_ok (P := zPbl B) _ (zpos B L i) rfl).2.1 (zpos_le i)
theorem zpos_plc (i : Nat) : zpos B L i ≤ zplc B L i := (zrn_ok (P := zPbl B) _ (zpos B L i) rfl).1
theorem zplc_pos (i : Nat) : zplc B L i ≤ zpos B L (i + 1) := (zte_ok (zplc_le i)).1
theorem zknd_0 (i : Nat) : zknd B L i = 0 ↔ zplc B L i = L := by
  have h1 := zte_ok (B := B) (zplc_le (B := B) (L := L) i)
  have h2 := zplc_le (B := B) (L := L) i
  have h3 := zplc_pos (B := B) (L := L) i
  have e : zpos B L (i + 1) = zte B L (zplc B L i) := rfl
  unfold zknd zkn
  constructor
  · intro h
    by_cases c : zpos B L (i + 1) ≤ zplc B L i
    · have := h1.2.2; omega
    · rw [if_neg c] at h
      exfalso
      revert h
      have hw : ∀ (f k : Nat), zwf (zc32 B (zplc B L i) (zpos B L (i + 1) - zplc B L i)) f k ≠ 0 := by
        intro f
        induction f with
        | zero => intro k h; simp [zwf] at h
        | succ f ih =>
          intro k
          simp only [zwf]
          split
          · omega
          · exact ih _
      split
      · split
        · exact hw _ _
        · decide
      · split
        · split <;> decide
        · split
          · rename_i q
            intro e0
            rw [e0] at q
            exact absurd q (by decide)
          · decide
  · intro h
    rw [if_pos]
    have := h1.2.1
    omega
theorem zplc_lt {i : Nat} (h : zknd B L i ≠ 0) : zplc B L i < zplc B L (i + 1) := by
  have h1 := zte_ok (B := B) (zplc_le (B := B) (L := L) i)
  have h2 : zplc B L i ≠ L := fun q => h ((zknd_0 i).mpr q)
  have h3 := zplc_le (B := B) (L := L) i
  have h4 := zpos_plc (B := B) (L := L) (i + 1)
  have e : zpos B L (i + 1) = zte B L (zplc B L i) := rfl
  have := h1.2.2 (by omega)
  omega
theorem zc32_lt : ∀ n, (∀ j, j < n → zPlt B (p + j) = true) → zc32 B p n < 32 ^ n := by
  intro n
  induction n with
  | zero => intro _; exact Nat.zero_lt_one
  | succ n ih =>
    intro h
    have h1 := ih (fun j hj => h j (by omega))
    have h2 := h n (by omega)
    unfold zPlt at h2
    have h2 := of_decide_eq_true h2
    simp only [zc32]
    rw [Nat.pow_succ]
    omega
theorem zc32_b {n : Nat} (hn : n ≤ 8) (h : ∀ j, j < n → zPlt B (p + j) = true) : zc32 B p n < 2 ^ 40 :=
  Nat.lt_of_lt_of_le (zc32_lt n h) (Nat.le_trans (Nat.pow_le_pow_right (by decide) hn) (by decide))
theorem zblk_iff {b : Nat} (hb : b < 256) : (nI b = 9 ∨ nI b = 10 ∨ nI b = 13 ∨ nI b = 32) ↔ (b = 9 ∨ b = 10 ∨ b = 13 ∨ b = 32) := by
  rw [show (9 : Int32) = nI 9 from rfl, show (10 : Int32) = nI 10 from rfl, show (13 : Int32) = nI 13 from rfl, show (32 : Int32) = nI 32 from rfl, zeq (by omega) (by decide), zeq (by omega) (by decide), zeq (by omega) (by decide), zeq (by omega) (by decide)]
theorem zltr_iff {b : Nat} (hb : b < 256) : (97 ≤ nI b ∧ nI b ≤ 122) ↔ (97 ≤ b ∧ b ≤ 122) := by
  rw [show (97 : Int32) = nI 97 from rfl, show (122 : Int32) = nI 122 from rfl, zle' (by decide) (by omega), zle' (by omega) (by decide)]
theorem zdgt_iff {b : Nat} (hb : b < 256) : (48 ≤ nI b ∧ nI b ≤ 57) ↔ (48 ≤ b ∧ b ≤ 57) := by
  rw [show (48 : Int32) = nI 48 from rfl, show (57 : Int32) = nI 57 from rfl, zle' (by decide) (by omega), zle' (by omega) (by decide)]
theorem zsg_mem {c : Nat} : c ∈ zsgL ↔ ∃ j, j < 9 ∧ zsgL.getD j 0 = c := by
  constructor
  · intro h
    simp only [zsgL, List.mem_cons, List.not_mem_nil, or_false] at h
    rcases h with rfl | rfl | rfl | rfl | rfl | rfl | rfl | rfl | rfl
    · exact ⟨0, by decide, rfl⟩
    · exact ⟨1, by decide, rfl⟩
    · exact ⟨2, by decide, rfl⟩
    · exact ⟨3, by decide, rfl⟩
    · exact ⟨4, by decide, rfl⟩
    · exact ⟨5, by decide, rfl⟩
    · exact ⟨6, by decide, rfl⟩
    · exact ⟨7, by decide, rfl⟩
    · exact ⟨8, by decide, rfl⟩
  · rintro ⟨j, hj, rfl⟩
    exact (by decide : ∀ j, j < 9 → zsgL.getD j 0 ∈ zsgL) j hj
end
section
variable {d : Nat} {Z : zZ} {I : zI} {J : zJ} {t u : Nat} {B : Nat → Nat} {L p n i e q : Nat}
/-- the bytes of the class's tape -/
def zBc (I : zI) (B : Nat → Nat) (L : Nat) : Prop := L ≤ 2000 ∧ ∀ i, i < L → B i < 256 ∧ I 1 i = nI (B i)
theorem zBc.at (h : zBc I B L) (hi : i < L) : zat I 1 2000 (nI i) = nI (B i) := by
  rw [zatI (by have := h.1; omega) (by decide)]; exact (h.2 i hi).2
theorem C_afterBlanks (hL : zLY Z t u) (h : zBc I B L) : ∀ i, i ≤ L → zE (d + 1) kX8_afterBlanks 0 [some (.ref 1), some (.int (nI i)), some (.int (nI L)), none] [] Z I J (some (.int (nI (zrn (zPbl B) L i))), Z, I, J) := by
  have hL2 := h.1
  have loop : ∀ i, i ≤ L → zE (d + 1) kX8_afterBlanks 2 [some (.ref 1), none, some (.int (nI L)), some (.int (nI i))] [] Z I J (some (.int (nI (zrn (zPbl B) L i))), Z, I, J) := by
    refine zloop _ _ ?_ ?_
    · exact BX8_afterBlanks_2 _ _ hL ⟨fun _ => by rw [zrn_f (fun q => absurd q (Nat.lt_irrefl _))], fun q => absurd (Int32.le_refl _) q⟩
    · intro i hi ih
      have hb := (h.2 i hi).1
      refine BX8_afterBlanks_2 _ _ hL ⟨fun q => ?_, fun _ => ?_⟩
      · exfalso; rw [zle' (by omega) (by omega)] at q; omega
      rw [h.at hi]
      refine ⟨fun q => ?_, fun q => ?_⟩
      · rw [zbi_eq0, zblk_iff hb] at q
        rw [zrn_f (fun _ => decide_eq_false q)]
      · rw [zbi_ne0, zblk_iff hb] at q
        rw [zrn_t hi (decide_eq_true q), zadd1]; exact ih
  exact fun i hi => BX8_afterBlanks_0 _ _ hL (loop i hi)
theorem C_tokenEnd (hL : zLY Z t u) (h : zBc I B L) (hp : p ≤ L) : zE (d + 1) kX8_tokenEnd 0 [some (.ref 1), some (.int (nI p)), some (.int (nI L)), none] [] Z I J (some (.int (nI (zte B L p))), Z, I, J) := by
  have hL2 := h.1
  have loopL : ∀ i, i ≤ L → zE (d + 1) kX8_tokenEnd 18 [some (.ref 1), none, some (.int (nI L)), some (.int (nI i))] [] Z I J (some (.int (nI (zrn (zPlt B) L i))), Z, I, J) := by
    refine zloop _ _ ?_ ?_
    · exact BX8_tokenEnd_18 _ _ hL ⟨fun _ => by rw [zrn_f (fun q => absurd q (Nat.lt_irrefl _))], fun q => absurd (Int32.le_refl _) q⟩
    · intro i hi ih
      have hb := (h.2 i hi).1
      refine BX8_tokenEnd_18 _ _ hL ⟨fun q => ?_, fun _ => ?_⟩
      · exfalso; rw [zle' (by omega) (by omega)] at q; omega
      rw [h.at hi]
      refine ⟨fun q => ?_, fun q => ?_⟩
      · rw [zbi_eq0, zltr_iff hb] at q
        rw [zrn_f (fun _ => decide_eq_false q)]
      · rw [zbi_ne0, zltr_iff hb] at q
        rw [zrn_t hi (decide_eq_true q), zadd1]; exact ih
  have loopD : ∀ i, i ≤ L → zE (d + 1) kX8_tokenEnd 58 [some (.ref 1), none, some (.int (nI L)), some (.int (nI i))] [] Z I J (some (.int (nI (zrn (zPdg B) L i))), Z, I, J) := by
    refine zloop _ _ ?_ ?_
    · exact BX8_tokenEnd_58 _ _ hL ⟨fun _ => by rw [zrn_f (fun q => absurd q (Nat.lt_irrefl _))], fun q => absurd (Int32.le_refl _) q⟩
    · intro i hi ih
      have hb := (h.2 i hi).1
      refine BX8_tokenEnd_58 _ _ hL ⟨fun q => ?_, fun _ => ?_⟩
      · exfalso; rw [zle' (by omega) (by omega)] at q; omega
      rw [h.at hi]
      refine ⟨fun q => ?_, fun q => ?_⟩
      · rw [zbi_eq0, zdgt_iff hb] at q
        rw [zrn_f (fun _ => decide_eq_false q)]
      · rw [zbi_ne0, zdgt_iff hb] at q
        rw [zrn_t hi (decide_eq_true q), zadd1]; exact ih
  by_cases hc : p < L
  · have hb := (h.2 p hc).1
    have hn : ¬ nI L ≤ nI p := by rw [zle' (by omega) (by omega)]; omega
    refine BX8_tokenEnd_0 _ _ hL ⟨fun q => absurd q hn, fun _ => ?_⟩
    rw [h.at hc]
    refine ⟨fun q => ⟨fun q2 => absurd q2 hn, fun _ => ⟨fun q2 => ⟨fun q3 => absurd q3 hn, fun _ => ?_⟩, fun q2 => ?_⟩⟩, fun q => ?_⟩
    · rw [zbi_eq0, zltr_iff hb] at q
      rw [zbi_eq0, zdgt_iff hb] at q2
      unfold zte
      rw [if_pos hc, if_neg (show ¬ zPlt B p = true from fun z => q (of_decide_eq_true z)), if_neg (show ¬ zPdg B p = true from fun z => q2 (of_decide_eq_true z)), zadd1]
    · rw [zbi_eq0, zltr_iff hb] at q
      rw [zbi_ne0, zdgt_iff hb] at q2
      unfold zte
      rw [if_pos hc, if_neg (show ¬ zPlt B p = true from fun z => q (of_decide_eq_true z)), if_pos (show zPdg B p = true from decide_eq_true q2)]
      exact loopD p hp
    · rw [zbi_ne0, zltr_iff hb] at q
      unfold zte
      rw [if_pos hc, if_pos (show zPlt B p = true from decide_eq_true q)]
      exact loopL p hp
  · have hn : nI L ≤ nI p := by rw [zle' (by omega) (by omega)]; omega
    unfold zte
    rw [if_neg hc]
    exact BX8_tokenEnd_0 _ _ hL ⟨fun _ => ⟨fun _ => ⟨fun _ => rfl, fun q => absurd hn q⟩, fun q => absurd hn q⟩, fun q => absurd hn q⟩
theorem zup32 {c b : Nat} (hb : 97 ≤ b) (hb2 : b < 256) : (lN c * 32) + ((nI b - 97) + 1).toInt64 = lN (32 * c + (b - 96)) := by
  rw [show (97 : Int32) = nI 97 from rfl, zsub hb, zadd1, nI_l (by omega), show (32 : Int64) = lN 32 from rfl, lN_mul, lN_add, show c * 32 + (b - 97 + 1) = 32 * c + (b - 96) by omega]
/-- the words' table of the class -/
def zKc (J : zJ) : Prop := ∀ k, k < 17 → J 25 k = lN (zk32 k)
theorem zk32_lt : ∀ k, k < 17 → zk32 k < 2 ^ 40 := by decide
theorem C_wordKind (hL : zLY Z t u) (h : zBc I B L) (hJ : zKc J) (he : p + n ≤ L) (hn : n ≤ 8) (hl : ∀ j, j < n → zPlt B (p + j) = true) (hq : q < 402) (h5 : I 20 5 = nI q) : zE (d + 1) kX8_wordKind 0 [some (.ref 20), some (.ref 1), some (.int (nI p)), some (.int (nI (p + n))), none, none, none] [] Z I J (some (.int (nI (zwf (zc32 B p n) 17 0))), Z, I, zu J 24 q (lN (zc32 B p n))) := by
  have hL2 := h.1
  have hx := zc32_b hn hl
  obtain ⟨J1, eJ⟩ : ∃ J1 : zJ, J1 = zu J 24 q (lN (zc32 B p n)) := ⟨_, rfl⟩
  rw [← eJ]
  have hJ1 : ∀ k, k < 17 → J1 25 k = lN (zk32 k) := fun k hk => by rw [eJ, zu_a (by decide)]; exact hJ k hk
  have tab : ∀ f k, k + f = 17 → zE (d + 1) kX8_wordKind 72 [some (.ref 20), none, none, none, some (.long (lN (zc32 B p n))), none, some (.int (nI k))] [] Z I J1 (some (.int (nI (zwf (zc32 B p n) f k))), Z, I, J1) := by
    intro f
    induction f with
    | zero =>
      intro k hk
      obtain rfl : k = 17 := by omega
      exact BX8_wordKind_72 _ _ hL ⟨fun _ => rfl, fun q => absurd (Int32.le_refl _) q⟩
    | succ f ih =>
      intro k hk
      have e : lg_cmp (J1 25 (nI k).toNatClampNeg) (lN (zc32 B p n)) = 0 ↔ zk32 k = zc32 B p n := by
        rw [zclm (by omega), hJ1 k (by omega), lg_cmp_eq, pk_lEQ (by have := zk32_lt k (by omega); omega) (by omega)]
      simp only [zwf]
      refine BX8_wordKind_72 _ _ hL ⟨fun q => ?_, fun _ => ⟨zvin (by omega) (by decide), fun q => ?_, fun q => ?_⟩⟩
      · exfalso
        have q' : nI 17 ≤ nI k := q
        rw [zle' (by decide) (by omega)] at q'; omega
      · rw [e] at q
        rw [if_neg q, zadd1]; exact ih (k + 1) (by omega)
      · rw [e] at q
        rw [if_pos q, show (128 : Int32) = nI 128 from rfl, zadd]
  have loop : ∀ k, k ≤ n → zE (d + 1) kX8_wordKind 6 [some (.ref 20), some (.ref 1), none, some (.int (nI (p + n))), some (.long (lN (zc32 B p k))), none, some (.int (nI (p + k)))] [] Z I J (some (.int (nI (zwf (zc32 B p n) 17 0))), Z, I, J1) := by
    refine zloop _ _ ?_ ?_
    · refine BX8_wordKind_6 _ _ _ hL ⟨fun _ => ⟨fun c0 => absurd (by rw [h5] at c0; exact c0) (zneg (a := q) (by omega)), fun _ => ⟨fun q => ?_, fun _ => ⟨by rw [h5]; exact zvin hq (by decide), fun J2 e2 => ?_⟩⟩⟩, fun q => absurd (Int32.le_refl _) q⟩
      · exfalso
        have q' : nI 402 ≤ I 20 5 := q
        rw [h5, zle' (by decide) (by omega)] at q'; omega
      · rw [h5, zclm (by omega), ← eJ] at e2
        rw [e2]; exact tab 17 0 rfl
    · intro k hk ih
      have hlk := hl k hk
      have hlk2 := of_decide_eq_true hlk
      refine BX8_wordKind_6 _ _ _ hL ⟨fun q => ?_, fun _ => ?_⟩
      · exfalso; rw [zle' (by omega) (by omega)] at q; omega
      · rw [h.at (by omega), zup32 hlk2.1 (by omega), zadd1]
        exact ih
  exact BX8_wordKind_0 _ _ hL (loop 0 (Nat.zero_le _))
theorem C_intKind (hL : zLY Z t u) (h : zBc I B L) (he : p + n ≤ L) (hl : ∀ j, j < n → zPdg B (p + j) = true) (hq : q < 402) (h5 : I 20 5 = nI q) : zE (d + 1) kX8_intKind 0 [some (.ref 20), some (.ref 1), some (.int (nI p)), some (.int (nI (p + n))), none, none] [] Z I J (some (.int 3), Z, zu I 23 q (nI (zc10 B p n)), J) := by
  have hL2 := h.1
  have loop : ∀ k, k ≤ n → zE (d + 1) kX8_intKind 6 [some (.ref 20), some (.ref 1), none, some (.int (nI (p + n))), some (.int (nI (zc10 B p k))), some (.int (nI (p + k)))] [] Z I J (some (.int 3), Z, zu I 23 q (nI (zc10 B p n)), J) := by
    refine zloop _ _ ?_ ?_
    · refine BX8_intKind_6 _ _ _ hL ⟨fun _ I1 e1 => ?_, fun q => absurd (Int32.le_refl _) q⟩
      rw [h5, zptI hq (by decide)] at e1
      rw [e1]
    · intro k hk ih
      have hlk := hl k hk
      have hlk2 := of_decide_eq_true hlk
      refine BX8_intKind_6 _ _ _ hL ⟨fun q => ?_, fun _ y ey => ?_⟩
      · exfalso; rw [zle' (by omega) (by omega)] at q; omega
      · rw [h.at (by omega), show (10 : Int32) = nI 10 from rfl, show (48 : Int32) = nI 48 from rfl, zsub hlk2.1, zmul, zadd, Nat.mul_comm] at ey
        rw [ey, zadd1]; exact ih
  exact BX8_intKind_0 _ _ hL (loop 0 (Nat.zero_le _))
end

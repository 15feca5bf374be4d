/-! TOKENS: the class's kinds, and all of them -/
section
variable {d : Nat} {Z : zZ} {I : zI} {J : zJ} {t u : Nat} {B : Nat → Nat} {L p n i e q : Nat}
theorem zwf_ne (x : Nat) : ∀ (f k : Nat), zwf x f k = 2 ∨ 128 ≤ zwf x f k := by
  intro f
  induction f with
  | zero => intro k; exact Or.inl rfl
  | succ f ih =>
    intro k
    simp only [zwf]
    split
    · right; omega
    · exact ih _
theorem zsg_ne {c : Nat} (h : c ∈ zsgL) : 40 ≤ c ∧ c ≤ 61 := (by decide : ∀ x ∈ zsgL, 40 ≤ x ∧ x ≤ 61) c h
theorem C_signs (hL : zLY Z t u) (hS : zSg I) {c : Nat} (hc : c < 256) {l4 : Option Value} {l6 : Option Value} : zE (d + 6) kX8_kindOf 72 [some (.ref 20), some (.ref 1), some (.int (nI p)), some (.int (nI e)), l4, some (.int (nI c)), l6] [] Z I J (some (.int (nI (if c ∈ zsgL then c else 1))), Z, I, J) := by
  have loop : ∀ i, i ≤ 9 → (∀ j, j < i → zsgL.getD j 0 ≠ c) → zE (d + 6) kX8_kindOf 75 [some (.ref 20), some (.ref 1), some (.int (nI p)), some (.int (nI e)), l4, some (.int (nI c)), some (.int (nI i))] [] Z I J (some (.int (nI (if c ∈ zsgL then c else 1))), Z, I, J) := by
    refine zloop _ _ ?_ ?_
    · intro hn
      rw [if_neg (fun z => by obtain ⟨j, h1, h2⟩ := zsg_mem.mp z; exact hn j h1 h2)]
      refine ex_step (pc' := 77) dX8_kindOf_75 rfl ?_
      refine ex_ldcs dX8_kindOf_77 ⟨rfl, Or.inr ⟨rfl, rfl⟩⟩ ?_
      refine ex_callK (as := []) (st := [.int (nI 9)]) dX8_kindOf_79 zmJ0_length_8abf5 zl_RX8_30 ziJ0_length_8abf5 zvJ0_length_8abf5 (Or.inr rfl) rfl (Nat.le_of_ble_eq_true rfl) (Nat.le_of_ble_eq_true rfl) (S_length (d := d + 4) (Or.inr rfl) (ly_rb6 hL) (by decide)) ?_
      refine ex_icmp (pc' := 106) dX8_kindOf_82 (by decide) (fun _ => ?_) (fun q => absurd (Int32.le_refl _) q)
      refine ex_step (pc' := 107) (st' := [.int 1]) dX8_kindOf_106 rfl ?_
      exact ex_ret (v := some (.int 1)) ⟨dX8_kindOf_107, _, rfl, rfl⟩
    · intro i hi ih hn
      have hb : I 1000006 i &&& 255 = nI (zsgL.getD i 0) := by
        rw [hS i hi]
        exact (by decide : ∀ i, i < 9 → (zbytS.getD 1 []).getD i 0 &&& 255 = nI (zsgL.getD i 0)) i hi
      have hb2 : zsgL.getD i 0 < 256 := (by decide : ∀ i, i < 9 → zsgL.getD i 0 < 256) i hi
      refine ex_step (pc' := 77) dX8_kindOf_75 rfl ?_
      refine ex_ldcs dX8_kindOf_77 ⟨rfl, Or.inr ⟨rfl, rfl⟩⟩ ?_
      refine ex_callK (as := []) (st := [.int (nI i)]) dX8_kindOf_79 zmJ0_length_8abf5 zl_RX8_30 ziJ0_length_8abf5 zvJ0_length_8abf5 (Or.inr rfl) rfl (Nat.le_of_ble_eq_true rfl) (Nat.le_of_ble_eq_true rfl) (S_length (d := d + 4) (Or.inr rfl) (ly_rb6 hL) (by decide)) ?_
      refine ex_icmp (pc' := 106) dX8_kindOf_82 (by decide) (fun q => ?_) (fun _ => ?_)
      · exfalso
        have q' : nI 9 ≤ nI i := q
        rw [zle' (by decide) (by omega)] at q'; omega
      refine ex_ldcs dX8_kindOf_85 ⟨rfl, Or.inr ⟨rfl, rfl⟩⟩ ?_
      refine ex_step (pc' := 89) dX8_kindOf_87 rfl ?_
      refine ex_callK (as := [.int (nI i)]) (st := []) dX8_kindOf_89 zmJ0_charAt_5068e zl_RX8_36 ziJ0_charAt_5068e zvJ0_charAt_5068e (Or.inr rfl) rfl (Nat.le_of_ble_eq_true rfl) (Nat.le_of_ble_eq_true rfl) (S_charAt (d := d + 2) (Or.inr rfl) (ly_rb6 hL) hi (by decide)) ?_
      rw [show (1000004 + 2 : Nat) = 1000006 from rfl, hb]
      refine ex_step (pc' := 94) dX8_kindOf_92 rfl ?_
      refine ex_icmp (pc' := 100) dX8_kindOf_94 (by decide) (fun g => ?_) (fun g => ?_)
      · have g' : ¬ nI (zsgL.getD i 0) = nI c := g
        rw [zeq (by omega) (by omega)] at g'
        refine ex_step (pc' := 103) (ls' := [some (.ref 20), some (.ref 1), some (.int (nI p)), some (.int (nI e)), l4, some (.int (nI c)), some (.int (nI i + 1))]) dX8_kindOf_100 rfl ?_
        refine ex_step (pc' := 75) dX8_kindOf_103 rfl ?_
        rw [zadd1]
        refine ih (fun j hj => ?_)
        by_cases e : j = i
        · rw [e]; exact g'
        · exact hn j (by omega)
      · have g' : nI (zsgL.getD i 0) = nI c := Classical.not_not.mp g
        rw [zeq (by omega) (by omega)] at g'
        rw [if_pos (zsg_mem.mpr ⟨i, hi, g'⟩)]
        refine ex_step (pc' := 99) dX8_kindOf_97 rfl ?_
        exact ex_ret (v := some (.int (nI c))) ⟨dX8_kindOf_99, _, rfl, rfl⟩
  refine ex_step (pc' := 73) (st' := [.int 0]) dX8_kindOf_72 rfl ?_
  refine ex_step (pc' := 75) (ls' := [some (.ref 20), some (.ref 1), some (.int (nI p)), some (.int (nI e)), l4, some (.int (nI c)), some (.int (nI 0))]) (st' := []) dX8_kindOf_73 rfl ?_
  exact loop 0 (by decide) (fun j hj => absurd hj (Nat.not_lt_zero _))
theorem C_kindOf (hL : zLY Z t u) (h : zBc I B L) (hJ : zKc J) (hS : zSg I) (hp : p ≤ L) (hq : q < 402) (h5 : I 20 5 = nI q) :
    ∃ I' J', zE (d + 6) kX8_kindOf 0 [some (.ref 20), some (.ref 1), some (.int (nI p)), some (.int (nI (zte B L p))), none, none, none] [] Z I J (some (.int (nI (zkn B p (zte B L p)))), Z, I', J') ∧ (zkn B p (zte B L p) = 3 → I' 23 q = nI (zc10 B p (zte B L p - p))) ∧ (zkn B p (zte B L p) = 2 → J' 24 q = lN (zc32 B p (zte B L p - p))) ∧ ((∀ a, a ≠ 23 → I' a = I a) ∧ ∀ j, j ≠ q → I' 23 j = I 23 j) ∧ (∀ a, a ≠ 24 → J' a = J a) ∧ ∀ j, j ≠ q → J' 24 j = J 24 j := by
  have hL2 := h.1
  obtain ⟨k1, k2, k3⟩ := zte_ok (B := B) hp
  obtain ⟨n, hn⟩ : ∃ n, zte B L p = p + n := ⟨zte B L p - p, by omega⟩
  have hn2 : p + n - p = n := by omega
  have hrun : zPlt B p = true → p < L → ∀ j, j < n → zPlt B (p + j) = true := fun g1 g2 j hj => by
    have : zte B L p = zrn (zPlt B) L p := by unfold zte; rw [if_pos g2, if_pos g1]
    exact (zrn_ok (P := zPlt B) (L := L) _ p rfl).2.2.1 (p + j) (by omega) (by omega)
  have hrunD : ¬ zPlt B p = true → zPdg B p = true → p < L → ∀ j, j < n → zPdg B (p + j) = true := fun g0 g1 g2 j hj => by
    have : zte B L p = zrn (zPdg B) L p := by unfold zte; rw [if_pos g2, if_neg g0, if_pos g1]
    exact (zrn_ok (P := zPdg B) (L := L) _ p rfl).2.2.1 (p + j) (by omega) (by omega)
  rw [hn] at k2 k3 ⊢
  rw [hn2]
  have e0 : nI (p + n) - nI p = nI n := by rw [zsub (by omega), hn2]
  have head : ∀ o : zO, (0 < n → zE (d + 6) kX8_kindOf 12 [some (.ref 20), some (.ref 1), some (.int (nI p)), some (.int (nI (p + n))), some (.int (nI n)), none, none] [] Z I J o) → (n = 0 → o = (some (.int 0), Z, I, J)) → zE (d + 6) kX8_kindOf 0 [some (.ref 20), some (.ref 1), some (.int (nI p)), some (.int (nI (p + n))), none, none, none] [] Z I J o := by
    intro o K K0
    refine ex_step (pc' := 1) dX8_kindOf_0 rfl ?_
    refine ex_step (pc' := 2) dX8_kindOf_1 rfl ?_
    refine ex_step (pc' := 3) (st' := [.int (nI (p + n) - nI p)]) dX8_kindOf_2 rfl ?_
    rw [e0]
    refine ex_step (pc' := 5) (ls' := [some (.ref 20), some (.ref 1), some (.int (nI p)), some (.int (nI (p + n))), some (.int (nI n)), none, none]) (st' := []) dX8_kindOf_3 rfl ?_
    refine ex_step (pc' := 7) dX8_kindOf_5 rfl ?_
    refine ex_if (pc' := 12) dX8_kindOf_7 (by decide) (fun c => ?_) (fun c => ?_)
    · have c' : nI 0 < nI n := c
      rw [zlt (by decide) (by omega)] at c'; exact K c'
    · have c' : ¬ nI 0 < nI n := c
      rw [zlt (by decide) (by omega)] at c'
      refine ex_step (pc' := 11) (st' := [.int 0]) dX8_kindOf_10 rfl ?_
      rw [K0 (by omega)]; exact ex_ret (v := some (.int 0)) ⟨dX8_kindOf_11, _, rfl, rfl⟩
  by_cases h0 : n = 0
  · have ek : zkn B p (p + n) = 0 := by unfold zkn; rw [if_pos (by omega)]
    rw [ek]
    exact ⟨I, J, head _ (fun c => by omega) (fun _ => rfl), fun c => absurd c (by decide), fun c => absurd c (by decide), ⟨fun _ _ => rfl, fun _ _ => rfl⟩, fun _ _ => rfl, fun _ _ => rfl⟩
  · have hpL : p < L := by omega
    have hb := (h.2 p hpL).1
    have nle : ¬ p + n ≤ p := by omega
    have mid : ∀ o : zO, (zPlt B p = true → zE (d + 6) kX8_kindOf 27 [some (.ref 20), some (.ref 1), some (.int (nI p)), some (.int (nI (p + n))), some (.int (nI n)), some (.int (nI (B p))), none] [] Z I J o) → (¬ zPlt B p = true → zPdg B p = true → zE (d + 6) kX8_kindOf 54 [some (.ref 20), some (.ref 1), some (.int (nI p)), some (.int (nI (p + n))), some (.int (nI n)), some (.int (nI (B p))), none] [] Z I J o) → (¬ zPlt B p = true → ¬ zPdg B p = true → zE (d + 6) kX8_kindOf 72 [some (.ref 20), some (.ref 1), some (.int (nI p)), some (.int (nI (p + n))), some (.int (nI n)), some (.int (nI (B p))), none] [] Z I J o) → zE (d + 6) kX8_kindOf 12 [some (.ref 20), some (.ref 1), some (.int (nI p)), some (.int (nI (p + n))), some (.int (nI n)), none, none] [] Z I J o := by
      intro o K1 K2 K3
      refine ex_step (pc' := 13) dX8_kindOf_12 rfl ?_
      refine ex_step (pc' := 14) dX8_kindOf_13 rfl ?_
      refine ex_callS (as := [.ref 1, .int (nI p)]) (st := []) dX8_kindOf_14 zmX11_at zl_RX8_60 zsX11_at rfl (Nat.le_of_ble_eq_true rfl) (Nat.le_of_ble_eq_true rfl) (S_at' (by decide) (ly_a1 hL)) ?_
      rw [h.at hpL]
      refine ex_step (pc' := 19) (ls' := [some (.ref 20), some (.ref 1), some (.int (nI p)), some (.int (nI (p + n))), some (.int (nI n)), some (.int (nI (B p))), none]) (st' := []) dX8_kindOf_17 rfl ?_
      refine ex_step (pc' := 21) dX8_kindOf_19 rfl ?_
      refine ex_callS (as := [.int (nI (B p))]) (st := []) dX8_kindOf_21 zmX8_isLetter zl_RX8_68 zsX8_isLetter rfl (Nat.le_of_ble_eq_true rfl) (Nat.le_of_ble_eq_true rfl) S_isLetter ?_
      refine ex_if (pc' := 46) dX8_kindOf_24 (by decide) (fun c => ?_) (fun c => ?_)
      · have c' : zbi (97 ≤ nI (B p) ∧ nI (B p) ≤ 122) = 0 := c
        rw [zbi_eq0, zltr_iff hb] at c'
        have n1 : ¬ zPlt B p = true := fun z => c' (of_decide_eq_true z)
        refine ex_step (pc' := 48) dX8_kindOf_46 rfl ?_
        refine ex_callS (as := [.int (nI (B p))]) (st := []) dX8_kindOf_48 zmX8_isDigit zl_RX8_71 zsX8_isDigit rfl (Nat.le_of_ble_eq_true rfl) (Nat.le_of_ble_eq_true rfl) S_isDigit ?_
        refine ex_if (pc' := 72) dX8_kindOf_51 (by decide) (fun c2 => ?_) (fun c2 => ?_)
        · have c2' : zbi (48 ≤ nI (B p) ∧ nI (B p) ≤ 57) = 0 := c2
          rw [zbi_eq0, zdgt_iff hb] at c2'
          exact K3 n1 (fun z => c2' (of_decide_eq_true z))
        · have c2' : ¬ zbi (48 ≤ nI (B p) ∧ nI (B p) ≤ 57) = 0 := c2
          rw [zbi_ne0, zdgt_iff hb] at c2'
          exact K2 n1 (decide_eq_true c2')
      · have c' : ¬ zbi (97 ≤ nI (B p) ∧ nI (B p) ≤ 122) = 0 := c
        rw [zbi_ne0, zltr_iff hb] at c'
        exact K1 (decide_eq_true c')
    by_cases g1 : zPlt B p = true
    · by_cases g2 : n ≤ 8
      · have ek : zkn B p (p + n) = zwf (zc32 B p n) 17 0 := by unfold zkn; rw [if_neg nle, if_pos g1, hn2, if_pos g2]
        rw [ek]
        refine ⟨I, zu J 24 q (lN (zc32 B p n)), head _ (fun _ => mid _ (fun _ => ?_) (fun z => absurd g1 z) (fun z => absurd g1 z)) (fun z => absurd z h0), fun c => ?_, fun _ => zu_eq, ⟨fun _ _ => rfl, fun _ _ => rfl⟩, fun a ha => zu_ne ha, fun j hj => zu_k hj⟩
        · refine ex_step (pc' := 29) dX8_kindOf_27 rfl ?_
          refine ex_step (pc' := 31) (st' := [.int 8, .int (nI n)]) dX8_kindOf_29 rfl ?_
          refine ex_icmp (pc' := 44) dX8_kindOf_31 (by decide) (fun c => ?_) (fun _ => ?_)
          · exfalso
            have c' : nI 8 < nI n := c
            rw [zlt (by decide) (by omega)] at c'; omega
          refine ex_step (pc' := 35) dX8_kindOf_34 rfl ?_
          refine ex_step (pc' := 36) dX8_kindOf_35 rfl ?_
          refine ex_step (pc' := 37) dX8_kindOf_36 rfl ?_
          refine ex_step (pc' := 38) dX8_kindOf_37 rfl ?_
          refine ex_callV (as := [.ref 1, .int (nI p), .int (nI (p + n))]) (st := []) (ci := 8) dX8_kindOf_38 zmX8_wordKind zl_RX8_74 ziX8_wordKind zvX8_wordKind (by decide) (ly_a20 hL) rfl (Nat.le_of_ble_eq_true rfl) (Nat.le_of_ble_eq_true rfl) (C_wordKind (d := d + 4) hL h hJ k2 g2 (hrun g1 hpL) hq h5) ?_
          refine ex_step (pc' := 45) dX8_kindOf_41 rfl ?_
          exact ex_ret (v := some (.int (nI (zwf (zc32 B p n) 17 0)))) ⟨dX8_kindOf_45, _, rfl, rfl⟩
        · have := zwf_ne (zc32 B p n) 17 0
          omega
      · have ek : zkn B p (p + n) = 1 := by unfold zkn; rw [if_neg nle, if_pos g1, hn2, if_neg g2]
        rw [ek]
        refine ⟨I, J, head _ (fun _ => mid _ (fun _ => ?_) (fun z => absurd g1 z) (fun z => absurd g1 z)) (fun z => absurd z h0), fun c => absurd c (by decide), fun c => absurd c (by decide), ⟨fun _ _ => rfl, fun _ _ => rfl⟩, fun _ _ => rfl, fun _ _ => rfl⟩
        refine ex_step (pc' := 29) dX8_kindOf_27 rfl ?_
        refine ex_step (pc' := 31) (st' := [.int 8, .int (nI n)]) dX8_kindOf_29 rfl ?_
        refine ex_icmp (pc' := 44) dX8_kindOf_31 (by decide) (fun _ => ?_) (fun c => ?_)
        · refine ex_step (pc' := 45) (st' := [.int 1]) dX8_kindOf_44 rfl ?_
          exact ex_ret (v := some (.int 1)) ⟨dX8_kindOf_45, _, rfl, rfl⟩
        · exfalso
          have c' : ¬ nI 8 < nI n := c
          rw [zlt (by decide) (by omega)] at c'; omega
    · by_cases g3 : zPdg B p = true
      · by_cases g2 : n ≤ 4
        · have ek : zkn B p (p + n) = 3 := by unfold zkn; rw [if_neg nle, if_neg g1, if_pos g3, hn2, if_pos g2]
          rw [ek]
          refine ⟨zu I 23 q (nI (zc10 B p n)), J, head _ (fun _ => mid _ (fun z => absurd z g1) (fun _ _ => ?_) (fun _ z => absurd g3 z)) (fun z => absurd z h0), fun _ => zu_eq, fun c => absurd c (by decide), ⟨fun a ha => zu_ne ha, fun j hj => zu_k hj⟩, fun _ _ => rfl, fun _ _ => rfl⟩
          refine ex_step (pc' := 56) dX8_kindOf_54 rfl ?_
          refine ex_step (pc' := 57) (st' := [.int 4, .int (nI n)]) dX8_kindOf_56 rfl ?_
          refine ex_icmp (pc' := 70) dX8_kindOf_57 (by decide) (fun c => ?_) (fun _ => ?_)
          · exfalso
            have c' : nI 4 < nI n := c
            rw [zlt (by decide) (by omega)] at c'; omega
          refine ex_step (pc' := 61) dX8_kindOf_60 rfl ?_
          refine ex_step (pc' := 62) dX8_kindOf_61 rfl ?_
          refine ex_step (pc' := 63) dX8_kindOf_62 rfl ?_
          refine ex_step (pc' := 64) dX8_kindOf_63 rfl ?_
          refine ex_callV (as := [.ref 1, .int (nI p), .int (nI (p + n))]) (st := []) (ci := 8) dX8_kindOf_64 zmX8_intKind zl_RX8_77 ziX8_intKind zvX8_intKind (by decide) (ly_a20 hL) rfl (Nat.le_of_ble_eq_true rfl) (Nat.le_of_ble_eq_true rfl) (C_intKind (d := d + 4) hL h k2 (hrunD g1 g3 hpL) hq h5) ?_
          refine ex_step (pc' := 71) dX8_kindOf_67 rfl ?_
          exact ex_ret (v := some (.int 3)) ⟨dX8_kindOf_71, _, rfl, rfl⟩
        · have ek : zkn B p (p + n) = 1 := by unfold zkn; rw [if_neg nle, if_neg g1, if_pos g3, hn2, if_neg g2]
          rw [ek]
          refine ⟨I, J, head _ (fun _ => mid _ (fun z => absurd z g1) (fun _ _ => ?_) (fun _ z => absurd g3 z)) (fun z => absurd z h0), fun c => absurd c (by decide), fun c => absurd c (by decide), ⟨fun _ _ => rfl, fun _ _ => rfl⟩, fun _ _ => rfl, fun _ _ => rfl⟩
          refine ex_step (pc' := 56) dX8_kindOf_54 rfl ?_
          refine ex_step (pc' := 57) (st' := [.int 4, .int (nI n)]) dX8_kindOf_56 rfl ?_
          refine ex_icmp (pc' := 70) dX8_kindOf_57 (by decide) (fun _ => ?_) (fun c => ?_)
          · refine ex_step (pc' := 71) (st' := [.int 1]) dX8_kindOf_70 rfl ?_
            exact ex_ret (v := some (.int 1)) ⟨dX8_kindOf_71, _, rfl, rfl⟩
          · exfalso
            have c' : ¬ nI 4 < nI n := c
            rw [zlt (by decide) (by omega)] at c'; omega
      · have ek : zkn B p (p + n) = if B p ∈ zsgL then B p else 1 := by unfold zkn; rw [if_neg nle, if_neg g1, if_neg g3]
        rw [ek]
        refine ⟨I, J, head _ (fun _ => mid _ (fun z => absurd z g1) (fun _ z => absurd z g3) (fun _ _ => C_signs hL hS hb)) (fun z => absurd z h0), fun c => ?_, fun c => ?_, ⟨fun _ _ => rfl, fun _ _ => rfl⟩, fun _ _ => rfl, fun _ _ => rfl⟩
        all_goals
          exfalso
          split at c
          · rename_i g
            have := zsg_ne g
            omega
          · exact absurd c (by decide)
/-- the class's tokens -/
def zTkc (I : zI) (J : zJ) (B : Nat → Nat) (L m : Nat) : Prop := ∀ i, i < m → (∀ j, j < i → 1 < zknd B L j) → (I 21 i = nI (zknd B L i) ∧ I 22 i = nI (zplc B L i)) ∧ (zknd B L i = 3 → I 23 i = nI (zvlu B L i)) ∧ (zknd B L i = 2 → J 24 i = lN (znam B L i))
theorem zknd_lt (hB : ∀ i, i < L → B i < 256) (i : Nat) : zknd B L i < 256 := by
  unfold zknd zkn
  have hw : ∀ (f k x : Nat), k + f = 17 → zwf x f k < 256 := by
    intro f
    induction f with
    | zero => intro k x _; exact (by decide : 2 < 256)
    | succ f ih =>
      intro k x hk
      simp only [zwf]
      split
      · omega
      · exact ih _ _ (by omega)
  split
  · decide
  · rename_i hc
    split
    · split
      · exact hw _ _ _ rfl
      · decide
    · split
      · split <;> decide
      · split
        · rename_i hm
          have := zsg_ne hm
          omega
        · decide
theorem C_split_loop (hL : zLY Z t u) : ∀ (f i kk : Nat) (I : zI) (J : zJ), i + f = 402 → zBc I B L → zKc J → zSg I → I 20 5 = nI i → kk < 256 → (kk ≤ 1 → ∃ j, j < i ∧ zknd B L j ≤ 1) → (1 < kk → ∀ j, j < i → 1 < zknd B L j) → zTkc I J B L i →
    ∃ I' J', zE (d + 7) kX8_split 13 [some (.ref 20), some (.ref 1), some (.int (nI L)), some (.int (nI (zpos B L i))), some (.int (nI kk)), some (.int (nI i)), none] [] Z I J (none, Z, I', J') ∧ zTkc I' J' B L 402 ∧ (∀ a, a ≠ 20 → a ≠ 21 → a ≠ 22 → a ≠ 23 → I' a = I a) ∧ ∀ a, a ≠ 24 → J' a = J a := by
  intro f
  induction f with
  | zero =>
    intro i kk I J hi hB hJ hS h5 hkk hk1 hk2 hT
    obtain rfl : i = 402 := by omega
    exact ⟨I, J, BX8_split_13 _ _ _ _ hL ⟨fun _ => rfl, fun q => absurd (by decide) q⟩, hT, fun _ _ _ _ _ => rfl, fun _ _ => rfl⟩
  | succ f ih =>
    intro i kk I J hi hB hJ hS h5 hkk hk1 hk2 hT
    have n4 : ¬ 401 < nI i := by rw [show (401 : Int32) = nI 401 from rfl, zlt (by decide) (by omega)]; omega
    by_cases hc : kk ≤ 1
    · obtain ⟨j, hj1, hj2⟩ := hk1 hc
      refine ⟨I, J, BX8_split_13 _ _ _ _ hL ⟨fun q => absurd q n4, fun _ => ⟨fun _ => rfl, fun q => absurd (by rw [show (1 : Int32) = nI 1 from rfl, zle' (by omega) (by decide)]; exact hc) q⟩⟩, fun m hm hg => ?_, fun _ _ _ _ _ => rfl, fun _ _ => rfl⟩
      by_cases e : m < i
      · exact hT m e hg
      · have := hg j (by omega); omega
    · have hgood := hk2 (by omega)
      have nk : ¬ nI kk ≤ 1 := by rw [show (1 : Int32) = nI 1 from rfl, zle' (by omega) (by decide)]; exact hc
      have hp := zplc_le (B := B) (L := L) i
      have hLL := hB.1
      obtain ⟨I4, J5, r1, r2, r3, ⟨r4, r5⟩, r6, r7⟩ := C_kindOf (d := d) hL hB hJ hS hp (q := i) (by omega) h5
      have ez : zte B L (zplc B L i) = zpos B L (i + 1) := rfl
      rw [ez] at r1 r2 r3
      have ek : zkn B (zplc B L i) (zpos B L (i + 1)) = zknd B L i := rfl
      rw [ek] at r1 r2 r3
      have hkn := zknd_lt (B := B) (L := L) (fun i hi => (hB.2 i hi).1) i
      have g5 : I4 20 5 = nI i := by rw [r4 20 (by decide)]; exact h5
      obtain ⟨I8, e8⟩ : ∃ I8 : zI, I8 = zu (zu (zu I4 21 i (nI (zknd B L i))) 22 i (nI (zplc B L i))) 20 5 (nI (i + 1)) := ⟨_, rfl⟩
      have fr : ∀ a, a ≠ 20 → a ≠ 21 → a ≠ 22 → a ≠ 23 → I8 a = I a := fun a p1 p2 p3 p4 => by rw [e8, zu_ne p1, zu_ne p3, zu_ne p2, r4 a p4]
      obtain ⟨I', J', s1, s2, s3, s4⟩ := ih (i + 1) (zknd B L i) I8 J5 (by omega) ⟨hLL, fun j hj => by rw [fr 1 (by decide) (by decide) (by decide) (by decide)]; exact hB.2 j hj⟩ (fun k hk => by rw [r6 25 (by decide)]; exact hJ k hk) (hS.same (fr _ (by decide) (by decide) (by decide) (by decide))) (by rw [e8, zu_eq]) hkn (fun q => ⟨i, by omega, q⟩) (fun q j hj => by
          by_cases e : j = i
          · rw [e]; exact q
          · exact hgood j (by omega)) (fun m hm hg => by
          have c21 : I8 21 m = if m = i then nI (zknd B L i) else I 21 m := by
            rw [e8, zu_ne (by decide), zu_ne (by decide)]
            by_cases e : m = i
            · rw [if_pos e, e, zu_eq]
            · rw [if_neg e, zu_k e, r4 21 (by decide)]
          have c22 : I8 22 m = if m = i then nI (zplc B L i) else I 22 m := by
            rw [e8, zu_ne (by decide)]
            by_cases e : m = i
            · rw [if_pos e, e, zu_eq]
            · rw [if_neg e, zu_k e, zu_ne (by decide), r4 22 (by decide)]
          have c23 : I8 23 = I4 23 := by rw [e8, zu_ne (by decide), zu_ne (by decide), zu_ne (by decide)]
          rw [c21, c22, c23]
          by_cases e : m = i
          · subst e
            rw [if_pos rfl, if_pos rfl]
            exact ⟨⟨rfl, rfl⟩, r2, r3⟩
          · rw [if_neg e, if_neg e, r5 m e, r7 m e]
            exact hT m (by omega) hg)
      refine ⟨I', J', BX8_split_13 _ _ _ _ hL ⟨fun q => absurd q n4, fun _ => ⟨fun q => absurd q nk, fun _ => ⟨nI (zplc B L i), C_afterBlanks (d := d + 5) hL hB _ (zpos_le i), nI (zpos B L (i + 1)), C_tokenEnd (d := d + 5) hL hB hp, nI (zknd B L i), I4, J5, r1, fun I6 e6 I7 e7 I9 e9 => ?_⟩⟩⟩, s2, fun a p1 p2 p3 p4 => by rw [s3 a p1 p2 p3 p4, fr a p1 p2 p3 p4], fun a p => by rw [s4 a p, r6 a p]⟩
      rw [g5, zptI (by omega) (by decide)] at e6
      have g6 : I6 20 5 = nI i := by rw [e6, zu_ne (by decide)]; exact g5
      rw [g6, zptI (by omega) (by decide), e6] at e7
      have g7 : I7 20 5 = nI i := by rw [e7, zu_ne (by decide), zu_ne (by decide)]; exact g5
      rw [g7, zadd1, e7, ← e8] at e9
      rw [e9, zadd1]
      exact s1
theorem C_split (hL : zLY Z t u) (hB : zBc I B L) (hJ : zKc J) (hS : zSg I) : ∃ I' J', zE (d + 7) kX8_split 0 [some (.ref 20), some (.ref 1), some (.int (nI L)), none, none, none, none] [] Z I J (none, Z, I', J') ∧ zTkc I' J' B L 402 ∧ (∀ a, a ≠ 20 → a ≠ 21 → a ≠ 22 → a ≠ 23 → I' a = I a) ∧ ∀ a, a ≠ 24 → J' a = J a := by
  obtain ⟨I', J', s1, s2, s3, s4⟩ := C_split_loop (d := d) (B := B) (L := L) hL 402 0 2 (zu I 20 5 0) J (by decide) ⟨hB.1, fun j hj => by rw [zu_ne (by decide)]; exact hB.2 j hj⟩ hJ (hS.same (zu_ne (by decide))) (by rw [zu_eq]; rfl) (by decide) (fun q => absurd q (by decide)) (fun _ j hj => absurd hj (Nat.not_lt_zero _)) (fun m hm => absurd hm (Nat.not_lt_zero _))
  exact ⟨I', J', BX8_split_0 _ hL (fun I1 e1 => by rw [e1]; exact s1), s2, fun a p1 p2 p3 p4 => by rw [s3 a p1 p2 p3 p4, zu_ne p1], s4⟩
end

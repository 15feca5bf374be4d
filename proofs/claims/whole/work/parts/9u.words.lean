/-! the table of words and the reader: what they lay -/
def zwuf (f : Nat → Int64) (x : Nat) (w : Int64) : Nat → Int64 := fun j => if j = x then w else f j
/-- the words' table: the bytes that are left, the word that is next, its letters so far -/
def zkwl : List Int32 → Nat → Int64 → (Nat → Int64) → (Nat → Int64)
  | [], _, _, f => f
  | c :: t, x, w, f => if c &&& 255 = 32 then (if x < 17 then zkwl t (x + 1) 0 (zwuf f x w) else zkwl t x w f) else zkwl t x (w * 32 + (((c &&& 255) - 97) + 1).toInt64) f
theorem zkwl_all : ∀ k, k < 17 → zkwl (zbytS.getD 0 []) 0 0 (fun _ => 0) k = lN (zk32 k) := by decide +kernel
theorem zbytS_80 : (zbytS.getD 0 []).length = 80 := by decide +kernel
theorem zML_rb {sh : List (Nat × Nat)} {rf : List (Nat × Nat × Nat)} {L : Nat} (h : sh.length ≤ 1000000) : zrb (zML L sh rf) 1000005 80 ∧ zrb (zML L sh rf) 1000006 9 := by
  have none : ∀ {sh : List (Nat × Nat)} {a : Nat}, sh.length ≤ a → zAsh sh a = none := by
    intro sh
    induction sh with
    | nil => intro a _; rfl
    | cons x t ih =>
      intro a h
      simp only [List.length_cons] at h
      unfold zAsh
      rw [if_neg (by omega)]
      exact ih (by omega)
  refine ⟨⟨Or.inl rfl, ?_⟩, ⟨Or.inr rfl, ?_⟩⟩
  · show (zAsh sh 1000005).getD _ = _
    rw [none (by omega)]; rfl
  · show (zAsh sh 1000006).getD _ = _
    rw [none (by omega)]; rfl
section
variable {d L a : Nat} {sh : List (Nat × Nat)} {rf : List (Nat × Nat × Nat)} {I : zI} {J J0 : zJ}
theorem K_words (hA : zAl sh rf I J0 (a + 6)) (ha : a < 900000) (hs : zAsh sh a = some (0, 8)) (hw : zAsh sh (a + 5) = some (2, 17)) (hr : zAlk rf a 4 = some (a + 5)) {BS : List Int32} (hB : BS.length = 80) (hI : ∀ j, j < 80 → I 1000005 j = BS.getD j 0) : ∀ (t : List Int32) (i : Nat), i + t.length = 80 → BS.drop i = t → ∀ (x : Nat) (w : Int64) (J : zJ), x ≤ 17 → ∃ J', zE (d + 7) kX8_init 55 [some (.ref a), some (.int (nI x)), some (.long w), none, some (.int (nI i))] [] (zML L sh rf) I J (none, zML L sh rf, I, J') ∧ J' (a + 5) = zkwl t x w (J (a + 5)) ∧ ∀ b, b ≠ a + 5 → J' b = J b := by
  have hb5 : zrb (zML L sh rf) (1000003 + 2) 80 := (zML_rb (by have := hA.1; omega)).1
  intro t
  induction t with
  | nil =>
    intro i hi hd x w J hx
    obtain rfl : i = 80 := by simpa using hi
    refine ⟨J, ?_, rfl, fun _ _ => rfl⟩
    refine ex_step (pc' := 57) dX8_init_55 rfl ?_
    refine ex_ldcs dX8_init_57 ⟨rfl, Or.inl ⟨rfl, rfl⟩⟩ ?_
    refine ex_callK (as := []) (st := [.int (nI 80)]) dX8_init_59 zmJ0_length_8abf5 zl_RX8_30 ziJ0_length_8abf5 zvJ0_length_8abf5 (Or.inl rfl) rfl (Nat.le_of_ble_eq_true rfl) (Nat.le_of_ble_eq_true rfl) (S_length (d := d + 5) (Or.inl rfl) hb5 (by decide)) ?_
    refine ex_icmp (pc' := 127) dX8_init_62 (by decide) (fun _ => ?_) (fun q => absurd (Int32.le_refl _) q)
    exact ex_ret (v := none) ⟨dX8_init_127, rfl⟩
  | cons c t ih =>
    intro i hi hd x w J hx
    simp only [List.length_cons] at hi
    have hi80 : i < 80 := by omega
    have hdr : BS.drop (i + 1) = t := by
      rw [← List.tail_drop, hd]; rfl
    have hc : BS.getD i 0 = c := by
      have h0 : (BS.drop i)[0]? = some c := by rw [hd]; rfl
      rw [List.getElem?_drop, Nat.add_zero] at h0
      rw [List.getD_eq_getElem?_getD, h0]; rfl
    have hx0 : (0 : Int32) ≤ nI x := znn (by omega)
    have char : ∀ (pc : Nat) (st : List Value), zE (d + 6) kJ0_charAt_5068e 0 [some (.ref 1000003), some (.int (nI i))] [] (zML L sh rf) I J (some (.int (c &&& 255)), zML L sh rf, I, J) := fun _ _ => by
      have := S_charAt (d := d + 3) (J := J) (I := I) (Or.inl rfl) hb5 hi80 (by decide)
      rw [show (1000003 + 2 : Nat) = 1000005 from rfl, hI i hi80, hc] at this
      exact this
    suffices H : ∀ (x' : Nat) (w' : Int64) (J1 : zJ), x' ≤ 17 → (∀ b, b ≠ a + 5 → J1 b = J b) → zkwl (c :: t) x w (J (a + 5)) = zkwl t x' w' (J1 (a + 5)) → (∀ o, zE (d + 7) kX8_init 121 [some (.ref a), some (.int (nI x')), some (.long w'), none, some (.int (nI i))] [] (zML L sh rf) I J1 o → zE (d + 7) kX8_init 55 [some (.ref a), some (.int (nI x)), some (.long w), none, some (.int (nI i))] [] (zML L sh rf) I J o) → ∃ J', zE (d + 7) kX8_init 55 [some (.ref a), some (.int (nI x)), some (.long w), none, some (.int (nI i))] [] (zML L sh rf) I J (none, zML L sh rf, I, J') ∧ J' (a + 5) = zkwl (c :: t) x w (J (a + 5)) ∧ ∀ b, b ≠ a + 5 → J' b = J b by
      have head : ∀ o, (¬ c &&& 255 = 32 → zE (d + 7) kX8_init 77 [some (.ref a), some (.int (nI x)), some (.long w), none, some (.int (nI i))] [] (zML L sh rf) I J o) → (c &&& 255 = 32 → zE (d + 7) kX8_init 100 [some (.ref a), some (.int (nI x)), some (.long w), none, some (.int (nI i))] [] (zML L sh rf) I J o) → zE (d + 7) kX8_init 55 [some (.ref a), some (.int (nI x)), some (.long w), none, some (.int (nI i))] [] (zML L sh rf) I J o := fun o h1 h2 => by
        refine ex_step (pc' := 57) dX8_init_55 rfl ?_
        refine ex_ldcs dX8_init_57 ⟨rfl, Or.inl ⟨rfl, rfl⟩⟩ ?_
        refine ex_callK (as := []) (st := [.int (nI i)]) dX8_init_59 zmJ0_length_8abf5 zl_RX8_30 ziJ0_length_8abf5 zvJ0_length_8abf5 (Or.inl rfl) rfl (Nat.le_of_ble_eq_true rfl) (Nat.le_of_ble_eq_true rfl) (S_length (d := d + 5) (Or.inl rfl) hb5 (by decide)) ?_
        refine ex_icmp (pc' := 127) dX8_init_62 (by decide) (fun q => ?_) (fun _ => ?_)
        · exfalso
          have q' : nI 80 ≤ nI i := q
          rw [zle' (by decide) (by omega)] at q'; omega
        refine ex_ldcs dX8_init_65 ⟨rfl, Or.inl ⟨rfl, rfl⟩⟩ ?_
        refine ex_step (pc' := 69) dX8_init_67 rfl ?_
        refine ex_callK (as := [.int (nI i)]) (st := []) dX8_init_69 zmJ0_charAt_5068e zl_RX8_36 ziJ0_charAt_5068e zvJ0_charAt_5068e (Or.inl rfl) rfl (Nat.le_of_ble_eq_true rfl) (Nat.le_of_ble_eq_true rfl) (char 69 []) ?_
        refine ex_step (pc' := 74) (st' := [.int 32, .int (c &&& 255)]) dX8_init_72 rfl ?_
        exact ex_icmp (pc' := 100) dX8_init_74 (by decide) (fun q => h2 q) (fun q => h1 q)
      by_cases e : c &&& 255 = 32
      · by_cases e17 : x < 17
        · refine H (x + 1) 0 (zu J (a + 5) x w) (by omega) (fun b hb => zu_ne hb) ?_ (fun o ho => head o (fun q => absurd e q) (fun _ => ?_))
          · show (if c &&& 255 = 32 then (if x < 17 then zkwl t (x + 1) 0 (zwuf (J (a + 5)) x w) else zkwl t x w (J (a + 5))) else _) = _
            rw [if_pos e, if_pos e17]
            congr 1
            funext j
            exact (zu_at (I := J) (a := a + 5) (k := x) (j := j) (v := w)).symm
          · refine ex_step (pc' := 101) dX8_init_100 rfl ?_
            refine ex_step (pc' := 102) dX8_init_101 rfl ?_
            refine ex_getr dX8_init_102 wf_RX8_25 (hA.is (by omega) hs) rfl hr ?_
            refine ex_alen dX8_init_105 (Or.inl ⟨hA.is (by omega) hw, by decide, by decide⟩) ?_
            refine ex_icmp (pc' := 121) dX8_init_106 (by decide) (fun q => ?_) (fun _ => ?_)
            · exfalso
              have q' : nI 17 ≤ nI x := q
              rw [zle' (by decide) (by omega)] at q'; omega
            refine ex_step (pc' := 110) dX8_init_109 rfl ?_
            refine ex_getr dX8_init_110 wf_RX8_25 (hA.is (by omega) hs) rfl hr ?_
            refine ex_step (pc' := 114) dX8_init_113 rfl ?_
            refine ex_step (pc' := 115) dX8_init_114 rfl ?_
            refine ex_last dX8_init_115 (hA.is (by omega) hw) (zvin e17 (by decide)) ?_
            rw [zclm (show x < 2147483648 by omega)]
            refine ex_step (pc' := 119) (ls' := [some (.ref a), some (.int (nI x + 1)), some (.long w), none, some (.int (nI i))]) dX8_init_116 rfl ?_
            rw [zadd1]
            refine ex_step (pc' := 120) (st' := [.long 0]) dX8_init_119 rfl ?_
            refine ex_step (pc' := 121) (ls' := [some (.ref a), some (.int (nI (x + 1))), some (.long 0), none, some (.int (nI i))]) (st' := []) dX8_init_120 rfl ?_
            exact ho
        · refine H x w J hx (fun _ _ => rfl) ?_ (fun o ho => head o (fun q => absurd e q) (fun _ => ?_))
          · show (if c &&& 255 = 32 then (if x < 17 then zkwl t (x + 1) 0 (zwuf (J (a + 5)) x w) else zkwl t x w (J (a + 5))) else _) = _
            rw [if_pos e, if_neg e17]
          · refine ex_step (pc' := 101) dX8_init_100 rfl ?_
            refine ex_step (pc' := 102) dX8_init_101 rfl ?_
            refine ex_getr dX8_init_102 wf_RX8_25 (hA.is (by omega) hs) rfl hr ?_
            refine ex_alen dX8_init_105 (Or.inl ⟨hA.is (by omega) hw, by decide, by decide⟩) ?_
            refine ex_icmp (pc' := 121) dX8_init_106 (by decide) (fun _ => ho) (fun q => ?_)
            exfalso
            have q' : ¬ nI 17 ≤ nI x := q
            rw [zle' (by decide) (by omega)] at q'; omega
      · refine H x (w * 32 + (((c &&& 255) - 97) + 1).toInt64) J hx (fun _ _ => rfl) ?_ (fun o ho => head o (fun _ => ?_) (fun q => absurd q e))
        · show (if c &&& 255 = 32 then (if x < 17 then zkwl t (x + 1) 0 (zwuf (J (a + 5)) x w) else zkwl t x w (J (a + 5))) else _) = _
          rw [if_neg e]
        · refine ex_step (pc' := 78) dX8_init_77 rfl ?_
          refine ex_ldc2 dX8_init_78 zk_RX8_40 ?_
          refine ex_step (pc' := 82) (st' := [.long (w * 32)]) dX8_init_81 rfl ?_
          refine ex_ldcs dX8_init_82 ⟨rfl, Or.inl ⟨rfl, rfl⟩⟩ ?_
          refine ex_step (pc' := 86) dX8_init_84 rfl ?_
          refine ex_callK (as := [.int (nI i)]) (st := [.long (w * 32)]) dX8_init_86 zmJ0_charAt_5068e zl_RX8_36 ziJ0_charAt_5068e zvJ0_charAt_5068e (Or.inl rfl) rfl (Nat.le_of_ble_eq_true rfl) (Nat.le_of_ble_eq_true rfl) (char 86 []) ?_
          refine ex_step (pc' := 91) (st' := [.int 97, .int (c &&& 255), .long (w * 32)]) dX8_init_89 rfl ?_
          refine ex_step (pc' := 92) (st' := [.int ((c &&& 255) - 97), .long (w * 32)]) dX8_init_91 rfl ?_
          refine ex_step (pc' := 93) (st' := [.int 1, .int ((c &&& 255) - 97), .long (w * 32)]) dX8_init_92 rfl ?_
          refine ex_step (pc' := 94) (st' := [.int (((c &&& 255) - 97) + 1), .long (w * 32)]) dX8_init_93 rfl ?_
          refine ex_step (pc' := 95) (st' := [.long (((c &&& 255) - 97) + 1).toInt64, .long (w * 32)]) dX8_init_94 rfl ?_
          refine ex_step (pc' := 96) (st' := [.long (w * 32 + (((c &&& 255) - 97) + 1).toInt64)]) dX8_init_95 rfl ?_
          refine ex_step (pc' := 97) (ls' := [some (.ref a), some (.int (nI x)), some (.long (w * 32 + (((c &&& 255) - 97) + 1).toInt64)), none, some (.int (nI i))]) (st' := []) dX8_init_96 rfl ?_
          refine ex_step (pc' := 121) dX8_init_97 rfl ?_
          exact ho
    intro x' w' J1 hx' hJ1 hz hstep
    obtain ⟨J', g1, g2, g3⟩ := ih (i + 1) (by omega) hdr x' w' J1 hx'
    refine ⟨J', hstep _ ?_, g2.trans hz.symm, fun b hb => (g3 b hb).trans (hJ1 b hb)⟩
    refine ex_step (pc' := 124) (ls' := [some (.ref a), some (.int (nI x')), some (.long w'), none, some (.int (nI i + 1))]) dX8_init_121 rfl ?_
    rw [zadd1]
    exact ex_step (pc' := 55) dX8_init_124 rfl g1
def zsX8 : List (Nat × Nat) := [(2, 17), (2, 402), (1, 402), (1, 402), (1, 402)]
def zrX8 (a : Nat) : List (Nat × Nat × Nat) := [(a, 4, a + 5), (a, 3, a + 4), (a, 2, a + 3), (a, 1, a + 2), (a, 0, a + 1)]
theorem K_X8 (hA : zAl sh rf I J (a + 1)) (hs : zAsh sh a = some (0, 8)) (hb : a < 900000) (hI : ∀ j, j < 80 → I 1000005 j = (zbytS.getD 0 []).getD j 0) : ∃ J', zE (d + 7) kX8_init 0 [some (.ref a), none, none, none, none] [] (zML L sh rf) I J (none, zML L (zsX8 ++ sh) (zrX8 a ++ rf), I, J') ∧ zAl (zsX8 ++ sh) (zrX8 a ++ rf) I J' (a + 6) ∧ (∀ k, k < 17 → J' (a + 5) k = lN (zk32 k)) ∧ ∀ b, b ≠ a + 5 → J' b = J b := by
  have A0 := hA
  have s0 := hs
  have A1 := A0.new (s := (1, 402))
  have s1 := zAsh_c (x := (1, 402)) s0
  have A2 := A1.put (f := 0) (b := a + 1) (a := a) (by omega)
  have s2 := s1
  have A3 := A2.new (s := (1, 402))
  have s3 := zAsh_c (x := (1, 402)) s2
  have A4 := A3.put (f := 1) (b := a + 2) (a := a) (by omega)
  have s4 := s3
  have A5 := A4.new (s := (1, 402))
  have s5 := zAsh_c (x := (1, 402)) s4
  have A6 := A5.put (f := 2) (b := a + 3) (a := a) (by omega)
  have s6 := s5
  have A7 := A6.new (s := (2, 402))
  have s7 := zAsh_c (x := (2, 402)) s6
  have A8 := A7.put (f := 3) (b := a + 4) (a := a) (by omega)
  have s8 := s7
  have A9 := A8.new (s := (2, 17))
  have s9 := zAsh_c (x := (2, 17)) s8
  have A10 := A9.put (f := 4) (b := a + 5) (a := a) (by omega)
  have s10 := s9
  have AF : zAl (zsX8 ++ sh) (zrX8 a ++ rf) I J (a + 6) := A10
  obtain ⟨J', g1, g2, g3⟩ := K_words (d := d) (L := L) AF hb (zAsh_app hs zsX8) (zAsh_n A8.1) (by show zAlk ((a, 4, a + 5) :: _) a 4 = _; unfold zAlk; rw [if_pos ⟨rfl, rfl⟩]) zbytS_80 hI (zbytS.getD 0 []) 0 (by rw [zbytS_80]) (List.drop_zero) 0 0 J (by decide)
  have z5 : J (a + 5) = fun _ => 0 := hA.2.2.2 _ (by omega) (by omega)
  refine ⟨J', ?_, ⟨AF.1, AF.2.1, AF.2.2.1, fun b p r => (g3 b (by omega)).trans (AF.2.2.2 b p r)⟩, fun k hk => by rw [g2, z5]; exact zkwl_all k hk, g3⟩
  refine ex_step (pc' := 1) dX8_init_0 rfl ?_
  refine ex_obj (by omega) dX8_init_1 zl_RX8_3 (Nat.le_of_ble_eq_true rfl) ?_
  refine ex_step (pc' := 5) dX8_init_4 rfl ?_
  refine ex_step (pc' := 8) (st' := [.int 402, .ref a]) dX8_init_5 rfl ?_
  refine al_newa (kd := 1) (N := 402) A0 (by omega) dX8_init_8 za_int rfl (by decide) (by decide) (by decide) (by decide) ?_
  refine al_putr A1 (by omega) dX8_init_10 (wp_RX8_9 _ rfl) s1 rfl ?_
  refine ex_step (pc' := 14) dX8_init_13 rfl ?_
  refine ex_step (pc' := 17) (st' := [.int 402, .ref a]) dX8_init_14 rfl ?_
  refine al_newa (kd := 1) (N := 402) A2 (by omega) dX8_init_17 za_int rfl (by decide) (by decide) (by decide) (by decide) ?_
  refine al_putr A3 (by omega) dX8_init_19 (wp_RX8_15 _ rfl) s3 rfl ?_
  refine ex_step (pc' := 23) dX8_init_22 rfl ?_
  refine ex_step (pc' := 26) (st' := [.int 402, .ref a]) dX8_init_23 rfl ?_
  refine al_newa (kd := 1) (N := 402) A4 (by omega) dX8_init_26 za_int rfl (by decide) (by decide) (by decide) (by decide) ?_
  refine al_putr A5 (by omega) dX8_init_28 (wp_RX8_18 _ rfl) s5 rfl ?_
  refine ex_step (pc' := 32) dX8_init_31 rfl ?_
  refine ex_step (pc' := 35) (st' := [.int 402, .ref a]) dX8_init_32 rfl ?_
  refine al_newa (kd := 2) (N := 402) A6 (by omega) dX8_init_35 za_long rfl (by decide) (by decide) (by decide) (by decide) ?_
  refine al_putr A7 (by omega) dX8_init_37 (wp_RX8_21 _ rfl) s7 rfl ?_
  refine ex_step (pc' := 41) dX8_init_40 rfl ?_
  refine ex_step (pc' := 43) (st' := [.int 17, .ref a]) dX8_init_41 rfl ?_
  refine al_newa (kd := 2) (N := 17) A8 (by omega) dX8_init_43 za_long rfl (by decide) (by decide) (by decide) (by decide) ?_
  refine al_putr A9 (by omega) dX8_init_45 (wp_RX8_25 _ rfl) s9 rfl ?_
  refine ex_step (pc' := 49) (st' := [.int 0]) dX8_init_48 rfl ?_
  refine ex_step (pc' := 50) (ls' := [some (.ref a), some (.int (nI 0)), none, none, none]) (st' := []) dX8_init_49 rfl ?_
  refine ex_step (pc' := 51) (st' := [.long 0]) dX8_init_50 rfl ?_
  refine ex_step (pc' := 52) (ls' := [some (.ref a), some (.int (nI 0)), some (.long 0), none, none]) (st' := []) dX8_init_51 rfl ?_
  refine ex_step (pc' := 53) (st' := [.int 0]) dX8_init_52 rfl ?_
  refine ex_step (pc' := 55) (ls' := [some (.ref a), some (.int (nI 0)), some (.long 0), none, some (.int (nI 0))]) (st' := []) dX8_init_53 rfl ?_
  exact g1
end

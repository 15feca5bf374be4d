/-! the reference: a town, a day; LONG, LEFT, GOES -/
def zenv (x y mi le lo ra : Int32) : Nat → Int32 := fun i => if i = 0 then x else if i = 1 then y else if i = 2 then mi else if i = 3 then le else if i = 4 then lo else ra
def zlotv (s w n : Int32) : Int32 := ((zstir (zstir s 28) w).toUInt32 >>> (Int32.toUInt32 1 &&& Int32.toUInt32 31)).toInt32 - ((zstir (zstir s 28) w).toUInt32 >>> (Int32.toUInt32 1 &&& Int32.toUInt32 31)).toInt32 / n * n
/-- held to 0 .. 60 -/
def zhold (v : Int32) : Int32 := if 0 ≤ v then (if v ≤ 60 then v else 60) else 0
theorem zhold_nI (v : Int32) : ∃ k, k ≤ 60 ∧ zhold v = nI k := by
  unfold zhold
  split
  · rename_i h
    split
    · rename_i h2
      obtain ⟨j, hj, rfl⟩ := znI_ex v (Int32.not_lt.mpr h)
      exact ⟨j, by rw [show (60 : Int32) = nI 60 from rfl, zle' hj (by decide)] at h2; exact h2, rfl⟩
    · exact ⟨60, by decide, rfl⟩
  · exact ⟨0, by decide, rfl⟩
/-- LONG by a LAW -/
def zlgv (o : Option zLaw) (x y ra : Int32) : Int32 := match o with
  | none => 30
  | some w => zhold (zlw (zenv x y 0 0 0 ra) w)
/-- GOES by a LAW -/
def zgov (o : Option zLaw) (x y mi le lo ra : Int32) : Int32 := if 0 ≤ zlo (zenv x y mi le lo ra) o then zlo (zenv x y mi le lo ra) o - zlo (zenv x y mi le lo ra) o / 6 * 6 else 0
/-- τ: a town. τ 0: men, WIDE, DEEP, SEED, pillars; τ 1, 2 doors; 3 dye; 4 how many errands; 5, 6 errands (6 a man); 7, 8 pillars; 9 LONG. Λ: the LAWS, GOES of each, LONG's the 7th -/
def zTW (τ : Nat → Nat → Nat) (Λ : Nat → Option zLaw) : Prop :=
  (τ 0 0 ≤ 7 ∧ 2 ≤ τ 0 1 ∧ τ 0 1 ≤ 12 ∧ 2 ≤ τ 0 2 ∧ τ 0 2 ≤ 12 ∧ τ 0 3 ≤ 9999 ∧ τ 0 4 ≤ 6) ∧ (∀ m, m < τ 0 0 → τ 1 m < τ 0 1 ∧ τ 2 m < τ 0 2 ∧ τ 3 m ≤ 9 ∧ τ 4 m ≤ 6 ∧ τ 9 m ≤ 60 ∧ zlgv (Λ 7) (nI (τ 1 m)) (nI (τ 2 m)) (nI m) = nI (τ 9 m)) ∧
  (∀ m i, m < τ 0 0 → i < τ 4 m → τ 5 (6 * m + i) < τ 0 1 ∧ τ 6 (6 * m + i) < τ 0 2) ∧ (∀ i, i < τ 0 4 → τ 7 i ≤ 10 ∧ τ 8 i ≤ 10) ∧ ∀ m w, m ≤ 7 → Λ m = some w → zlwOK w
/-- the reference's text in place, on side v -/
def zMT (I : zI) (v : Nat) (τ : Nat → Nat → Nat) (Λ : Nat → Option zLaw) : Prop :=
  (v < 2 ∧ I 420 18 = nI v) ∧ (I 431 v = nI (τ 0 0) ∧ I 429 v = nI (τ 0 1) ∧ I 430 v = nI (τ 0 2) ∧ I 441 v = nI (τ 0 3) ∧ I 438 v = nI (τ 0 4)) ∧
  (∀ m, m < τ 0 0 → I 432 (7 * v + m) = nI (τ 1 m) ∧ I 433 (7 * v + m) = nI (τ 2 m) ∧ I 434 (7 * v + m) = nI (τ 3 m) ∧ I 435 (7 * v + m) = nI (τ 4 m)) ∧
  (∀ m i, m < τ 0 0 → i < τ 4 m → I 436 (42 * v + 6 * m + i) = nI (τ 5 (6 * m + i)) ∧ I 437 (42 * v + 6 * m + i) = nI (τ 6 (6 * m + i))) ∧
  (∀ i, i < τ 0 4 → I 439 (6 * v + i) = nI (τ 7 i) ∧ I 440 (6 * v + i) = nI (τ 8 i)) ∧ (∀ m, m < τ 0 0 → zLM I (8 * v + m) (Λ m)) ∧ zLM I (8 * v + 7) (Λ 7)
/-- a row of the reference's -/
def zRM (I : zI) (a off : Nat) (ρ : Nat → Nat) : Prop := ∀ k, k < 1290 → I a (off + k) = nI (ρ k)
def zRB (ρ : Nat → Nat) : Prop := ∀ k, k < 1290 → ρ k < 1000000000
theorem zMT.same {I I' : zI} {v : Nat} {τ : Nat → Nat → Nat} {Λ : Nat → Option zLaw} (h : zMT I v τ Λ) (h1 : I' 420 18 = I 420 18) (h2 : ∀ a, 429 ≤ a → a ≤ 453 → I' a = I a) : zMT I' v τ Λ := by
  obtain ⟨⟨a1, a2⟩, ⟨b1, b2, b3, b4, b5⟩, c1, c2, c3, c4, c5⟩ := h
  refine ⟨⟨a1, h1.trans a2⟩, ⟨?_, ?_, ?_, ?_, ?_⟩, fun m hm => ?_, fun m i hm hi => ?_, fun i hi => ?_, fun m hm => zLM_same (fun a _ _ => h2 a (by omega) (by omega)) (c4 m hm), zLM_same (fun a _ _ => h2 a (by omega) (by omega)) c5⟩
  · rw [h2 431 (by decide) (by decide)]; exact b1
  · rw [h2 429 (by decide) (by decide)]; exact b2
  · rw [h2 430 (by decide) (by decide)]; exact b3
  · rw [h2 441 (by decide) (by decide)]; exact b4
  · rw [h2 438 (by decide) (by decide)]; exact b5
  · rw [h2 432 (by decide) (by decide), h2 433 (by decide) (by decide), h2 434 (by decide) (by decide), h2 435 (by decide) (by decide)]; exact c1 m hm
  · rw [h2 436 (by decide) (by decide), h2 437 (by decide) (by decide)]; exact c2 m i hm hi
  · rw [h2 439 (by decide) (by decide), h2 440 (by decide) (by decide)]; exact c3 i hi
/-- what the evaluation of LAWS may write -/
abbrev zfl (I I' : zI) : Prop := zfm [455, 456] [54] I I'
theorem zMT.fl {I I' : zI} {v : Nat} {τ : Nat → Nat → Nat} {Λ : Nat → Option zLaw} (h : zMT I v τ Λ) (hf : zfl I I') : zMT I' v τ Λ :=
  h.same (hf.2 18 (by decide)) (fun a h1 h2 => hf.1 a (by omega) (by simp; omega))
theorem zfl.row {I I' : zI} (h : zfl I I') {a : Nat} (h1 : a ≠ 420) (h2 : a ≠ 455) (h3 : a ≠ 456) : I' a = I a := h.1 a h1 (by simp; exact ⟨h2, h3⟩)
theorem zlof {I I' : zI} (h : zfm [456] [54] I I') : zfl I I' := h.mono (by decide) (by decide)
section
variable {d : Nat} {Z : zZ} {J : zJ} {t u : Nat} {τ : Nat → Nat → Nat} {Λ : Nat → Option zLaw}
theorem M_lotOf {I : zI} {s w n : Int32} (hn : ¬ n = 0) : zE (d + 1) kX12_lotOf 0 [some (.int s), some (.int w), some (.int n)] [] Z I J (some (.int (zlotv s w n)), Z, I, J) := BX12_lotOf_0 _ _ _ ⟨hn, rfl⟩
set_option maxHeartbeats 1000000 in
theorem M_longOf_loop (hL : zLY Z t u) {v : Nat} (hW : zTW τ Λ) {m : Nat} (hm : m < τ 0 0) {w : zLaw} (hw : Λ 7 = some w) : ∀ i, i ≤ 6 → ∀ I : zI, zMT I v τ Λ → (∀ j, j < i → I 455 j = 0) →
    ∃ I', zE (d + 2) kX12_longOf 31 [some (.ref 420), some (.int (nI m)), some (.int (nI (8 * v + 7))), some (.int (nI i))] [] Z I J (some (.int (nI (τ 9 m))), Z, I', J) ∧ zfl I I' := by
  refine zloop _ 6 ?_ ?_
  · intro I hM h0
    obtain ⟨⟨a1, a2⟩, -, c1, -, -, -, c5⟩ := id hM
    have h7 := hW.1.1
    obtain ⟨d1, d2, -, -⟩ := c1 m hm
    have ei : ((7 : Int32) * (I 420 18)) + nI m = nI (7 * v + m) := by rw [a2, show (7 : Int32) = nI 7 from rfl, zmul, zadd]
    have hvi : vp_in (nI (7 * v + m)) 14 := zvin (by omega) (by decide)
    have hci : (nI (7 * v + m)).toNatClampNeg = 7 * v + m := zclm (by omega)
    have hv : zlgv (Λ 7) (nI (τ 1 m)) (nI (τ 2 m)) (nI m) = nI (τ 9 m) := (hW.2.1 m hm).2.2.2.2.2
    -- the row of variables
    have hM3 : zMT (zu (zu (zu I 455 0 (nI (τ 1 m))) 455 1 (nI (τ 2 m))) 455 5 (nI m)) v τ Λ := hM.fl (((zfm.put (by decide) (by decide)).tr (zfm.put (by decide) (by decide))).tr (zfm.put (by decide) (by decide)))
    obtain ⟨I', h1, h2⟩ := M_tellsBy (d := d) (J := J) (p := 8 * v + 7) hL (by omega) (zLM_same (fun a _ _ => zu_ne (by omega)) (zLM_same (fun a _ _ => zu_ne (by omega)) (zLM_same (fun a _ _ => zu_ne (by omega)) c5)) : zLM (zu (zu (zu I 455 0 (nI (τ 1 m))) 455 1 (nI (τ 2 m))) 455 5 (nI m)) (8 * v + 7) (Λ 7))
    have hval : zlo (zu (zu (zu I 455 0 (nI (τ 1 m))) 455 1 (nI (τ 2 m))) 455 5 (nI m) 455) (Λ 7) = zlw (zenv (nI (τ 1 m)) (nI (τ 2 m)) 0 0 0 (nI m)) w := by
      rw [hw]
      refine zlw_congr (fun i hi => ?_) (hW.2.2.2.2 7 w (by decide) hw)
      obtain rfl | rfl | rfl | rfl | rfl | rfl : i = 0 ∨ i = 1 ∨ i = 2 ∨ i = 3 ∨ i = 4 ∨ i = 5 := by omega
      · simp [zu_if, zenv]
      · simp [zu_if, zenv]
      · simp [zu_if, zenv, h0]
      · simp [zu_if, zenv, h0]
      · simp [zu_if, zenv, h0]
      · simp [zu_if, zenv]
    rw [hval] at h1
    have hh : zhold (zlw (zenv (nI (τ 1 m)) (nI (τ 2 m)) 0 0 0 (nI m)) w) = nI (τ 9 m) := by rw [← hv, hw]; rfl
    refine ⟨I', BX12_longOf_31 _ _ _ hL ⟨fun _ => ⟨by rw [ei]; exact hvi, fun I1 e1 => ?_⟩, fun q => absurd (by decide) q⟩, (((zfm.put (by decide) (by decide)).tr (zfm.put (by decide) (by decide))).tr (zfm.put (by decide) (by decide))).tr (zlof h2)⟩
    rw [ei, hci, d1] at e1
    subst e1
    have e18 : zu I 455 0 (nI (τ 1 m)) 420 18 = I 420 18 := zu_a (by decide)
    refine ⟨by rw [e18, ei]; exact hvi, fun I2 e2 => ?_⟩
    rw [e18, ei, hci, zu_a (by decide), d2] at e2
    subst e2
    intro I3 e3
    subst e3
    refine ⟨_, I', h1, fun q0 => ⟨fun q60 => ?_, fun q60 => ?_⟩, fun q0 => ?_⟩
    · rw [← hh]; unfold zhold; rw [if_pos q0, if_pos q60]
    · rw [← hh]; unfold zhold; rw [if_pos q0, if_neg q60]
    · rw [← hh]; unfold zhold; rw [if_neg q0]
  · intro i hi ih I hM h0
    obtain ⟨I', h1, h2⟩ := ih (zu I 455 i 0) (hM.fl (zfm.put (by decide) (by decide))) (fun j hj => by
      by_cases q : j = i
      · rw [q, zu_eq]
      · rw [zu_k q]; exact h0 j (by omega))
    refine ⟨I', BX12_longOf_31 _ _ _ hL ⟨fun q => ?_, fun _ => ⟨zvin hi (by decide), fun I6 e6 => ?_⟩⟩, (zfm.put (by decide) (by decide)).tr h2⟩
    · rw [show (6 : Int32) = nI 6 from rfl, zle' (by decide) (by omega)] at q; omega
    · rw [zclm (by omega)] at e6
      subst e6
      rw [zadd1]; exact h1
/-- LONG -/
theorem M_longOf (hL : zLY Z t u) {I : zI} {v : Nat} (hW : zTW τ Λ) (hM : zMT I v τ Λ) {m : Nat} (hm : m < τ 0 0) :
    ∃ I', zE (d + 2) kX12_longOf 0 [some (.ref 420), some (.int (nI m)), none, none] [] Z I J (some (.int (nI (τ 9 m))), Z, I', J) ∧ zfl I I' := by
  obtain ⟨⟨a1, a2⟩, -, c1, -, -, -, c5⟩ := id hM
  have ey : ((8 : Int32) * (I 420 18)) + 7 = nI (8 * v + 7) := by rw [a2, show (8 : Int32) = nI 8 from rfl, zmul, show (7 : Int32) = nI 7 from rfl, zadd]
  have hvy : vp_in (nI (8 * v + 7)) 16 := zvin (by omega) (by decide)
  have hcy : (nI (8 * v + 7)).toNatClampNeg = 8 * v + 7 := zclm (by omega)
  cases hw : Λ 7 with
  | none =>
    rw [hw] at c5
    have h' : I 445 (8 * v + 7) = I 446 (8 * v + 7) := c5
    have hv : zlgv (Λ 7) (nI (τ 1 m)) (nI (τ 2 m)) (nI m) = nI (τ 9 m) := (hW.2.1 m hm).2.2.2.2.2
    rw [hw] at hv
    refine ⟨I, BX12_longOf_0 _ hL (fun y e => ?_), zfm.rf⟩
    rw [ey] at e
    subst e
    refine ⟨hvy, hvy, fun q => ?_, fun _ => ?_⟩
    · rw [hcy] at q; exact absurd h' q
    · rw [← hv]; rfl
  | some w =>
    obtain ⟨I', h1, h2⟩ := M_longOf_loop (d := d) (J := J) (v := v) hL hW hm hw 0 (by decide) I hM (fun j hj => absurd hj (by omega))
    rw [hw] at c5
    obtain ⟨⟨b, q1, q2, q3, q4⟩, -⟩ := c5
    refine ⟨I', BX12_longOf_0 _ hL (fun y e => ?_), h2⟩
    rw [ey] at e
    subst e
    refine ⟨hvy, hvy, fun _ => h1, fun q => ?_⟩
    rw [hcy, q1, q2, zeq (by omega) (by omega)] at q
    omega
/-- PIECES LEFT -/
theorem M_leftOf (hL : zLY Z t u) {I : zI} {v : Nat} (hW : zTW τ Λ) (hM : zMT I v τ Λ) {ρ : Nat → Nat} (hR : zRM I 458 0 ρ) {m : Nat} (hm : m < τ 0 0) (hle : ρ (14 + m) ≤ τ 9 m) :
    ∃ I', zE (d + 3) kX12_leftOf 0 [some (.ref 420), some (.int (nI m))] [] Z I J (some (.int (nI (τ 9 m - ρ (14 + m)))), Z, I', J) ∧ zfl I I' := by
  obtain ⟨I', h1, h2⟩ := M_longOf (d := d) (J := J) hL hW hM hm
  have h7 := hW.1.1
  have e14 : (14 : Int32) + nI m = nI (14 + m) := by rw [show (14 : Int32) = nI 14 from rfl, zadd]
  refine ⟨I', BX12_leftOf_0 _ hL ⟨_, I', h1, by rw [e14]; exact zvin (by omega) (by decide), ?_⟩, h2⟩
  have hr : I' 458 (14 + m) = nI (ρ (14 + m)) := by rw [h2.row (by decide) (by decide) (by decide)]; have := hR (14 + m) (by omega); rwa [Nat.zero_add] at this
  rw [e14, zclm (by omega), hr, zsub hle]
set_option maxHeartbeats 1000000 in
/-- GOES: λ the minute of each man's start -/
theorem M_goesOf (hL : zLY Z t u) {I : zI} {v : Nat} (hW : zTW τ Λ) (hM : zMT I v τ Λ) {ρ : Nat → Nat} (hR : zRM I 458 0 ρ) {m lm : Nat} (hm : m < τ 0 0) (hle : ρ (14 + m) ≤ τ 9 m) (hlm : I 459 m = nI lm) (hlr : lm ≤ ρ 28) :
    ∃ I', zE (d + 4) kX12_goesOf 0 [some (.ref 420), some (.int (nI m)), none, none, none] [] Z I J (some (.int (zgov (Λ m) (nI (ρ m)) (nI (ρ (7 + m))) (nI (ρ 28 - lm)) (nI (τ 9 m - ρ (14 + m))) (zlotv (nI (τ 0 3)) (nI (8 * (ρ 28 - lm) + m)) 100) (nI m))), Z, I', J) ∧ zfl I I' := by
  obtain ⟨I3, h1, h2⟩ := M_leftOf (d := d) (J := J) hL hW hM hR hm hle
  obtain ⟨⟨a1, a2⟩, ⟨-, -, -, b4, -⟩, -, -, -, c4, -⟩ := id (hM.fl h2)
  have h7 := hW.1.1
  have e7 : (7 : Int32) + nI m = nI (7 + m) := by rw [show (7 : Int32) = nI 7 from rfl, zadd]
  have r0 : ∀ k, k < 1290 → I 458 k = nI (ρ k) := fun k hk => by have := hR k hk; rwa [Nat.zero_add] at this
  have r3 : ∀ k, k < 1290 → I3 458 k = nI (ρ k) := fun k hk => by rw [h2.row (by decide) (by decide) (by decide)]; exact r0 k hk
  have hcm : (nI m).toNatClampNeg = m := zclm (by omega)
  generalize hI7 : zu (zu (zu (zu I3 455 0 (nI (ρ m))) 455 1 (nI (ρ (7 + m)))) 455 2 (nI (ρ 28 - lm))) 455 3 (nI (τ 9 m - ρ (14 + m))) = I7
  have hf7 : zfl I3 I7 := by rw [← hI7]; exact (((zfm.put (by decide) (by decide)).tr (zfm.put (by decide) (by decide))).tr (zfm.put (by decide) (by decide))).tr (zfm.put (by decide) (by decide))
  generalize hlo : zlotv (nI (τ 0 3)) (nI (8 * (ρ 28 - lm) + m)) 100 = lo
  generalize hI10 : zu (zu I7 455 4 lo) 455 5 (nI m) = I10
  have hf10 : zfl I7 I10 := by rw [← hI10]; exact (zfm.put (by decide) (by decide)).tr (zfm.put (by decide) (by decide))
  have hM10 : zMT I10 v τ Λ := ((hM.fl h2).fl hf7).fl hf10
  obtain ⟨I12, g1, g2⟩ := M_tellsBy (d := d + 2) (J := J) (p := 8 * v + m) hL (by omega) (hM10.2.2.2.2.2.1 m hm)
  have hval : zlo (I10 455) (Λ m) = zlo (zenv (nI (ρ m)) (nI (ρ (7 + m))) (nI (ρ 28 - lm)) (nI (τ 9 m - ρ (14 + m))) lo (nI m)) (Λ m) := by
    cases hw : Λ m with
    | none => rfl
    | some w =>
      refine zlw_congr (fun i hi => ?_) (hW.2.2.2.2 m w (by omega) hw)
      subst hI10; subst hI7
      obtain rfl | rfl | rfl | rfl | rfl | rfl : i = 0 ∨ i = 1 ∨ i = 2 ∨ i = 3 ∨ i = 4 ∨ i = 5 := by omega
      all_goals simp [zu_if, zenv]
  rw [hval] at g1
  generalize hV : zlo (zenv (nI (ρ m)) (nI (ρ (7 + m))) (nI (ρ 28 - lm)) (nI (τ 9 m - ρ (14 + m))) lo (nI m)) (Λ m) = V at g1
  have e8 : ((8 : Int32) * (I10 420 18)) + nI m = nI (8 * v + m) := by rw [hM10.1.2, show (8 : Int32) = nI 8 from rfl, zmul, zadd]
  refine ⟨I12, BX12_goesOf_0 _ hL ⟨zvin (by omega) (by decide), fun y1 e1 => ⟨_, I3, h1, zvin (by omega) (by decide), fun I4 e4 => ⟨by rw [e7]; exact zvin (by omega) (by decide), fun I5 e5 I6 e6 I7' e7' => ⟨?_, lo, ?_, fun I9 e9 I10' e10 => ⟨V, I12, ?_, fun q => ?_, fun q => ?_⟩⟩⟩⟩⟩, ((h2.tr hf7).tr hf10).tr (zlof g2)⟩
  all_goals rw [hcm, hlm, r0 28 (by decide), zsub hlr] at e1
  all_goals subst e1
  all_goals rw [hcm, r3 m (by omega)] at e4
  all_goals subst e4
  all_goals rw [e7, zclm (by omega), zu_a (by decide), r3 (7 + m) (by omega)] at e5
  all_goals subst e5
  all_goals subst e6
  all_goals rw [hI7] at e7'
  all_goals subst e7'
  · rw [((hM.fl h2).fl hf7).1.2]; exact zvin a1 (by decide)
  · have hMM := ((hM.fl h2).fl hf7)
    rw [hMM.1.2, zclm (by omega), hMM.2.1.2.2.2.1, show ((8 : Int32) * nI (ρ 28 - lm)) + nI m = nI (8 * (ρ 28 - lm) + m) by rw [show (8 : Int32) = nI 8 from rfl, zmul, zadd], ← hlo]
    exact M_lotOf (by decide)
  all_goals subst e9
  all_goals rw [hI10] at e10
  all_goals subst e10
  · rw [e8]; exact g1
  · unfold zgov; rw [hV, if_pos q]
  · unfold zgov; rw [hV, if_neg q]
end

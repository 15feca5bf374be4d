/-! the reference's reader: what it has read; TOWN, SEED -/
def zwid (a : Nat) : Nat := if a = 429 ∨ a = 430 ∨ a = 431 ∨ a = 438 ∨ a = 441 then 1 else if a ≤ 435 then 7 else if a ≤ 437 then 42 else if a ≤ 440 then 6 else if a ≤ 446 then 8 else if a ≤ 451 then 130 else 420
/-- what the reference's reader may write, on side s -/
def zfS (s : Nat) (I I' : zI) : Prop := (∀ a, a ≠ 420 → ¬ (429 ≤ a ∧ a ≤ 454) → I' a = I a) ∧ (∀ k, k ∉ [11, 12, 13, 14, 15, 16, 20, 35, 41, 47, 51] → I' 420 k = I 420 k) ∧ ∀ a, 429 ≤ a → a ≤ 453 → ¬ (442 ≤ a ∧ a ≤ 444) → ∀ j, (j < zwid a * s ∨ zwid a * s + zwid a ≤ j) → I' a j = I a j
theorem zfS.rf {s : Nat} {I : zI} : zfS s I I := ⟨fun _ _ _ => rfl, fun _ _ => rfl, fun _ _ _ _ _ _ => rfl⟩
theorem zfS.tr {s : Nat} {I I' I'' : zI} (h1 : zfS s I I') (h2 : zfS s I' I'') : zfS s I I'' := ⟨fun a p q => (h2.1 a p q).trans (h1.1 a p q), fun k p => (h2.2.1 k p).trans (h1.2.1 k p), fun a p q r j z => (h2.2.2 a p q r j z).trans (h1.2.2 a p q r j z)⟩
theorem zf4.S {s : Nat} {F : List Nat} {I I' : zI} (h : zf4 F I I') (hF : ∀ k ∈ F, k ∈ [11, 12, 13, 14, 15, 16, 20, 35, 41, 47, 51]) : zfS s I I' := ⟨fun a p _ => h.1 a p, fun k hk => h.2 k (fun q => hk (hF k q)), fun a p q r j _ => by rw [h.1 a (by omega)]⟩
theorem zfS.put {s a j n : Nat} {I : zI} {v : Int32} (ha : 429 ≤ a) (ha2 : a ≤ 453) (hn : zwid a = n) (h1 : n * s ≤ j) (h2 : j < n * s + n) : zfS s I (zu I a j v) := ⟨fun x p q => zu_ne (by omega), fun k _ => by rw [zu_ne (by omega)], fun x p q r i z => by
  by_cases e : x = a
  · subst e; rw [hn] at z; exact zu_k (by omega)
  · rw [zu_ne e]⟩
theorem zfS.putc {s a j : Nat} {I : zI} {v : Int32} (ha : 442 ≤ a) (ha2 : a ≤ 444) : zfS s I (zu I a j v) := ⟨fun x p q => zu_ne (by omega), fun k _ => by rw [zu_ne (by omega)], fun x p q r i z => by rw [zu_ne (by omega)]⟩
theorem zwid_8 : zwid 445 = 8 ∧ zwid 446 = 8 := by decide
theorem zwid_130 : ∀ a, 447 ≤ a → a ≤ 451 → zwid a = 130 := fun a p q => by unfold zwid; rw [if_neg (by omega), if_neg (by omega), if_neg (by omega), if_neg (by omega), if_neg (by omega), if_pos q]
theorem zfW.S {s b c : Nat} {I I' : zI} (h : zfW s b c I I') : zfS s I I' := by
  refine ⟨fun a p q => h.1 a p (by omega), fun k hk => h.2.1 k (fun q => hk ((by decide : ∀ x ∈ [11, 12, 13, 14, 41, 47, 51], x ∈ [11, 12, 13, 14, 15, 16, 20, 35, 41, 47, 51]) k q)), fun a p q r j z => ?_⟩
  by_cases c1 : a < 445
  · rw [h.1 a (by omega) (by omega)]
  · by_cases c2 : a ≤ 446
    · have e : a = 445 ∨ a = 446 := by omega
      rcases e with rfl | rfl
      · rw [zwid_8.1] at z; exact (h.2.2.2.2 j (by omega)).1
      · rw [zwid_8.2] at z; exact (h.2.2.2.2 j (by omega)).2
    · by_cases c3 : a ≤ 451
      · rw [zwid_130 a (by omega) c3] at z; exact h.2.2.1 a (by omega) c3 j (by omega)
      · have e : a = 452 ∨ a = 453 := by omega
        have z2 : zwid 452 = 420 ∧ zwid 453 = 420 := by decide
        rcases e with rfl | rfl
        · rw [z2.1] at z; exact (h.2.2.2.1 j (by omega)).1
        · rw [z2.2] at z; exact (h.2.2.2.1 j (by omega)).2
/-- where a LAW lies in the reference -/
def zLh (I : zI) (s br cd p : Nat) (o : Option zLaw) : Prop := match o with
  | none => I 445 (8 * s + p) = I 446 (8 * s + p)
  | some w => zlwOK w ∧ ∃ b0, I 445 (8 * s + p) = nI b0 ∧ I 446 (8 * s + p) = nI (b0 + w.1.length + 1) ∧ b0 + w.1.length + 1 ≤ 260 ∧ zmlv I (130 * s) (130 * s + br) (420 * s) (420 * s + cd) b0 w.1 w.2
/-- the reference's text on side s -/
def zMX (I : zI) (s br cd : Nat) (τ : Nat → Nat → Nat) (Λ : Nat → Option zLaw) : Prop :=
  (τ 0 0 ≤ 7 ∧ τ 0 4 ≤ 6 ∧ ∀ m, m < τ 0 0 → τ 4 m ≤ 6) ∧
  (I 431 s = nI (τ 0 0) ∧ I 429 s = nI (τ 0 1) ∧ I 430 s = nI (τ 0 2) ∧ I 441 s = nI (τ 0 3) ∧ I 438 s = nI (τ 0 4)) ∧
  (∀ m, m < τ 0 0 → I 432 (7 * s + m) = nI (τ 1 m) ∧ I 433 (7 * s + m) = nI (τ 2 m) ∧ I 434 (7 * s + m) = nI (τ 3 m) ∧ I 435 (7 * s + m) = nI (τ 4 m)) ∧
  (∀ m, τ 0 0 ≤ m → m < 7 → I 434 (7 * s + m) = 0 ∧ I 435 (7 * s + m) = 0) ∧
  (∀ m i, m < τ 0 0 → i < τ 4 m → I 436 (42 * s + 6 * m + i) = nI (τ 5 (6 * m + i)) ∧ I 437 (42 * s + 6 * m + i) = nI (τ 6 (6 * m + i))) ∧
  (∀ i, i < τ 0 4 → I 439 (6 * s + i) = nI (τ 7 i) ∧ I 440 (6 * s + i) = nI (τ 8 i)) ∧
  ∀ p, p < 8 → zLh I s br cd p (Λ p)
/-- the corners that it keeps -/
def zMcn (I : zI) (T : Nat) (τ : Nat → Nat → Nat) (cn : Nat) (C : Nat → Nat × Nat × Nat) : Prop := (I 420 35 = nI cn ∧ cn = τ 0 0 + zsum (τ 4) 0 (τ 0 0)) ∧ ∀ i, i < cn → ((C i).1 ≤ 9999 ∧ (C i).2.1 ≤ 9999 ∧ (C i).2.2 < T) ∧ I 442 i = nI (C i).1 ∧ I 443 i = nI (C i).2.1 ∧ I 444 i = nI (C i).2.2
def zMo (I : zI) (J : zJ) (s : Nat) (K W X : Nat → Nat) (t : Nat) (τ : Nat → Nat → Nat) (Λ : Nat → Option zLaw) (N : Nat → Nat) (cn : Nat) (C : Nat → Nat × Nat × Nat) : Prop := ∃ br cd, (4 * br ≤ t ∧ cd ≤ t ∧ I 420 41 = nI (130 * s + br) ∧ I 420 47 = nI (420 * s + cd) ∧ I 420 12 = 0) ∧ zMX I s br cd τ Λ ∧ zMnm I J K W X (τ 0 0) N ∧ zMcn I t τ cn C
/-- where the reference's reader stands, and what it has read -/
def zMS (I : zI) (J : zJ) (s : Nat) (K P W X : Nat → Nat) (st : zPs) : Prop := zMc I K P st.1 st.2.1 ∧ (I 420 19 = nI s ∧ zDr I ∧ ∃ br, br ≤ 130 ∧ I 420 41 = nI (130 * s + br)) ∧ ∀ t, st.1 = .ok t → zMo I J s K W X t st.2.2.1 st.2.2.2.1 st.2.2.2.2.1 st.2.2.2.2.2.1 st.2.2.2.2.2.2
section
variable {d : Nat} {Z : zZ} {I I' : zI} {J J' : zJ} {t u s t0 T T' cn br cd : Nat} {K P V W X N : Nat → Nat} {τ τ' : Nat → Nat → Nat} {Λ Λ' : Nat → Option zLaw} {C : Nat → Nat × Nat × Nat} {wo : Option (Nat × Nat)} {r : zRt}
theorem zLh.same {br' cd' p : Nat} {o : Option zLaw} (h : zLh I s br cd p o) (h1 : ∀ a, 445 ≤ a → a ≤ 446 → I' a (8 * s + p) = I a (8 * s + p)) (h2 : ∀ a, 447 ≤ a → a ≤ 451 → ∀ j, j < 130 * s + br → I' a j = I a j) (h3 : ∀ a, 452 ≤ a → a ≤ 453 → ∀ j, j < 420 * s + cd → I' a j = I a j) (hb : br ≤ br') (hc : cd ≤ cd') : zLh I' s br' cd' p o := by
  cases o with
  | none => show I' 445 _ = I' 446 _; rw [h1 445 (by decide) (by decide), h1 446 (by decide) (by decide)]; exact h
  | some w =>
    obtain ⟨g1, b0, g2, g3, g4, g5⟩ := h
    exact ⟨g1, b0, by rw [h1 445 (by decide) (by decide)]; exact g2, by rw [h1 446 (by decide) (by decide)]; exact g3, g4, zmlv_mono (by omega) (by omega) _ _ _ (zmlv_agree (fun a p q j _ y => h2 a p q j y) (fun a p q j _ y => h3 a p q j y) _ _ _ g5)⟩
theorem zLh.rows {p : Nat} {o : Option zLaw} (h : zLh I s br cd p o) (h1 : ∀ a, 445 ≤ a → a ≤ 453 → I' a = I a) : zLh I' s br cd p o := h.same (fun a p q => by rw [h1 a (by omega) (by omega)]) (fun a p q j _ => by rw [h1 a (by omega) (by omega)]) (fun a p q j _ => by rw [h1 a (by omega) (by omega)]) (Nat.le_refl _) (Nat.le_refl _)
theorem zMnm.same (h : zMnm I J K W X T N) (h1 : I' 420 20 = I 420 20) (h2 : J' 428 = J 428) : zMnm I' J' K W X T N := ⟨⟨h.1.1, h1.trans h.1.2⟩, fun m hm => by rw [h2]; exact h.2 m hm⟩
theorem zMcn.same (h : zMcn I T τ cn C) (h1 : I' 420 35 = I 420 35) (h2 : ∀ a, 442 ≤ a → a ≤ 444 → I' a = I a) (hT : T ≤ T') (hτ : τ' 0 0 = τ 0 0) (h4 : ∀ m, m < τ 0 0 → τ' 4 m = τ 4 m) : zMcn I' T' τ' cn C := by
  refine ⟨⟨h1.trans h.1.1, ?_⟩, fun i hi => ?_⟩
  · rw [hτ, zsum_congr (g := τ 4) (fun j _ hj => h4 j (by omega))]; exact h.1.2
  · obtain ⟨⟨a1, a2, a3⟩, a4⟩ := h.2 i hi
    rw [h2 442 (by decide) (by decide), h2 443 (by decide) (by decide), h2 444 (by decide) (by decide)]
    exact ⟨⟨a1, a2, by omega⟩, a4⟩
theorem zMc.pt (h : zMc I K P r wo) {a j : Nat} {v : Int32} (ha : a ≠ 420) : zMc (zu I a j v) K P r wo := ⟨h.1.pt ha, fun t0 q => by
  have := h.2 t0 q
  cases wo with
  | none => show (zu I a j v) 420 15 = 0; rw [zu_ne (Ne.symm ha)]; exact this
  | some x => exact ⟨this.1, by rw [zu_ne (Ne.symm ha)]; exact this.2.1, by rw [zu_ne (Ne.symm ha)]; exact this.2.2.1, this.2.2.2⟩⟩
theorem zTM.pt (h : zTM I J K P V X) {a j : Nat} {v : Int32} (ha : 426 ≤ a) : zTM (zu I a j v) J K P V X := fun i hi hg => by
  rw [zu_ne (by omega), zu_ne (by omega), zu_ne (by omega)]; exact h i hi hg
theorem zDr.row (h : zDr I) (h1 : I' 432 = I 432) (h2 : I' 433 = I 433) : zDr I' := h.same h1 h2
theorem zDr.pt (h : zDr I) {a j v : Nat} (ha : a = 432 ∨ a = 433) (hv : v ≤ 9999) : zDr (zu I a j (nI v)) := fun k hk => by
  obtain ⟨n, m, h1, h2, h3, h4⟩ := h k hk
  rcases ha with rfl | rfl
  · by_cases e : k = j
    · exact ⟨v, m, hv, h2, by rw [e, zu_eq], by rw [zu_ne (by decide)]; exact h4⟩
    · exact ⟨n, m, h1, h2, by rw [zu_k e]; exact h3, by rw [zu_ne (by decide)]; exact h4⟩
  · by_cases e : k = j
    · exact ⟨n, v, h1, hv, by rw [zu_ne (by decide)]; exact h3, by rw [e, zu_eq]⟩
    · exact ⟨n, m, h1, h2, by rw [zu_ne (by decide)]; exact h3, by rw [zu_k e]; exact h4⟩
theorem M_goesOnC (hL : zLY Z t u) (hT : zTM I J K P V X) (h : zMc I K P r wo) (hk : ∀ t0, r = .ok t0 → K t0 ≠ 0) : ∃ I', zE (d + 1) kX12_goesOn 0 [some (.ref 420)] [] Z I J (none, Z, I', J) ∧ zMc I' K P (zgr r) wo ∧ zf4 [11, 13, 14] I I' := by
  obtain ⟨I', g1, g2, g3⟩ := M_goesOn (d := d) hL hT h.1 hk
  refine ⟨I', g1, ⟨g2, fun t1 q => ?_⟩, g3⟩
  cases r with
  | error e => exact absurd q (by simp [zgr])
  | ok t2 => exact ((h.2 t2 rfl).f4 g3 (by decide) (by decide)).mono (by have := (zgn_ok q).2; omega)
theorem M_mustC (hL : zLY Z t u) (hT : zTM I J K P V X) (hB : zMB K P V W X) (h : zMc I K P r wo) {k : Nat} (hk : k ∈ zkL) (hk0 : k ≠ 0) : ∃ I', zE (d + 2) kX12_must 0 [some (.ref 420), some (.int (nI (zkr k)))] [] Z I J (none, Z, I', J) ∧ zMc I' K P (ztk K k r) wo ∧ zf4 [11, 13, 14] I I' := by
  obtain ⟨I', g1, g2, g3⟩ := M_must (d := d) hL hT hB h.1 hk hk0
  refine ⟨I', g1, ⟨g2, fun t1 q => ?_⟩, g3⟩
  obtain ⟨t2, rfl, -, -, q5⟩ := ztk_ok q
  exact ((h.2 t2 rfl).f4 g3 (by decide) (by decide)).mono (by omega)
theorem M_kind (hT : zTM I J K P V X) (h : zMt I K P (.ok t0)) : vp_in (I 420 11) 403 ∧ I 423 (I 420 11).toNatClampNeg = nI (zkr (K t0)) := by
  obtain ⟨⟨p1, p2⟩, p3, p4⟩ := h
  rw [p4]
  exact ⟨zvin (by omega) (by decide), by rw [zclm (by omega)]; exact (hT t0 (by omega) p2).1.1⟩
theorem M_town (hL : zLY Z t u) (hs : s < 2) (hT : zTM I J K P V X) (hB : zMB K P V W X) (h : zMS I J s K P W X (.ok t0, wo, τ, Λ, N, cn, C)) (hk : K t0 = 128) : ∃ I', zE (d + 6) kX12_tell0 0 [some (.ref 420), none, none] [] Z I J (none, Z, I', J) ∧ zfS s I I' ∧ zMS I' J s K P W X (zsemi K (zpTown K V t0 wo τ Λ N cn C)) := by
  obtain ⟨hC, ⟨h19, hD, hbr⟩, hO⟩ := h
  obtain ⟨hv, ex⟩ := M_kind hT hC.1
  rw [hk] at ex
  obtain ⟨I2, a2, m2, f2⟩ := M_goesOnC (d := d + 4) hL hT hC (fun t1 q => by cases q; rw [hk]; decide)
  have T2 := hT.f4 f2
  obtain ⟨v3, I4, a4, m4, f4, l4, q4⟩ := M_bounded (d := d + 3) hL T2 hB (a := 2) (b := 12) (by decide) (by decide) m2
  have s2 : I2 420 19 = nI s := by rw [f2.2 19 (by decide)]; exact h19
  obtain ⟨I5, e5⟩ : ∃ I5 : zI, I5 = zu I4 429 s (nI v3) := ⟨_, rfl⟩
  have T5 : zTM I5 J K P V X := by rw [e5]; exact (T2.f4 f4).pt (by decide)
  obtain ⟨v6, I7, a7, m7, f7, l7, q7⟩ := M_bounded (d := d + 3) hL T5 hB (a := 2) (b := 12) (by decide) (by decide) (by rw [e5]; exact m4.pt (by decide))
  have s5 : I5 420 19 = nI s := by rw [e5, zu_ne (by decide), f4.2 19 (by decide)]; exact s2
  obtain ⟨I8, e8⟩ : ∃ I8 : zI, I8 = zu I7 430 s (nI v6) := ⟨_, rfl⟩
  have T8 : zTM I8 J K P V X := by rw [e8]; exact (T5.f4 f7).pt (by decide)
  obtain ⟨I9, a9, m9, f9⟩ := M_mustC (d := d + 3) hL T8 hB (k := 59) (by rw [e8]; exact m7.pt (by decide)) (by decide) (by decide)
  have k5 : ∀ k, I5 420 k = I4 420 k := fun k => by rw [e5, zu_ne (by decide)]
  have k8 : ∀ k, I8 420 k = I7 420 k := fun k => by rw [e8, zu_ne (by decide)]
  have fld : ∀ k, k ≠ 11 → k ≠ 13 → k ≠ 14 → k ≠ 15 → k ≠ 16 → I9 420 k = I 420 k := fun k p1 p2 p3 p4 p5 => by
    have n3 : k ∉ [11, 13, 14] := by simp; omega
    have n5 : k ∉ [11, 13, 14, 15, 16] := by simp; omega
    rw [f9.2 k n3, k8, f7.2 k n5, k5, f4.2 k n5, f2.2 k n3]
  have row : ∀ a, a ≠ 420 → a ≠ 429 → a ≠ 430 → I9 a = I a := fun a p1 p2 p3 => by rw [f9.1 a p1, e8, zu_ne p3, f7.1 a p1, e5, zu_ne p2, f4.1 a p1, f2.1 a p1]
  refine ⟨I9, BX12_tell0_0 hL ⟨hv, fun q => absurd q (by rw [ex]; decide), fun _ => ⟨I2, a2, nI v3, I4, a4, by rw [s2]; exact zvin hs (by decide), fun y5 ey5 => ⟨nI v6, I7, by rw [ey5, s2, zclm (by omega), ← e5]; exact a7, by rw [ey5, s2, zclm (by omega), ← e5, s5]; exact zvin hs (by decide), fun y8 ey8 => ⟨I9, by rw [ey8, ey5, s2, zclm (by omega), ← e5, s5, zclm (by omega), ← e8]; exact a9, rfl⟩⟩⟩, fun q => absurd (ex.symm.trans q) (by decide), fun q => absurd (ex.symm.trans q) (by decide), fun q => absurd (ex.symm.trans q) (by decide), fun q => absurd (ex.symm.trans q) (by decide), fun q => absurd (ex.symm.trans q) (by decide), fun q => absurd (ex.symm.trans q) (by decide), fun q => absurd (ex.symm.trans q) (by decide)⟩, ?_, m9, ⟨?_, ?_, ?_⟩, fun t' q => ?_⟩
  · refine ((f2.S (by decide)).tr (f4.S (by decide))).tr (?_ : zfS s I4 I9)
    refine (?_ : zfS s I4 I5).tr ((f7.S (by decide)).tr ((?_ : zfS s I7 I8).tr (f9.S (by decide))))
    · rw [e5]; exact zfS.put (n := 1) (by decide) (by decide) (by decide) (by omega) (by omega)
    · rw [e8]; exact zfS.put (n := 1) (by decide) (by decide) (by decide) (by omega) (by omega)
  · rw [fld 19 (by decide) (by decide) (by decide) (by decide) (by decide)]; exact h19
  · exact hD.row (row 432 (by decide) (by decide) (by decide)) (row 433 (by decide) (by decide) (by decide))
  · rw [fld 41 (by decide) (by decide) (by decide) (by decide) (by decide)]; exact hbr
  · obtain ⟨t3, w3, -, -, x3⟩ := ztk_ok q
    obtain ⟨t2, w2, y2, -, x2⟩ := ztk_ok (r := ztk K 3 (zgn t0)) w3
    obtain ⟨t1, w1, y1, -, x1⟩ := ztk_ok w2
    have x0 := (zgn_ok w1).2
    have e3 : v3 = V (t0 + 1) := by rw [q4 t1 w1 y1, x0]
    have e6 : v6 = V (t0 + 2) := by rw [q7 t2 w2 y2, x1, x0]
    obtain ⟨br, cd, ⟨b1, b2, b3, b4, b5⟩, ⟨g1, ⟨g2, g3, g4, g5, g6⟩, g7, g8, g9, g10, g11⟩, hN, hCn⟩ := hO t0 rfl
    obtain ⟨τ1, eτ⟩ : ∃ τ1 : Nat → Nat → Nat, τ1 = zu (zu τ 0 1 (V (t0 + 1))) 0 2 (V (t0 + 2)) := ⟨_, rfl⟩
    have z1 : τ1 0 1 = V (t0 + 1) := by rw [eτ, zu_k (by decide), zu_eq]
    have z2 : τ1 0 2 = V (t0 + 2) := by rw [eτ, zu_eq]
    have z3 : ∀ k, k ≠ 1 → k ≠ 2 → τ1 0 k = τ 0 k := fun k p q => by rw [eτ, zu_k q, zu_k p]
    have z4 : ∀ b, b ≠ 0 → τ1 b = τ b := fun b p => by rw [eτ, zu_ne p, zu_ne p]
    show zMo I9 J s K W X t' (zu (zu τ 0 1 (V (t0 + 1))) 0 2 (V (t0 + 2))) Λ N cn C
    rw [← eτ]
    have r429 : I9 429 s = nI (V (t0 + 1)) := by rw [f9.1 429 (by decide), e8, zu_ne (by decide), f7.1 429 (by decide), e5, zu_eq, e3]
    have r430 : I9 430 s = nI (V (t0 + 2)) := by rw [f9.1 430 (by decide), e8, zu_eq, e6]
    refine ⟨br, cd, ⟨by omega, by omega, by rw [fld 41 (by decide) (by decide) (by decide) (by decide) (by decide)]; exact b3, by rw [fld 47 (by decide) (by decide) (by decide) (by decide) (by decide)]; exact b4, by rw [fld 12 (by decide) (by decide) (by decide) (by decide) (by decide)]; exact b5⟩, ?_, ?_, ?_⟩
    · unfold zMX
      rw [z1, z2, z3 0 (by decide) (by decide), z3 3 (by decide) (by decide), z3 4 (by decide) (by decide), z4 1 (by decide), z4 2 (by decide), z4 3 (by decide), z4 4 (by decide), z4 5 (by decide), z4 6 (by decide), z4 7 (by decide), z4 8 (by decide), r429, r430, row 431 (by decide) (by decide) (by decide), row 441 (by decide) (by decide) (by decide), row 438 (by decide) (by decide) (by decide), row 432 (by decide) (by decide) (by decide), row 433 (by decide) (by decide) (by decide), row 434 (by decide) (by decide) (by decide), row 435 (by decide) (by decide) (by decide), row 436 (by decide) (by decide) (by decide), row 437 (by decide) (by decide) (by decide), row 439 (by decide) (by decide) (by decide), row 440 (by decide) (by decide) (by decide)]
      exact ⟨g1, ⟨g2, rfl, rfl, g5, g6⟩, g7, g8, g9, g10, fun p hp => (g11 p hp).rows (fun a p q => row a (by omega) (by omega) (by omega))⟩
    · rw [z3 0 (by decide) (by decide)]
      exact hN.same (fld 20 (by decide) (by decide) (by decide) (by decide) (by decide)) rfl
    · exact hCn.same (fld 35 (by decide) (by decide) (by decide) (by decide) (by decide)) (fun a p q => row a (by omega) (by omega) (by omega)) (by omega) (z3 0 (by decide) (by decide)) (fun m _ => by rw [z4 4 (by decide)])
end

/-! a day's CUT -/
/-- the PIECES of a day: what a day holds but for the men -/
def zCP (I : zI) (d : Nat) (τ : Nat → Nat → Nat) (ρ : Nat → Nat) : Prop :=
  (∀ q, zlive τ ρ q → I (d + 5) (q + 1) = nI (ρ (30 + q)) ∧ I (d + 6) (q + 1) = nI (zenc (ρ (870 + q))) ∧ I (d + 8) (q + 1) = nI (ρ (450 + q) + 1) ∧ ∃ v, I (d + 7) (q + 1) = nI v ∧ zbel τ ρ (ρ (870 + q)) (ρ (450 + q)) v) ∧
  ∀ s, s < 288 → ∃ v, I (d + 9) (zenc s) = nI v ∧ zbel τ ρ s (ρ 29) v
section
variable {d : Nat} {Z : zZ} {J : zJ} {t u : Nat} {τ : Nat → Nat → Nat} {Λ : Nat → Option zLaw} {ρ ρ' : Nat → Nat}
theorem zlive_congr (h : ∀ m, m < τ 0 0 → ρ' (14 + m) = ρ (14 + m)) {q : Nat} : zlive τ ρ' q ↔ zlive τ ρ q := by
  unfold zlive
  constructor
  · rintro ⟨a, b⟩; exact ⟨a, by rw [← h _ a]; exact b⟩
  · rintro ⟨a, b⟩; exact ⟨a, by rw [h _ a]; exact b⟩
theorem zbel_congr (hl : ∀ m, m < τ 0 0 → ρ' (14 + m) = ρ (14 + m)) (hk : ∀ k, 29 ≤ k → ρ' k = ρ k) {s T v : Nat} (h : zbel τ ρ s T v) : zbel τ ρ' s T v := by
  rcases h with ⟨rfl, h⟩ | ⟨q, rfl, h1, h2, h3, h4⟩
  · exact Or.inl ⟨rfl, fun q hq => by rw [hk _ (by omega), hk _ (by omega)]; exact h q ((zlive_congr hl).mp hq)⟩
  · refine Or.inr ⟨q, rfl, (zlive_congr hl).mpr h1, by rw [hk _ (by omega)]; exact h2, by rw [hk _ (by omega)]; exact h3, fun q' hq' => ?_⟩
    rw [hk _ (by omega), hk _ (by omega), hk _ (by omega)]
    exact h4 q' ((zlive_congr hl).mp hq')
theorem zCP.congr {I : zI} {d1 : Nat} (h : zCP I d1 τ ρ) (hl : ∀ m, m < τ 0 0 → ρ' (14 + m) = ρ (14 + m)) (hk : ∀ k, 29 ≤ k → ρ' k = ρ k) : zCP I d1 τ ρ' := by
  refine ⟨fun q hq => ?_, fun s hs => ?_⟩
  · obtain ⟨a, b, c, v, e, f⟩ := h.1 q ((zlive_congr hl).mp hq)
    rw [hk _ (by omega), hk _ (by omega), hk _ (by omega)]
    exact ⟨a, b, c, v, e, zbel_congr hl hk f⟩
  · obtain ⟨v, e, f⟩ := h.2 s hs
    rw [hk 29 (by decide)]
    exact ⟨v, e, zbel_congr hl hk f⟩
theorem zCP.same {I I' : zI} {d1 : Nat} (h : zCP I d1 τ ρ) (hs : ∀ a, d1 + 5 ≤ a → a ≤ d1 + 9 → I' a = I a) : zCP I' d1 τ ρ := by
  unfold zCP
  rw [hs (d1 + 5) (by omega) (by omega), hs (d1 + 6) (by omega) (by omega), hs (d1 + 7) (by omega) (by omega), hs (d1 + 8) (by omega) (by omega), hs (d1 + 9) (by omega) (by omega)]
  exact h
/-- from above a PIECE down to that which lies next on it -/
theorem C_pull_loop {d1 : Nat} (hd : zDy Z d1) {I : zI} (hH : zH τ ρ) (hU : zTU τ ρ) (hC : zCP I d1 τ ρ) {q0 v0 : Nat} (h0 : zlive τ ρ q0) (e0 : I (d1 + 7) (q0 + 1) = nI v0) : ∀ (n i a : Nat), zcb τ ρ (ρ (870 + q0)) (ρ (450 + a)) = n → i + n ≤ 420 → zlive τ ρ a → ρ (870 + a) = ρ (870 + q0) → ρ (450 + q0) < ρ (450 + a) →
    ∃ a', zlive τ ρ a' ∧ ρ (870 + a') = ρ (870 + q0) ∧ zbel τ ρ (ρ (870 + q0)) (ρ (450 + a')) (q0 + 1) ∧ ∀ o, o = (none, Z, zu I (d1 + 7) (a' + 1) (nI v0), J) → zE (d + 1) kX0_pullOut 43 [some (.ref d1), some (.int (nI (q0 + 1))), none, some (.int (nI (a + 1))), some (.int (nI i))] [] Z I J o := by
  intro n
  induction n with
  | zero =>
    intro i a hn hi ha hs ht
    exfalso
    have := zwt_ge (f := fun q => if zblw ρ (ρ (870 + q0)) (ρ (450 + a)) q = true then 1 else 0) h0
    rw [if_pos (zblw_iff.mpr ⟨rfl, ht⟩)] at this
    have hn' : zwt ρ (τ 0 0) (fun q => if zblw ρ (ρ (870 + q0)) (ρ (450 + a)) q = true then 1 else 0) = 0 := hn
    omega
  | succ n ih =>
    intro i a hn hi ha hs ht
    have hla := zlive_lt hH ha
    have hl0 := zlive_lt hH h0
    obtain ⟨-, -, -, v, e1, hb⟩ := hC.1 a ha
    rw [hs] at hb
    have hvl := zbel_lt hH hb
    have eu : zat I (d1 + 7) 421 (nI (a + 1)) = nI v := by rw [zatI (by omega) (by decide), e1]
    have eu0 : zat I (d1 + 7) 421 (nI (q0 + 1)) = nI v0 := by rw [zatI (by omega) (by decide), e0]
    have hlim : ¬ (420 : Int32) ≤ nI i := by rw [show (420 : Int32) = nI 420 from rfl, zle' (by decide) (by omega)]; omega
    have hz : ¬ nI (a + 1) = 0 := by rw [zn0 (by omega)]; omega
    rcases hb with ⟨-, hb⟩ | ⟨q, rfl, b1, b2, b3, b4⟩
    · exact absurd ht (hb q0 h0 rfl)
    · have hb' : zbel τ ρ (ρ (870 + q0)) (ρ (450 + a)) (q + 1) := Or.inr ⟨q, rfl, b1, b2, b3, b4⟩
      by_cases e : q = q0
      · subst e
        refine ⟨a, ha, hs, hb', fun o ho => BX0_pullOut_43 _ _ _ hd ⟨fun z => absurd z hlim, fun _ => ⟨fun z => absurd z hz, fun _ => ⟨fun _ I3 e3 => ?_, fun z => absurd eu z⟩⟩⟩⟩
        rw [eu0, zptI (by omega) (by decide)] at e3
        rw [ho, e3]
      · have hlq := zlive_lt hH b1
        have hne : ρ (450 + q) ≠ ρ (450 + q0) := fun z => e (hU q q0 b1 h0 z)
        have hle := b4 q0 h0 rfl ht
        have hcb := zwU_s (f := fun _ => 1) hH hU hb'
        obtain ⟨a', g1, g2, g3, g4⟩ := ih (i + 1) q (by show zwU _ _ _ _ _ = _; have hn' : zwU τ ρ (ρ (870 + q0)) (ρ (450 + a)) (fun _ => 1) = n + 1 := hn; omega) (by omega) b1 b2 (by omega)
        refine ⟨a', g1, g2, g3, fun o ho => BX0_pullOut_43 _ _ _ hd ⟨fun z => absurd z hlim, fun _ => ⟨fun z => absurd z hz, fun _ => ⟨fun z => ?_, fun _ => ?_⟩⟩⟩⟩
        · exfalso
          rw [eu, zeq (by omega) (by omega)] at z; omega
        · rw [eu, zadd1]; exact g4 o ho
theorem C_pullOut {d1 : Nat} (hd : zDy Z d1) {I : zI} (hH : zH τ ρ) (hU : zTU τ ρ) (hs : ∀ q, zlive τ ρ q → ρ (870 + q) < 288 ∧ ρ (450 + q) < ρ 29) (hC : zCP I d1 τ ρ) {q0 : Nat} (h0 : zlive τ ρ q0) (hk : ∀ k, 29 ≤ k → ρ' k = ρ k) (live : ∀ q, zlive τ ρ' q ↔ zlive τ ρ q ∧ q ≠ q0) :
    ∃ I', zE (d + 1) kX0_pullOut 0 [some (.ref d1), some (.int (nI (q0 + 1))), none, none, none] [] Z I J (none, Z, I', J) ∧ zCP I' d1 τ ρ' ∧ zfc [d1 + 7, d1 + 9] I I' := by
  have hl0 := zlive_lt hH h0
  obtain ⟨hs0, ht0⟩ := hs q0 h0
  obtain ⟨-, r6, -, v0, r7, hb0⟩ := hC.1 q0 h0
  obtain ⟨vt, r9, hbt⟩ := hC.2 _ hs0
  have hv0l := zbel_lt hH hb0
  have hvtl := zbel_lt hH hbt
  have hes := zenc_lt hs0
  have ey : zat I (d1 + 9) 288 (zat I (d1 + 6) 421 (nI (q0 + 1))) = nI vt := by rw [zatI (by omega) (by decide), r6, zatI hes (by decide), r9]
  by_cases e : vt = q0 + 1
  · subst e
    obtain ⟨-, -, -, ht4⟩ := zbel_q hbt
    generalize hIf : zu I (d1 + 9) (zenc (ρ (870 + q0))) (nI v0) = If
    have fo : ∀ a, a ≠ d1 + 9 → If a = I a := fun a ha => by rw [← hIf]; exact zu_ne ha
    have f9 : ∀ j, If (d1 + 9) j = if j = zenc (ρ (870 + q0)) then nI v0 else I (d1 + 9) j := fun j => by rw [← hIf]; simp [zu_if]
    refine ⟨If, BX0_pullOut_0 _ hd (fun y1 e1 => ?_), ⟨fun q hq => ?_, fun s hs' => ?_⟩, fun a ha => fo a (by simp at ha; exact ha.2)⟩
    · rw [ey] at e1
      subst e1
      refine ⟨fun z => absurd rfl z, fun _ I2 e2 => ?_⟩
      rw [zatI (by omega) (by decide), zatI (by omega) (by decide), r6, r7, zptI hes (by decide)] at e2
      rw [e2, hIf]
    · obtain ⟨hq1, hq2⟩ := (live q).mp hq
      rw [fo _ (by omega), fo _ (by omega), fo _ (by omega), fo _ (by omega), hk _ (by omega), hk _ (by omega), hk _ (by omega)]
      obtain ⟨s1, s2, s3, v, s4, s5⟩ := hC.1 q hq1
      refine ⟨s1, s2, s3, v, s4, zbel_keep s5 (fun q _ => hk _ (by omega)) (fun q _ => hk _ (by omega)) live ?_⟩
      rintro rfl
      obtain ⟨-, z2, z3, -⟩ := zbel_q s5
      have := ht4 q hq1 (by omega) (hs q hq1).2
      omega
    · rw [f9, hk 29 (by decide)]
      by_cases e : s = ρ (870 + q0)
      · subst e
        rw [if_pos rfl]
        exact ⟨v0, rfl, zbel_drop hU hbt hb0 (fun q _ => hk _ (by omega)) (fun q _ => hk _ (by omega)) live⟩
      · rw [if_neg (fun z => e (zenc_inj z))]
        obtain ⟨v, z1, z2⟩ := hC.2 s hs'
        refine ⟨v, z1, zbel_keep z2 (fun q _ => hk _ (by omega)) (fun q _ => hk _ (by omega)) live ?_⟩
        rintro rfl
        exact e (zbel_q z2).2.1.symm
  · have hz0 : vt ≠ 0 := by rintro rfl; exact zbel_0 hbt q0 h0 rfl ht0
    obtain ⟨a, rfl⟩ : ∃ a, vt = a + 1 := ⟨vt - 1, by omega⟩
    obtain ⟨a1, a2, a3, a4⟩ := zbel_q hbt
    have hta : ρ (450 + q0) < ρ (450 + a) := by
      have := a4 q0 h0 rfl ht0
      have hne : ρ (450 + q0) ≠ ρ (450 + a) := fun z => e (by rw [hU q0 a h0 a1 z])
      omega
    have hcb := zwU_s (f := fun _ => 1) hH hU hbt
    have hcl : zwU τ ρ (ρ (870 + q0)) (ρ 29) (fun _ => 1) ≤ 420 := zcb_le hH
    obtain ⟨a', g1, g2, g3, g4⟩ := C_pull_loop (d := d) (J := J) hd hH hU hC h0 r7 _ 0 a rfl (by show 0 + zwU _ _ _ _ _ ≤ _; omega) a1 a2 hta
    have hla' := zlive_lt hH g1
    generalize hIf : zu I (d1 + 7) (a' + 1) (nI v0) = If at g4
    have fo : ∀ a, a ≠ d1 + 7 → If a = I a := fun a ha => by rw [← hIf]; exact zu_ne ha
    have f7 : ∀ j, If (d1 + 7) j = if j = a' + 1 then nI v0 else I (d1 + 7) j := fun j => by rw [← hIf]; simp [zu_if]
    refine ⟨If, BX0_pullOut_0 _ hd (fun y1 e1 => ?_), ⟨fun q hq => ?_, fun s hs' => ?_⟩, fun a ha => fo a (by simp at ha; exact ha.1)⟩
    · rw [ey] at e1
      subst e1
      refine ⟨fun _ => g4 _ rfl, fun z => ?_⟩
      exfalso
      rw [zeq (by omega) (by omega)] at z; omega
    · obtain ⟨hq1, hq2⟩ := (live q).mp hq
      rw [fo _ (by omega), fo _ (by omega), fo _ (by omega), f7, hk _ (by omega), hk _ (by omega), hk _ (by omega)]
      obtain ⟨s1, s2, s3, v, s4, s5⟩ := hC.1 q hq1
      by_cases ea : q = a'
      · subst ea
        rw [if_pos rfl]
        refine ⟨s1, s2, s3, v0, rfl, ?_⟩
        rw [g2]
        exact zbel_drop hU g3 hb0 (fun q _ => hk _ (by omega)) (fun q _ => hk _ (by omega)) live
      · rw [if_neg (by omega)]
        refine ⟨s1, s2, s3, v, s4, zbel_keep s5 (fun q _ => hk _ (by omega)) (fun q _ => hk _ (by omega)) live ?_⟩
        rintro rfl
        exact ea (zbel_one hU hq1 g1 rfl g2 s5 g3)
    · rw [fo _ (by omega), hk 29 (by decide)]
      obtain ⟨v, z1, z2⟩ := hC.2 s hs'
      refine ⟨v, z1, zbel_keep z2 (fun q _ => hk _ (by omega)) (fun q _ => hk _ (by omega)) live ?_⟩
      rintro rfl
      obtain ⟨-, z3, -, -⟩ := zbel_q z2
      subst z3
      rw [r9, zeq (by omega) (by omega)] at z1; omega
theorem C_lose_loop {d1 : Nat} (hd : zDy Z d1) (hW : zTW τ Λ) (hD : zDW τ ρ) {m : Nat} (hm : m < τ 0 0) : ∀ (i : Nat) (I : zI) (x3 : Int32), i ≤ ρ (14 + m) → (i = 0 → x3 = -1) → (∀ k, i = k + 1 → x3 = nI k) → zCP I d1 τ (zup ρ (14 + m) i) → ∀ x2 : Int32,
    ∃ I', zCP I' d1 τ (zup ρ (14 + m) 0) ∧ zfc [d1 + 7, d1 + 9] I I' ∧ zE (d + 2) kX0_lose 13 [some (.ref d1), some (.int (nI m)), some (.int x2), some (.int x3)] [] Z I J (some (.int x2), Z, zpt (zpt I' (d1 + 3) 7 (nI m) 0) (d1 + 4) 7 (nI m) 1, J) := by
  have hH := hD.h hW
  have h7 := hH.1
  intro i
  induction i with
  | zero =>
    intro I x3 hi h1 h2 hC x2
    rw [h1 rfl]
    exact ⟨I, hC, zfc.rf, BX0_lose_13 _ _ _ hd ⟨fun _ I1 e1 I2 e2 => by rw [e2, e1], fun z => absurd (by decide) z⟩⟩
  | succ i ih =>
    intro I x3 hi h1 h2 hC x2
    have h60 := hH.2 m hm
    rw [h2 i rfl]
    have kn : ∀ j, zup ρ (14 + m) j (14 + m) = j := fun j => zup_eq
    have ko : ∀ j k, k ≠ 14 + m → zup ρ (14 + m) j k = ρ k := fun j k hk => zup_ne hk
    have lv : ∀ j, j ≤ ρ (14 + m) → ∀ q, zlive τ (zup ρ (14 + m) j) q → zlive τ ρ q := fun j hj q hq => by
      refine zlive_le (ρ' := zup ρ (14 + m) j) (fun m' hm' => ?_) hq
      by_cases e : m' = m
      · subst e; rw [kn]; exact hj
      · rw [ko _ _ (by omega)]; exact Nat.le_refl _
    have hH1 : zH τ (zup ρ (14 + m) (i + 1)) := ⟨h7, fun m' hm' => by
      by_cases e : m' = m
      · subst e; rw [kn]; omega
      · rw [ko _ _ (by omega)]; exact hH.2 m' hm'⟩
    have h0 : zlive τ (zup ρ (14 + m) (i + 1)) (60 * m + i) := zlive_mk hH1 hm (by rw [kn]; omega)
    have live := zlive_cut (ρ' := zup ρ (14 + m) i) hH1 hm (by rw [kn]; omega) (by rw [kn, kn]; rfl) (fun m' hm' hne => by rw [ko _ _ (by omega), ko _ _ (by omega)])
    rw [kn, Nat.add_sub_cancel] at live
    obtain ⟨I1, g1, g2, g3⟩ := C_pullOut (d := d) (J := J) (ρ := zup ρ (14 + m) (i + 1)) (ρ' := zup ρ (14 + m) i) hd hH1 (fun q q' hq hq' he => by
        rw [ko _ _ (by omega), ko _ _ (by omega)] at he
        exact hD.2.2.2 q q' (lv _ hi q hq) (lv _ hi q' hq') he) (fun q hq => by
        rw [ko _ _ (by omega), ko _ _ (by omega), ko _ _ (by omega)]
        exact ⟨zlive_s hW hD (lv _ hi q hq), zlive_t hD (lv _ hi q hq)⟩) hC h0 (fun k hk => by rw [ko _ _ (by omega), ko _ _ (by omega)]) live
    obtain ⟨I', k1, k2, k3⟩ := ih I1 (nI i + (-1)) (by omega) (fun e => by subst e; decide) (fun k e => by subst e; exact pk_m1 _) g2 x2
    refine ⟨I', k1, g3.tr k2, BX0_lose_13 _ _ _ hd ⟨fun z => absurd z (zneg (by omega)), fun _ => ⟨I1, ?_, k3⟩⟩⟩
    rw [zpcI]; exact g1
theorem C_lose {d1 : Nat} (hd : zDy Z d1) (hW : zTW τ Λ) (hD : zDW τ ρ) {I : zI} (hC : zCD I d1 τ ρ) {m : Nat} (hm : m < τ 0 0) :
    ∃ I', zE (d + 2) kX0_lose 0 [some (.ref d1), some (.int (nI m)), none, none] [] Z I J (some (.int (nI (ρ (14 + m)))), Z, I', J) ∧ zCD I' d1 τ (zlos ρ m) ∧ zfd d1 I I' := by
  have hH := hD.h hW
  have h7 := hH.1
  have h60 := hH.2 m hm
  have a3 : zat I (d1 + 3) 7 (nI m) = nI (ρ (14 + m)) := by rw [zatI (by omega) (by decide), (hC.2.1 m hm).2.2.1]
  have eself : zup ρ (14 + m) (ρ (14 + m)) = ρ := by
    funext k
    by_cases e : k = 14 + m
    · subst e; exact zup_eq
    · exact zup_ne e
  have hP : zCP I d1 τ (zup ρ (14 + m) (ρ (14 + m))) := by rw [eself]; exact hC.2.2
  obtain ⟨I1, g1, g2, g3⟩ := C_lose_loop (d := d) (J := J) hd hW hD hm (ρ (14 + m)) I (nI (ρ (14 + m)) - 1) (Nat.le_refl _) (fun e => by rw [e]; decide) (fun k e => by rw [e, zsub1]) hP (nI (ρ (14 + m)))
  rw [zptI (by omega) (by decide), zptI (by omega) (by decide)] at g3
  generalize hIf : zu (zu I1 (d1 + 3) m 0) (d1 + 4) m 1 = If at g3
  have fo : ∀ a, a ≠ d1 + 3 → a ≠ d1 + 4 → If a = I1 a := fun a ha hb => by rw [← hIf]; rw [zu_ne hb, zu_ne ha]
  have f3 : ∀ j, If (d1 + 3) j = if j = m then 0 else I1 (d1 + 3) j := fun j => by rw [← hIf]; simp [zu_if]
  have f4 : ∀ j, If (d1 + 4) j = if j = m then 1 else I1 (d1 + 4) j := fun j => by rw [← hIf]; simp [zu_if]
  have k1 : ∀ a, a ≠ d1 + 7 → a ≠ d1 + 9 → I1 a = I a := fun a ha hb => g2 a (by simp; exact ⟨ha, hb⟩)
  refine ⟨If, BX0_lose_0 _ hd (fun y e => ?_), ⟨?_, fun m' hm' => ?_, ?_⟩, fun a ha => ?_, ?_, ?_⟩
  · rw [a3] at e ⊢
    subst e; exact g3
  · rw [fo _ (by omega) (by omega), k1 _ (by omega) (by omega), zlos_i, if_neg (by omega), if_neg (by omega)]; exact hC.1
  · rw [fo (d1 + 1) (by omega) (by omega), fo (d1 + 2) (by omega) (by omega), f3, f4, k1 _ (by omega) (by omega), k1 _ (by omega) (by omega), k1 _ (by omega) (by omega), k1 _ (by omega) (by omega), zlos_i (k := m'), if_neg (by omega), if_neg (by omega), zlos_i (k := 7 + m'), if_neg (by omega), if_neg (by omega)]
    obtain ⟨x1, x2, x3, x4⟩ := hC.2.1 m' hm'
    by_cases e : m' = m
    · subst e
      rw [if_pos rfl, if_pos rfl, zlos_i (k := 14 + m'), if_neg (by omega), if_pos rfl, zlos_i (k := 21 + m'), if_pos rfl]
      exact ⟨x1, x2, rfl, rfl⟩
    · rw [if_neg e, if_neg e, zlos_i (k := 14 + m'), if_neg (by omega), if_neg (by omega), zlos_i (k := 21 + m'), if_neg (by omega), if_neg (by omega)]
      exact ⟨x1, x2, x3, x4⟩
  · refine (g1.same (I' := If) (fun a h1 h2 => fo a (by omega) (by omega))).congr (fun m' hm' => ?_) (fun k hk => ?_)
    · exact zup_ne (by omega)
    · exact zup_ne (by omega)
  · rw [fo a (by omega) (by omega), k1 a (by omega) (by omega)]
  · rw [fo _ (by omega) (by omega), k1 _ (by omega) (by omega)]
  · rw [fo _ (by omega) (by omega), k1 _ (by omega) (by omega)]
end

/-! the reference's reader: names and INTs -/
def zMnm (I : zI) (J : zJ) (K W X : Nat → Nat) (n : Nat) (N : Nat → Nat) : Prop := (n ≤ 7 ∧ I 420 20 = nI n) ∧ ∀ m, m < n → ∃ i, K i = 2 ∧ N m = W i ∧ J 428 m = lN (X i)
/-- where it stands, and its later FAULT -/
def zMc (I : zI) (K P : Nat → Nat) (r : zRt) (wo : Option (Nat × Nat)) : Prop := zMt I K P r ∧ ∀ t0, r = .ok t0 → zMw I P t0 wo
section
variable {d : Nat} {Z : zZ} {I I' : zI} {J : zJ} {t u n : Nat} {K P V W X N : Nat → Nat} {r : zRt} {wo : Option (Nat × Nat)}
theorem zMnm.f4 {F : List Nat} (h : zMnm I J K W X n N) (hf : zf4 F I I') (h1 : 20 ∉ F) : zMnm I' J K W X n N := ⟨⟨h.1.1, (hf.2 20 h1).trans h.1.2⟩, h.2⟩
theorem zMc.err {e : Nat × Nat} (h : zMt I K P (.error e)) : zMc I K P (.error e) wo := ⟨h, fun t0 q => absurd q (by simp)⟩
theorem zfnd_lo {x : Nat} : ∀ (f m : Nat), zfnd N x f m = none → ∀ j, m ≤ j → j < m + f → N j ≠ x := by
  intro f
  induction f with
  | zero => intro m _ j h1 h2; omega
  | succ f ih =>
    intro m h j h1 h2
    simp only [zfnd] at h
    split at h
    · exact absurd h (by simp)
    · by_cases e : j = m
      · rw [e]; assumption
      · exact ih (m + 1) h j (by omega) (by omega)
theorem M_manAt12 (hL : zLY Z t u) (hB : zMB K P V W X) (h : zMnm I J K W X n N) {i : Nat} (hi : i < 401) (h2 : K i = 2) (hx : J 426 i = lN (X i)) : ∀ f k, k + f = n → zE d kX12_manAt 12 [some (.ref 420), some (.int (nI i)), some (.int (nI k))] [] Z I J (some (.int (zoi (zfnd N (W i) f k))), Z, I, J) := by
  obtain ⟨⟨h7, hn⟩, hN⟩ := h
  intro f
  induction f with
  | zero =>
    intro k hk
    obtain rfl : k = n := by omega
    exact BX12_manAt_12 _ _ hL ⟨fun _ => rfl, fun q => absurd (by rw [hn]; exact Int32.le_refl _) q⟩
  | succ f ih =>
    intro k hk
    have c1 : ¬ I 420 20 ≤ nI k := by rw [hn, zle' (by omega) (by omega)]; omega
    obtain ⟨j, j1, j2, j3⟩ := hN k (by omega)
    have b1 := hB.2.2.1 j j1
    have b2 := hB.2.2.1 i h2
    have e : lg_cmp (J 428 (nI k).toNatClampNeg) (J 426 (nI i).toNatClampNeg) = 0 ↔ N k = W i := by
      rw [zclm (by omega), zclm (by omega), j3, hx, lg_cmp_eq, pk_lEQ (by omega) (by omega), j2]
      exact (hB.2.2.2.1 j i j1 h2).symm
    simp only [zfnd]
    by_cases c2 : N k = W i
    · rw [if_pos c2]
      exact BX12_manAt_12 _ _ hL ⟨fun q => absurd q c1, fun _ => ⟨zvin (by omega) (by decide), zvin (by omega) (by decide), fun q => absurd (e.mpr c2) q, fun _ => rfl⟩⟩
    · rw [if_neg c2]
      exact BX12_manAt_12 _ _ hL ⟨fun q => absurd q c1, fun _ => ⟨zvin (by omega) (by decide), zvin (by omega) (by decide), fun _ => by rw [zadd1]; exact ih (k + 1) (by omega), fun q => absurd (e.mp q) c2⟩⟩
/-- the man whose NAME stands at a token -/
theorem M_manAt (hL : zLY Z t u) (hT : zTM I J K P V X) (hB : zMB K P V W X) (h : zMnm I J K W X n N) {i : Nat} (hi : i < 401) (hg : ∀ j, j < i → K j ≠ 0) : zE d kX12_manAt 0 [some (.ref 420), some (.int (nI i)), none] [] Z I J (some (.int (zoi (if K i = 2 then zfnd N (W i) n 0 else none))), Z, I, J) := by
  obtain ⟨⟨a1, -⟩, -, a3⟩ := hT i hi hg
  have hk := hB.1 i
  have e : I 423 (nI i).toNatClampNeg = 1 ↔ K i = 2 := by
    rw [zclm (by omega), a1, show (1 : Int32) = nI (zkr 2) from rfl, zeq (by have := (zkL_lt _ hk).2; omega) (by decide)]
    exact ⟨zkr_inj _ hk _ (by decide), fun q => by rw [q]⟩
  by_cases c : K i = 2
  · rw [if_pos c]
    exact BX12_manAt_0 _ hL ⟨zvin (by omega) (by decide), fun q => absurd (e.mpr c) q, fun _ => M_manAt12 hL hB h hi c (a3 c) n 0 (by omega)⟩
  · rw [if_neg c]
    exact BX12_manAt_0 _ hL ⟨zvin (by omega) (by decide), fun _ => rfl, fun q => absurd (e.mp q) c⟩
/-- at any token -/
theorem M_manAny (hL : zLY Z t u) (h7 : n ≤ 7) (hn : I 420 20 = nI n) {i : Nat} (hi : i < 403) : ∃ o : Option Nat, zE d kX12_manAt 0 [some (.ref 420), some (.int (nI i)), none] [] Z I J (some (.int (zoi o)), Z, I, J) ∧ ∀ m, o = some m → m < n := by
  have loop : ∀ f k, k + f = n → ∃ o : Option Nat, zE d kX12_manAt 12 [some (.ref 420), some (.int (nI i)), some (.int (nI k))] [] Z I J (some (.int (zoi o)), Z, I, J) ∧ ∀ m, o = some m → m < n := by
    intro f
    induction f with
    | zero =>
      intro k hk
      obtain rfl : k = n := by omega
      exact ⟨none, BX12_manAt_12 _ _ hL ⟨fun _ => rfl, fun q => absurd (by rw [hn]; exact Int32.le_refl _) q⟩, fun m q => absurd q (by simp)⟩
    | succ f ih =>
      intro k hk
      obtain ⟨o, h1, h2⟩ := ih (k + 1) (by omega)
      have c1 : ¬ I 420 20 ≤ nI k := by rw [hn, zle' (by omega) (by omega)]; omega
      by_cases c2 : lg_cmp (J 428 (nI k).toNatClampNeg) (J 426 (nI i).toNatClampNeg) = 0
      · exact ⟨some k, BX12_manAt_12 _ _ hL ⟨fun q => absurd q c1, fun _ => ⟨zvin (by omega) (by decide), zvin (by omega) (by decide), fun q => absurd c2 q, fun _ => rfl⟩⟩, fun m q => by cases q; omega⟩
      · exact ⟨o, BX12_manAt_12 _ _ hL ⟨fun q => absurd q c1, fun _ => ⟨zvin (by omega) (by decide), zvin (by omega) (by decide), fun _ => by rw [zadd1]; exact h1, fun q => absurd q c2⟩⟩, h2⟩
  by_cases c : I 423 (nI i).toNatClampNeg = 1
  · obtain ⟨o, h1, h2⟩ := loop n 0 (by omega)
    exact ⟨o, BX12_manAt_0 _ hL ⟨zvin (by omega) (by decide), fun q => absurd c q, fun _ => h1⟩, h2⟩
  · exact ⟨none, BX12_manAt_0 _ hL ⟨zvin (by omega) (by decide), fun _ => rfl, fun q => absurd q c⟩, fun m q => absurd q (by simp)⟩
theorem zMw.ok {wo' : Option (Nat × Nat)} {T : Nat} (h : zMw I P T wo') (e : wo' = wo) : zMw I P T wo := e ▸ h
theorem zwq_tt {q : Nat × Nat} {b : Bool} (hb : b = true) : zwq wo b q = zwq wo true q := by rw [hb]
theorem zwq_ff {q : Nat × Nat} {b : Bool} (hb : b = false) : zwq wo b q = wo := by rw [hb]; cases wo <;> rfl
/-- a later FAULT at a token, once the token is read -/
theorem M_later (hL : zLY Z t u) (hT : zTM I J K P V X) (hB : zMB K P V W X) {t0 : Nat} (h : zMt I K P r) {k : Nat} (hk : 1 ≤ k ∧ k ≤ 6) (ht : t0 ≤ 400) (hg : ∀ j, j < t0 → K j ≠ 0) (hw : zMw I P t0 wo) {l3 : Option Value} (e3 : l3 = none) : ∃ I', zE d kX12_wrong 0 [some (.ref 420), some (.int (nI k)), some (.int (nI t0)), l3] [] Z I J (none, Z, I', J) ∧ zMt I' K P r ∧ (zrok r → zMw I' P (t0 + 1) (zwq wo true (k, t0))) ∧ zf4 [15, 16] I I' :=
  M_wrong hL hT hB h hk (by omega) (fun _ => hg) (fun _ => hw) e3
theorem M_known (hL : zLY Z t u) (hT : zTM I J K P V X) (hB : zMB K P V W X) (hN : zrok r → zMnm I J K W X n N) (h : zMc I K P r wo) : ∃ v I', zE (d + 3) kX12_known 0 [some (.ref 420), none, none] [] Z I J (some (.int v), Z, I', J) ∧ zMc I' K P (ztk K 2 r) (zwom W N n 4 true r wo) ∧ zf4 [11, 13, 14, 15, 16] I I' ∧ ((∀ t0, r = .ok t0 → zrok (ztk K 2 r) → v = zoi (zfnd N (W t0) n 0)) ∧ (¬ zrok (ztk K 2 r) → v = -1)) := by
  obtain ⟨I1, g1, g2, g3⟩ := M_must (d := d) hL hT hB h.1 (k := 2) (by decide) (by decide)
  have g3' := g3.mono (F' := [11, 13, 14, 15, 16]) (by decide)
  cases hr : ztk K 2 r with
  | error e =>
    rw [hr] at g2
    exact ⟨-1, I1, BX12_known_0 hL ⟨I1, g1, fun q => absurd q g2.e0.2.1, fun _ => rfl⟩, zMc.err g2, g3', fun t0 _ q => absurd q (by simp [zrok]), fun _ => rfl⟩
  | ok t1 =>
    obtain ⟨t0, e0, e2, e4, e5⟩ := ztk_ok hr
    rw [hr] at g2
    subst e0
    obtain ⟨⟨p1, p2⟩, p3, p4⟩ := h.1
    have hn := hN trivial
    have hw := h.2 t0 rfl
    have z1 : I1 420 13 ≤ 0 := by rw [g2.2.1]; decide
    have hm := M_manAt (d := d + 2) hL (hT.f4 g3) hB (hn.f4 g3 (by decide)) (i := t0) (by omega) p2
    rw [if_pos e2, ← p4] at hm
    obtain ⟨o, eo⟩ : ∃ o, o = zfnd N (W t0) n 0 := ⟨_, rfl⟩
    have ew : zwom W N n 4 true (.ok t0) wo = zwq wo (o.isNone == true) (4, t0) := by rw [eo]; rfl
    rw [ew]
    rw [← eo] at hm
    have hw1 := hw.f4 g3 (by decide) (by decide)
    cases o with
    | some m =>
      have hm7 : m < 7 := by have := (zfnd_lt _ _ _ eo.symm).2.1; have := hn.1.1; omega
      exact ⟨nI m, I1, BX12_known_0 hL ⟨I1, g1, fun _ => ⟨_, hm, fun _ => rfl, fun q => absurd (znn (by omega)) q⟩, fun q => absurd z1 q⟩, ⟨g2, fun t2 q => by cases q; exact (hw1.mono (by omega)).ok (zwq_ff rfl).symm⟩, g3', fun t2 q _ => by cases q; rw [← eo]; rfl, fun q => absurd trivial q⟩
    | none =>
      obtain ⟨I2, f1, f2, f3, f4⟩ := M_later (d := d + 2) hL (hT.f4 g3) hB g2 (k := 4) (by decide) p1 p2 hw1 rfl
      exact ⟨-1, I2, BX12_known_0 hL ⟨I1, g1, fun _ => ⟨_, hm, fun q => absurd q (by decide), fun _ => ⟨I2, by rw [p4]; exact f1, rfl⟩⟩, fun q => absurd z1 q⟩, ⟨f2, fun t2 q => by cases q; exact ((f3 trivial).mono (by omega)).ok (zwq_tt rfl)⟩, g3'.tr (f4.mono (by decide)), fun t2 q _ => by cases q; rw [← eo]; rfl, fun q => absurd trivial q⟩
theorem M_bounded (hL : zLY Z t u) (hT : zTM I J K P V X) (hB : zMB K P V W X) {a b : Nat} (ha : a < 10000) (hb : b < 100000) (h : zMc I K P r wo) : ∃ v I', zE (d + 2) kX12_bounded 0 [some (.ref 420), some (.int (nI a)), some (.int (nI b)), none] [] Z I J (some (.int (nI v)), Z, I', J) ∧ zMc I' K P (ztk K 3 r) (zwob V a b r wo) ∧ zf4 [11, 13, 14, 15, 16] I I' ∧ v ≤ 9999 ∧ ∀ t0, r = .ok t0 → K t0 = 3 → v = V t0 := by
  cases r with
  | error e =>
    obtain ⟨I1, g1, g2, g3⟩ := M_fail (d := d + 1) hL hT h.1 (k := 1) (by decide)
    exact ⟨a, I1, BX12_bounded_0 _ _ hL ⟨fun _ => ⟨I1, g1, rfl⟩, fun q => absurd h.1.e0.2.2 q⟩, zMc.err g2, g3.mono (by decide), by omega, fun t0 q => absurd q (by simp)⟩
  | ok t0 =>
    obtain ⟨v, v1, v2⟩ := M_is (d := d + 1) hL hT hB h.1 (k := 3) (by decide)
    have n0 : ¬ 0 < I 420 13 := by rw [h.1.2.1]; decide
    by_cases c : K t0 = 3
    · have hv : ¬ v = 0 := v2.mpr ⟨t0, rfl, c⟩
      obtain ⟨⟨p1, p2⟩, p3, p4⟩ := h.1
      have hw := h.2 t0 rfl
      have e5 := (hT t0 (by omega) p2).2.1 c
      have hV := hB.2.1 t0 c
      have ey : I 425 (I 420 11).toNatClampNeg = nI (V t0) := by rw [p4, zclm (by omega), e5]
      have ez : zwob V a b (.ok t0) wo = zwq wo (decide (V t0 < a ∨ b < V t0)) (5, t0) := rfl
      have et : ztk K 3 (.ok t0) = zgr (.ok t0) := by show (if K t0 = 3 then zgn t0 else _) = _; rw [if_pos c]; rfl
      have kz : ∀ t1, (Except.ok t0 : zRt) = .ok t1 → K t1 ≠ 0 := fun t1 q => by cases q; rw [c]; decide
      rw [ez, et]
      have fin : ∀ {I5 : zI}, zMt I5 K P (zgr (.ok t0)) → zMw I5 P (t0 + 1) (zwq wo (decide (V t0 < a ∨ b < V t0)) (5, t0)) → zMc I5 K P (zgr (.ok t0)) (zwq wo (decide (V t0 < a ∨ b < V t0)) (5, t0)) := fun h1 h2 => ⟨h1, fun t1 q => by
        have := (zgn_ok q).2
        rw [this]; exact h2⟩
      by_cases q1 : V t0 < a ∨ b < V t0
      · obtain ⟨I4, f1, f2, f3, f4⟩ := M_later (d := d + 1) hL hT hB h.1 (k := 5) (by decide) p1 p2 hw rfl
        obtain ⟨I5, k1, k2, k3⟩ := M_goesOn (d := d) hL (hT.f4 f4) f2 kz
        have hw5 := ((f3 trivial).f4 k3 (by decide) (by decide)).ok (zwq_tt (decide_eq_true q1)).symm
        rw [← p4] at f1
        refine ⟨V t0, I5, BX12_bounded_0 _ _ hL ⟨fun q => absurd q n0, fun _ => ⟨v, v1, fun _ => ⟨by rw [p4]; exact zvin (by omega) (by decide), fun y ey' => ?_⟩, fun q => absurd q hv⟩⟩, fin k2 hw5, (f4.mono (by decide)).tr (k3.mono (by decide)), hV, fun t1 q _ => by cases q; rfl⟩
        rw [ey] at ey'
        rw [ey']
        refine ⟨fun _ => ⟨I4, f1, I5, k1, rfl⟩, fun q2 => ⟨fun q3 => ?_, fun _ => ⟨I4, f1, I5, k1, rfl⟩⟩⟩
        rw [zlt (by omega) (by omega)] at q2
        rw [zle' (by omega) (by omega)] at q3
        omega
      · obtain ⟨I5, k1, k2, k3⟩ := M_goesOn (d := d) hL hT h.1 kz
        have hw5 := ((hw.f4 k3 (by decide) (by decide)).mono (T' := t0 + 1) (by omega)).ok (zwq_ff (q := (5, t0)) (decide_eq_false q1)).symm
        refine ⟨V t0, I5, BX12_bounded_0 _ _ hL ⟨fun q => absurd q n0, fun _ => ⟨v, v1, fun _ => ⟨by rw [p4]; exact zvin (by omega) (by decide), fun y ey' => ?_⟩, fun q => absurd q hv⟩⟩, fin k2 hw5, k3.mono (by decide), hV, fun t1 q _ => by cases q; rfl⟩
        rw [ey] at ey'
        rw [ey']
        refine ⟨fun q2 => ?_, fun q2 => ⟨fun _ => ⟨I5, k1, rfl⟩, fun q3 => ?_⟩⟩
        · rw [zlt (by omega) (by omega)] at q2; omega
        · rw [zle' (by omega) (by omega)] at q3; omega
    · have hv : v = 0 := Classical.not_not.mp fun q => by
        obtain ⟨t1, q1, q2⟩ := v2.mp q
        cases q1; exact c q2
      obtain ⟨I1, g1, g2, g3⟩ := M_fail (d := d + 1) hL hT h.1 (k := 1) (by decide)
      have et : ztk K 3 (.ok t0) = .error (1, t0) := by show (if K t0 = 3 then zgn t0 else _) = _; rw [if_neg c]
      rw [et]
      exact ⟨a, I1, BX12_bounded_0 _ _ hL ⟨fun q => absurd q n0, fun _ => ⟨v, v1, fun q => absurd hv q, fun _ => ⟨I1, g1, rfl⟩⟩⟩, zMc.err g2, g3.mono (by decide), by omega, fun t1 q q2 => by cases q; exact absurd q2 c⟩
end

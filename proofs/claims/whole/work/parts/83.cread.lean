/-! the class's reader: one token -/
def zTC (I : zI) (J : zJ) (K P V W : Nat → Nat) : Prop := ∀ i, i < 402 → (∀ j, j < i → 1 < K j) → (I 21 i = nI (K i) ∧ I 22 i = nI (P i)) ∧ (K i = 3 → I 23 i = nI (V i)) ∧ (K i = 2 → J 24 i = lN (W i))
def zTB (K V W : Nat → Nat) : Prop := (∀ i, K i < 256) ∧ (∀ i, K i = 3 → V i ≤ 9999) ∧ ∀ i, K i = 2 → W i < 2 ^ 40
/-- where the class's reader stands -/
def zCt (I : zI) (K P : Nat → Nat) (r : zRt) : Prop := match r with
  | .error e => (1 ≤ e.1 ∧ e.1 ≤ 6) ∧ I 2 6 = nI e.1 ∧ I 2 1 = nI (P e.2)
  | .ok t => (t ≤ 400 ∧ ∀ j, j < t → 1 < K j) ∧ I 2 6 = 0 ∧ I 2 3 = nI t ∧ I 2 4 = nI (K t) ∧ I 2 5 = nI (P t)
/-- the first FAULT of those that count later -/
def zLt (I : zI) (P : Nat → Nat) (wo : Option (Nat × Nat)) : Prop := match wo with
  | none => I 2 7 = 0
  | some q => (1 ≤ q.1 ∧ q.1 ≤ 6) ∧ I 2 7 = nI q.1 ∧ I 2 8 = nI (P q.2)
def zCl (I : zI) (K P : Nat → Nat) (r : zRt) (wo : Option (Nat × Nat)) : Prop := zCt I K P r ∧ (zrok r → zLt I P wo)
def zf2 (F : List Nat) (I I' : zI) : Prop := (∀ a, a ≠ 2 → I' a = I a) ∧ ∀ k, k ∉ F → I' 2 k = I 2 k
theorem zf2.rf {F : List Nat} {I : zI} : zf2 F I I := ⟨fun _ _ => rfl, fun _ _ => rfl⟩
theorem zf2.tr {F : List Nat} {I I' I'' : zI} (h1 : zf2 F I I') (h2 : zf2 F I' I'') : zf2 F I I'' := ⟨fun a h => (h2.1 a h).trans (h1.1 a h), fun k h => (h2.2 k h).trans (h1.2 k h)⟩
theorem zf2.mono {F F' : List Nat} {I I' : zI} (h : zf2 F I I') (hF : ∀ k ∈ F, k ∈ F') : zf2 F' I I' := ⟨h.1, fun k hk => h.2 k (fun q => hk (hF k q))⟩
theorem zf2.put {F : List Nat} {I : zI} {k : Nat} {v : Int32} (hk : k ∈ F) : zf2 F I (zu I 2 k v) := ⟨fun a ha => zu_ne ha, fun j hj => zu_k (fun e => hj (e ▸ hk))⟩
/-- a later FAULT, if none stands -/
def zwq (wo : Option (Nat × Nat)) (b : Bool) (q : Nat × Nat) : Option (Nat × Nat) := match wo with
  | some x => some x
  | none => if b = true then some q else none
def zwob (V : Nat → Nat) (a b : Nat) (r : zRt) (wo : Option (Nat × Nat)) : Option (Nat × Nat) := match r with
  | .error _ => wo
  | .ok t => zwq wo (decide (V t < a ∨ b < V t)) (5, t)
def zfnd (N : Nat → Nat) (x : Nat) : Nat → Nat → Option Nat
  | 0, _ => none
  | f + 1, m => if N m = x then some m else zfnd N x f (m + 1)
def zoi (o : Option Nat) : Int32 := match o with
  | none => -1
  | some m => nI m
def zwom (W N : Nat → Nat) (n k : Nat) (c : Bool) (r : zRt) (wo : Option (Nat × Nat)) : Option (Nat × Nat) := match r with
  | .error _ => wo
  | .ok t => zwq wo ((zfnd N (W t) n 0).isNone == c) (k, t)
theorem zwq_f (wo : Option (Nat × Nat)) (q : Nat × Nat) : zwq wo false q = wo := by cases wo <;> rfl
section
variable {d : Nat} {Z : zZ} {I I' : zI} {J : zJ} {t u : Nat} {K P V W N : Nat → Nat} {r : zRt} {wo : Option (Nat × Nat)}
theorem zTC.same {I' : zI} (h : zTC I J K P V W) (hs : ∀ a, 20 ≤ a → a ≤ 23 → I' a = I a) : zTC I' J K P V W := fun i hi hg => by
  rw [hs 21 (by decide) (by decide), hs 22 (by decide) (by decide), hs 23 (by decide) (by decide)]; exact h i hi hg
theorem zTC.f2 {F : List Nat} (h : zTC I J K P V W) (hf : zf2 F I I') : zTC I' J K P V W := h.same (fun a h1 h2 => hf.1 a (by omega))
theorem zCt.e0 {e : Nat × Nat} (h : zCt I K P (.error e)) : ¬ I 2 6 = 0 := by
  rw [h.2.1]; exact nI_ne0 (by have := h.1.1; omega) (by have := h.1.2; omega)
theorem zCl.err {e : Nat × Nat} {wo' : Option (Nat × Nat)} (h : zCl I K P (.error e) wo) : zCl I K P (.error e) wo' := ⟨h.1, fun q => absurd q (by simp [zrok])⟩
theorem C_fail (hL : zLY Z t u) (h0 : I 2 6 = 0) {x y : Int32} : zE d kX5_fail 0 [some (.ref 2), some (.int x), some (.int y)] [] Z I J (none, Z, zu (zu I 2 6 x) 2 1 y, J) :=
  BX5_fail_0 _ _ hL ⟨fun q => absurd h0 q, fun _ I1 e1 I2 e2 => by rw [e2, e1]⟩
theorem C_failE (hL : zLY Z t u) (h0 : ¬ I 2 6 = 0) {x y : Int32} : zE d kX5_fail 0 [some (.ref 2), some (.int x), some (.int y)] [] Z I J (none, Z, I, J) :=
  BX5_fail_0 _ _ hL ⟨fun _ => rfl, fun q => absurd q h0⟩
theorem zCt_fail {t0 k : Nat} (hk : 1 ≤ k ∧ k ≤ 6) : zCt (zu (zu I 2 6 (nI k)) 2 1 (nI (P t0))) K P (.error (k, t0)) := ⟨hk, by rw [zu_k (by decide), zu_eq], zu_eq⟩
theorem C_take (hL : zLY Z t u) (hT : zTC I J K P V W) (hB : zTB K V W) {k : Nat} (hk1 : 1 < k) (hk : k < 256) (h : zCt I K P r) : ∃ I', zE (d + 2) kX5_take 0 [some (.ref 2), some (.int (nI k))] [] Z I J (none, Z, I', J) ∧ zCt I' K P (ztk K k r) ∧ zf2 [1, 3, 4, 5, 6] I I' := by
  cases r with
  | error e =>
    have ne := zCt.e0 h
    exact ⟨I, BX5_take_0 _ hL ⟨fun _ => ⟨fun _ => ⟨fun _ => rfl, fun q => absurd q ne⟩, fun _ => ⟨I, C_failE hL ne, rfl⟩⟩, fun _ => ⟨I, C_failE hL ne, rfl⟩⟩, h, zf2.rf⟩
  | ok t0 =>
    obtain ⟨⟨h1, h2⟩, h3, h4, h5, h6⟩ := h
    have hKt := hB.1 t0
    by_cases e : K t0 = k
    · have er : ztk K k (.ok t0) = zgn t0 := by unfold ztk; dsimp only; rw [if_pos e]
      have e4 : I 2 4 = nI k := by rw [h5, e]
      rw [er]
      unfold zgn
      by_cases c : t0 = 400
      · rw [if_pos c]
        have n4 : ¬ I 2 3 < 400 := by rw [h4, c]; decide
        refine ⟨zu (zu I 2 6 (nI 2)) 2 1 (nI (P t0)), BX5_take_0 _ hL ⟨fun _ => ⟨fun q => absurd q n4, fun _ => ⟨_, C_fail hL h3, by rw [h6]; rfl⟩⟩, fun q => absurd e4 q⟩, zCt_fail (by decide), (zf2.put (by decide)).tr (zf2.put (by decide))⟩
      · rw [if_neg c]
        have y4 : I 2 3 < 400 := by rw [h4, show (400 : Int32) = nI 400 from rfl, zlt (by omega) (by decide)]; omega
        have hg : ∀ j, j < t0 + 1 → 1 < K j := fun j hj => by
          by_cases ej : j = t0
          · rw [ej, e]; exact hk1
          · exact h2 j (by omega)
        obtain ⟨⟨g1, g2⟩, -⟩ := hT (t0 + 1) (by omega) hg
        refine ⟨zu (zu (zu I 2 3 (nI (t0 + 1))) 2 4 (nI (K (t0 + 1)))) 2 5 (nI (P (t0 + 1))), BX5_take_0 _ hL ⟨fun _ => ⟨fun _ => ⟨fun q => absurd h3 q, fun _ I1 e1 => ⟨_, BX5_look_0 hL (fun I2 e2 I3 e3 => ?_), rfl⟩⟩, fun q => absurd y4 q⟩, fun q => absurd e4 q⟩, ⟨⟨by omega, hg⟩, ?_, ?_, ?_, zu_eq⟩, ((zf2.put (by decide)).tr (zf2.put (by decide))).tr (zf2.put (by decide))⟩
        · rw [h4, zadd1] at e1
          rw [e1, zu_eq, zatI (by omega) (by decide), zu_ne (by decide), g1] at e2
          have k3 : I2 2 3 = nI (t0 + 1) := by rw [e2, zu_k (by decide), zu_eq]
          rw [k3, zatI (by omega) (by decide), e2, zu_ne (by decide), zu_ne (by decide), g2] at e3
          rw [e3]
        · rw [zu_k (by decide), zu_k (by decide), zu_k (by decide)]; exact h3
        · rw [zu_k (by decide), zu_k (by decide), zu_eq]
        · rw [zu_k (by decide), zu_eq]
    · have er : ztk K k (.ok t0) = .error (1, t0) := by unfold ztk; dsimp only; rw [if_neg e]
      have e4 : ¬ I 2 4 = nI k := by rw [h5, zeq (by omega) (by omega)]; exact e
      rw [er]
      exact ⟨zu (zu I 2 6 (nI 1)) 2 1 (nI (P t0)), BX5_take_0 _ hL ⟨fun q => absurd q e4, fun _ => ⟨_, C_fail hL h3, by rw [h6]; rfl⟩⟩, zCt_fail (by decide), (zf2.put (by decide)).tr (zf2.put (by decide))⟩
theorem zLt.f2 {F : List Nat} (h : zLt I P wo) (hf : zf2 F I I') (h7 : 7 ∉ F) (h8 : 8 ∉ F) : zLt I' P wo := by
  cases wo with
  | none => exact (hf.2 7 h7).trans h
  | some q => exact ⟨h.1, (hf.2 7 h7).trans h.2.1, (hf.2 8 h8).trans h.2.2⟩
theorem zCt.f2 {F : List Nat} (h : zCt I K P r) (hf : zf2 F I I') (hF : ∀ k, k = 1 ∨ 3 ≤ k ∧ k ≤ 6 → k ∉ F) : zCt I' K P r := by
  cases r with
  | error e => exact ⟨h.1, (hf.2 6 (hF 6 (by omega))).trans h.2.1, (hf.2 1 (hF 1 (by omega))).trans h.2.2⟩
  | ok t0 => exact ⟨h.1, (hf.2 6 (hF 6 (by omega))).trans h.2.1, (hf.2 3 (hF 3 (by omega))).trans h.2.2.1, (hf.2 4 (hF 4 (by omega))).trans h.2.2.2.1, (hf.2 5 (hF 5 (by omega))).trans h.2.2.2.2⟩
theorem C_takeL (hL : zLY Z t u) (hT : zTC I J K P V W) (hB : zTB K V W) {k : Nat} (hk1 : 1 < k) (hk : k < 256) (h : zCl I K P r wo) : ∃ I', zE (d + 2) kX5_take 0 [some (.ref 2), some (.int (nI k))] [] Z I J (none, Z, I', J) ∧ zCl I' K P (ztk K k r) wo ∧ zf2 [1, 3, 4, 5, 6] I I' := by
  obtain ⟨I', g1, g2, g3⟩ := C_take (d := d) hL hT hB hk1 hk h.1
  exact ⟨I', g1, ⟨g2, fun q => (h.2 (zrok_tk q)).f2 g3 (by decide) (by decide)⟩, g3⟩
theorem C_later (hL : zLY Z t u) {k i : Nat} (hk : 1 ≤ k ∧ k ≤ 6) (h : zCl I K P r wo) : ∃ I', zE d kX5_failLater 0 [some (.ref 2), some (.int (nI k)), some (.int (nI (P i)))] [] Z I J (none, Z, I', J) ∧ zCl I' K P r (zwq wo true (k, i)) ∧ zf2 [7, 8] I I' := by
  cases r with
  | error e =>
    have ne := zCt.e0 h.1
    exact ⟨I, BX5_failLater_0 _ _ hL ⟨fun _ => rfl, fun q => absurd q ne⟩, h.err, zf2.rf⟩
  | ok t0 =>
    have h0 := h.1.2.1
    have hl := h.2 trivial
    cases wo with
    | some q =>
      have ne : ¬ I 2 7 = 0 := by rw [hl.2.1]; exact nI_ne0 (by have := hl.1.1; omega) (by have := hl.1.2; omega)
      exact ⟨I, BX5_failLater_0 _ _ hL ⟨fun q => absurd h0 q, fun _ => ⟨fun _ => rfl, fun q => absurd q ne⟩⟩, h, zf2.rf⟩
    | none =>
      have f : zf2 [7, 8] I (zu (zu I 2 7 (nI k)) 2 8 (nI (P i))) := (zf2.put (by decide)).tr (zf2.put (by decide))
      refine ⟨zu (zu I 2 7 (nI k)) 2 8 (nI (P i)), BX5_failLater_0 _ _ hL ⟨fun q => absurd h0 q, fun _ => ⟨fun q => absurd hl q, fun _ I1 e1 I2 e2 => by rw [e2, e1]⟩⟩, ⟨h.1.f2 f (fun k hk q => ?_), fun _ => ⟨hk, by rw [zu_k (by decide), zu_eq], zu_eq⟩⟩, f⟩
      simp at q
      omega
theorem C_takeInt (hL : zLY Z t u) (hT : zTC I J K P V W) (hB : zTB K V W) {a b : Nat} (ha : a < 100000) (hb : b < 100000) (h : zCl I K P r wo) : ∃ v I', zE (d + 3) kX5_takeInt 0 [some (.ref 2), some (.int (nI a)), some (.int (nI b)), none, none] [] Z I J (some (.int v), Z, I', J) ∧ zCl I' K P (ztk K 3 r) (zwob V a b r wo) ∧ zf2 [1, 3, 4, 5, 6, 7, 8] I I' ∧ ∀ t0, r = .ok t0 → K t0 = 3 → v = nI (V t0) := by
  obtain ⟨I1, g1, g2, g3⟩ := C_takeL (d := d) hL hT hB (k := 3) (by decide) (by decide) h
  have g3' := g3.mono (F' := [1, 3, 4, 5, 6, 7, 8]) (by decide)
  have hv : ∀ t0, r = .ok t0 → K t0 = 3 → zat I 23 402 (I 2 3) = nI (V t0) := fun t0 e e3 => by
    subst e
    obtain ⟨⟨p1, p2⟩, p3, p4, -⟩ := h.1
    rw [p4, zatI (by omega) (by decide)]
    exact (hT t0 (by omega) p2).2.1 e3
  cases hr : ztk K 3 r with
  | error e =>
    rw [hr] at g2
    have ne := zCt.e0 g2.1
    have fl : ∀ {x y : Int32}, zE (d + 2) kX5_failLater 0 [some (.ref 2), some (.int x), some (.int y)] [] Z I1 J (none, Z, I1, J) := BX5_failLater_0 _ _ hL ⟨fun _ => rfl, fun q => absurd q ne⟩
    exact ⟨_, I1, BX5_takeInt_0 _ _ hL ⟨I1, g1, fun _ => ⟨I1, fl, rfl⟩, fun _ => ⟨fun _ => rfl, fun _ => ⟨I1, fl, rfl⟩⟩⟩, g2.err, g3', hv⟩
  | ok t1 =>
    obtain ⟨t0, e0, e3, e4, e5⟩ := ztk_ok hr
    rw [hr] at g2
    have hv0 := hv t0 e0 e3
    have hVt := hB.2.1 t0 e3
    have e25 : I 2 5 = nI (P t0) := by subst e0; exact h.1.2.2.2.2
    obtain ⟨I2, f1, f2, f3⟩ := C_later (d := d + 2) (J := J) hL (k := 5) (i := t0) (by decide) g2
    have zw : zwob V a b r wo = zwq wo (decide (V t0 < a ∨ b < V t0)) (5, t0) := by rw [e0]; rfl
    rw [zw]
    have c1 : zat I 23 402 (I 2 3) < nI a ↔ V t0 < a := by rw [hv0, zlt (by omega) (by omega)]
    have c2 : zat I 23 402 (I 2 3) ≤ nI b ↔ V t0 ≤ b := by rw [hv0, zle' (by omega) (by omega)]
    rw [← e25] at f1
    by_cases q1 : V t0 < a ∨ b < V t0
    · rw [decide_eq_true q1]
      refine ⟨_, I2, BX5_takeInt_0 _ _ hL ⟨I1, g1, fun _ => ⟨I2, f1, rfl⟩, fun q => ⟨fun q2 => ?_, fun _ => ⟨I2, f1, rfl⟩⟩⟩, f2, g3'.tr (f3.mono (by decide)), hv⟩
      rw [c1] at q; rw [c2] at q2; omega
    · rw [decide_eq_false q1, zwq_f]
      refine ⟨_, I1, BX5_takeInt_0 _ _ hL ⟨I1, g1, fun q => ?_, fun q => ⟨fun _ => rfl, fun q2 => ?_⟩⟩, g2, g3', hv⟩
      · rw [c1] at q; omega
      · rw [c2] at q2; omega
theorem C_nameAt (hL : zLY Z t u) (x : Int32) : ∃ w, zE d kX8_nameAt 0 [some (.ref 20), some (.int x)] [] Z I J (some (.long w), Z, I, J) ∧ ∀ i, i < 402 → x = nI i → w = J 24 i := by
  rcases zix x (n := 402) (by decide) with hx | ⟨i, hi, rfl⟩
  · refine ⟨0, BX8_nameAt_0 _ hL ⟨fun _ => rfl, fun q => ⟨fun _ => rfl, fun q2 => absurd (hx.resolve_left q) q2⟩⟩, fun i hi e => ?_⟩
    exfalso
    subst e
    rcases hx with q | q
    · exact absurd q (zneg (by omega))
    · rw [zle' (by decide) (by omega)] at q; omega
  · refine ⟨J 24 i, BX8_nameAt_0 _ hL ⟨fun q => absurd q (zneg (by omega)), fun _ => ⟨fun q => ?_, fun _ => ⟨zvin hi (by decide), by rw [zclm (by omega)]⟩⟩⟩, fun j hj e => by rw [(zeq (by omega) (by omega)).mp e]⟩
    exfalso
    have q' : nI 402 ≤ nI i := q
    rw [zle' (by decide) (by omega)] at q'; omega
theorem C_manAny (hL : zLY Z t u) (w : Int64) : ∃ v, zE d kX6_manNamed 0 [some (.ref u), some (.long w), none, none] [] Z I J (some (.int v), Z, I, J) := by
  have loop : ∀ f k, k + f = 7 → ∃ v, zE d kX6_manNamed 2 [some (.ref u), some (.long w), none, some (.int (nI k))] [] Z I J (some (.int v), Z, I, J) := by
    intro f
    induction f with
    | zero =>
      intro k hk
      obtain rfl : k = 7 := by omega
      exact ⟨-1, BX6_manNamed_2 _ _ (ly_ux hL) ⟨fun _ => rfl, fun _ => ⟨fun _ => rfl, fun q => absurd (by decide) q⟩⟩⟩
    | succ f ih =>
      intro k hk
      obtain ⟨v, hv⟩ := ih (k + 1) (by omega)
      have n7 : ¬ nI 7 ≤ nI k := by rw [zle' (by decide) (by omega)]; omega
      by_cases c1 : I u 2 ≤ nI k
      · exact ⟨-1, BX6_manNamed_2 _ _ (ly_ux hL) ⟨fun _ => rfl, fun q => absurd c1 q⟩⟩
      · by_cases c2 : lg_cmp (J (u + 16) (nI k).toNatClampNeg) w = 0
        · exact ⟨nI k, BX6_manNamed_2 _ _ (ly_ux hL) ⟨fun q => absurd q c1, fun _ => ⟨fun q => absurd q n7, fun _ => ⟨zvin (by omega) (by decide), fun q => absurd c2 q, fun _ => rfl⟩⟩⟩⟩
        · exact ⟨v, BX6_manNamed_2 _ _ (ly_ux hL) ⟨fun q => absurd q c1, fun _ => ⟨fun q => absurd q n7, fun _ => ⟨zvin (by omega) (by decide), fun _ => by rw [zadd1]; exact hv, fun q => absurd q c2⟩⟩⟩⟩
  obtain ⟨v, hv⟩ := loop 7 0 rfl
  exact ⟨v, BX6_manNamed_0 _ (ly_ux hL) hv⟩
/-- the NAMES of the class's men -/
def zNm (I : zI) (J : zJ) (u n : Nat) (N : Nat → Nat) : Prop := n ≤ 7 ∧ I u 2 = nI n ∧ ∀ m, m < n → J (u + 16) m = lN (N m) ∧ N m < 2 ^ 40
theorem C_manNamed (hL : zLY Z t u) {n x : Nat} (h : zNm I J u n N) (hx : x < 2 ^ 40) : zE d kX6_manNamed 0 [some (.ref u), some (.long (lN x)), none, none] [] Z I J (some (.int (zoi (zfnd N x n 0))), Z, I, J) := by
  obtain ⟨h7, hn, hN⟩ := h
  have loop : ∀ f k, k + f = n → zE d kX6_manNamed 2 [some (.ref u), some (.long (lN x)), none, some (.int (nI k))] [] Z I J (some (.int (zoi (zfnd N x f k))), Z, I, J) := by
    intro f
    induction f with
    | zero =>
      intro k hk
      obtain rfl : k = n := by omega
      exact BX6_manNamed_2 _ _ (ly_ux hL) ⟨fun _ => rfl, fun q => absurd (by rw [hn]; exact Int32.le_refl _) q⟩
    | succ f ih =>
      intro k hk
      have n7 : ¬ nI 7 ≤ nI k := by rw [zle' (by decide) (by omega)]; omega
      have c1 : ¬ I u 2 ≤ nI k := by rw [hn, zle' (by omega) (by omega)]; omega
      obtain ⟨e1, e2⟩ := hN k (by omega)
      have e : lg_cmp (J (u + 16) (nI k).toNatClampNeg) (lN x) = 0 ↔ N k = x := by rw [zclm (by omega), e1, lg_cmp_eq, pk_lEQ (by omega) (by omega)]
      simp only [zfnd]
      by_cases c2 : N k = x
      · rw [if_pos c2]
        exact BX6_manNamed_2 _ _ (ly_ux hL) ⟨fun q => absurd q c1, fun _ => ⟨fun q => absurd q n7, fun _ => ⟨zvin (by omega) (by decide), fun q => absurd (e.mpr c2) q, fun _ => rfl⟩⟩⟩
      · rw [if_neg c2]
        exact BX6_manNamed_2 _ _ (ly_ux hL) ⟨fun q => absurd q c1, fun _ => ⟨fun q => absurd q n7, fun _ => ⟨zvin (by omega) (by decide), fun _ => by rw [zadd1]; exact ih (k + 1) (by omega), fun q => absurd (e.mp q) c2⟩⟩⟩
  exact BX6_manNamed_0 _ (ly_ux hL) (loop n 0 (by omega))
theorem zNm.f2 {F : List Nat} {n : Nat} (h : zNm I J u n N) (hf : zf2 F I I') (hu : u ≠ 2) : zNm I' J u n N := ⟨h.1, by rw [hf.1 u hu]; exact h.2.1, h.2.2⟩
theorem zfnd_lt {x : Nat} : ∀ (f m k : Nat), zfnd N x f m = some k → m ≤ k ∧ k < m + f ∧ N k = x := by
  intro f
  induction f with
  | zero => intro m k h; exact absurd h (by simp [zfnd])
  | succ f ih =>
    intro m k h
    simp only [zfnd] at h
    split at h
    · cases h; exact ⟨Nat.le_refl _, by omega, ‹_›⟩
    · have := ih (m + 1) k h; omega
theorem C_takeMan (hL : zLY Z t u) (hu : u = 3 ∨ u = 30) (hT : zTC I J K P V W) (hB : zTB K V W) {n : Nat} (hN : zrok r → zNm I J u n N) (h : zCl I K P r wo) : ∃ v I', zE (d + 3) kX5_takeMan 0 [some (.ref 2), none, none] [] Z I J (some (.int v), Z, I', J) ∧ zCl I' K P (ztk K 2 r) (zwom W N n 4 true r wo) ∧ zf2 [1, 3, 4, 5, 6, 7, 8] I I' ∧ ∀ t0, r = .ok t0 → K t0 = 2 → v = zoi (zfnd N (W t0) n 0) := by
  obtain ⟨I1, g1, g2, g3⟩ := C_takeL (d := d) hL hT hB (k := 2) (by decide) (by decide) h
  have g3' := g3.mono (F' := [1, 3, 4, 5, 6, 7, 8]) (by decide)
  obtain ⟨w, w1, w2⟩ := C_nameAt (d := d + 2) (I := I) (J := J) hL (I 2 3)
  cases hr : ztk K 2 r with
  | error e =>
    rw [hr] at g2
    have ne := zCt.e0 g2.1
    have fl : ∀ {x y : Int32}, zE (d + 2) kX5_failLater 0 [some (.ref 2), some (.int x), some (.int y)] [] Z I1 J (none, Z, I1, J) := BX5_failLater_0 _ _ hL ⟨fun _ => rfl, fun q => absurd q ne⟩
    obtain ⟨v, hv, hv2⟩ : ∃ v, zE (d + 2) kX6_manNamed 0 [some (.ref u), some (.long w), none, none] [] Z I J (some (.int v), Z, I, J) ∧ ∀ t0, r = .ok t0 → K t0 = 2 → v = zoi (zfnd N (W t0) n 0) := by
      by_cases c : ∃ t0, r = .ok t0 ∧ K t0 = 2
      · obtain ⟨t0, e0, e2⟩ := c
        have hn := hN (by rw [e0]; trivial)
        have ht0 : I 2 3 = nI t0 ∧ t0 ≤ 400 ∧ ∀ j, j < t0 → 1 < K j := by subst e0; exact ⟨h.1.2.2.1, h.1.1.1, h.1.1.2⟩
        have ew : w = lN (W t0) := by rw [w2 t0 (by omega) ht0.1]; exact (hT t0 (by omega) ht0.2.2).2.2 e2
        refine ⟨_, by rw [ew]; exact C_manNamed hL hn (hB.2.2 t0 e2), fun t1 e1 _ => ?_⟩
        rw [e0] at e1
        cases e1; rfl
      · obtain ⟨v, hv⟩ := C_manAny (d := d + 2) (I := I) (J := J) hL w
        exact ⟨v, hv, fun t0 e0 e2 => absurd ⟨t0, e0, e2⟩ c⟩
    exact ⟨v, I1, BX5_takeMan_0 hL ⟨w, w1, v, hv, I1, g1, fun _ => rfl, fun _ => ⟨I1, fl, rfl⟩⟩, g2.err, g3', hv2⟩
  | ok t1 =>
    obtain ⟨t0, e0, e2, e4, e5⟩ := ztk_ok hr
    rw [hr] at g2
    have hn := hN (by rw [e0]; trivial)
    have ht0 : I 2 3 = nI t0 ∧ t0 ≤ 400 ∧ (∀ j, j < t0 → 1 < K j) ∧ I 2 5 = nI (P t0) := by subst e0; exact ⟨h.1.2.2.1, h.1.1.1, h.1.1.2, h.1.2.2.2.2⟩
    have ew : w = lN (W t0) := by rw [w2 t0 (by omega) ht0.1]; exact (hT t0 (by omega) ht0.2.2.1).2.2 e2
    have hm := C_manNamed (d := d + 2) hL hn (hB.2.2 t0 e2)
    rw [← ew] at hm
    have hv : ∀ t1, r = .ok t1 → K t1 = 2 → zoi (zfnd N (W t0) n 0) = zoi (zfnd N (W t1) n 0) := fun t1 q _ => by
      rw [e0] at q
      cases q; rfl
    obtain ⟨I2, f1, f2, f3⟩ := C_later (d := d + 2) (J := J) hL (k := 4) (i := t0) (by decide) g2
    rw [← ht0.2.2.2] at f1
    have zw : zwom W N n 4 true r wo = zwq wo (zfnd N (W t0) n 0).isNone (4, t0) := by rw [e0]; unfold zwom; dsimp only; cases (zfnd N (W t0) n 0) <;> rfl
    rw [zw]
    cases hz : zfnd N (W t0) n 0 with
    | none =>
      rw [hz] at hm hv
      exact ⟨-1, I2, BX5_takeMan_0 hL ⟨w, w1, -1, hm, I1, g1, fun q => absurd rfl q, fun _ => ⟨I2, f1, rfl⟩⟩, f2, g3'.tr (f3.mono (by decide)), hv⟩
    | some m =>
      rw [hz] at hm hv
      have hlt := zfnd_lt n 0 m hz
      have h7 := hn.1
      refine ⟨nI m, I1, BX5_takeMan_0 hL ⟨w, w1, nI m, hm, I1, g1, fun _ => rfl, fun q => ?_⟩, by rw [show (some m : Option Nat).isNone = false from rfl, zwq_f]; exact g2, g3', hv⟩
      exfalso
      have : ¬ nI m < 0 := zneg (by omega)
      rw [q] at this
      exact this (by decide)
end

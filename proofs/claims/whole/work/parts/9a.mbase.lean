/-! the reference's reader: where it stands -/
def zkL : List Nat := [0, 1, 2, 3, 59, 61, 43, 45, 42, 47, 60, 40, 41, 128, 129, 130, 131, 132, 133, 134, 135, 136, 137, 138, 139, 140, 141, 142, 143, 144]
theorem zkr_inj : ∀ a ∈ zkL, ∀ b ∈ zkL, zkr a = zkr b → a = b := by decide +kernel
theorem zkL_lt : ∀ a ∈ zkL, a < 256 ∧ zkr a < 100 := by decide +kernel
def zTM (I : zI) (J : zJ) (K P V X : Nat → Nat) : Prop := ∀ i, i < 401 → (∀ j, j < i → K j ≠ 0) → (I 423 i = nI (zkr (K i)) ∧ I 424 i = nI (P i)) ∧ (K i = 3 → I 425 i = nI (V i)) ∧ (K i = 2 → J 426 i = lN (X i))
def zMB (K P V W X : Nat → Nat) : Prop := (∀ i, K i ∈ zkL) ∧ (∀ i, K i = 3 → V i ≤ 9999) ∧ (∀ i, K i = 2 → X i < 2 ^ 40) ∧ (∀ i j, K i = 2 → K j = 2 → (W i = W j ↔ X i = X j)) ∧ (∀ i, P i ≤ 2000) ∧ ∀ i, K i ≠ 0 → P i < P (i + 1)
def zMt (I : zI) (K P : Nat → Nat) (r : zRt) : Prop := match r with
  | .error e => (1 ≤ e.1 ∧ e.1 ≤ 6) ∧ I 420 13 = nI e.1 ∧ I 420 14 = nI (P e.2) ∧ ∃ t, t ≤ 400 ∧ I 420 11 = nI t
  | .ok t => (t ≤ 400 ∧ ∀ j, j < t → K j ≠ 0) ∧ I 420 13 = 0 ∧ I 420 11 = nI t
def zMw (I : zI) (P : Nat → Nat) (T : Nat) (wo : Option (Nat × Nat)) : Prop := match wo with
  | none => I 420 15 = 0
  | some q => (1 ≤ q.1 ∧ q.1 ≤ 6) ∧ I 420 15 = nI q.1 ∧ I 420 16 = nI (P q.2) ∧ q.2 < T
def zf4 (F : List Nat) (I I' : zI) : Prop := (∀ a, a ≠ 420 → I' a = I a) ∧ ∀ k, k ∉ F → I' 420 k = I 420 k
theorem zf4.rf {F : List Nat} {I : zI} : zf4 F I I := ⟨fun _ _ => rfl, fun _ _ => rfl⟩
theorem zf4.tr {F : List Nat} {I I' I'' : zI} (h1 : zf4 F I I') (h2 : zf4 F I' I'') : zf4 F I I'' := ⟨fun a h => (h2.1 a h).trans (h1.1 a h), fun k h => (h2.2 k h).trans (h1.2 k h)⟩
theorem zf4.mono {F F' : List Nat} {I I' : zI} (h : zf4 F I I') (hF : ∀ k ∈ F, k ∈ F') : zf4 F' I I' := ⟨h.1, fun k hk => h.2 k (fun q => hk (hF k q))⟩
theorem zf4.put {F : List Nat} {I : zI} {k : Nat} {v : Int32} (hk : k ∈ F) : zf4 F I (zu I 420 k v) := ⟨fun a ha => zu_ne ha, fun j hj => zu_k (fun e => hj (e ▸ hk))⟩
def zflr (k : Nat) (r : zRt) : zRt := match r with
  | .error e => .error e
  | .ok t => .error (k, t)
def zgr (r : zRt) : zRt := match r with
  | .error e => .error e
  | .ok t => zgn t
theorem zMw.mono {I : zI} {P : Nat → Nat} {T T' : Nat} {wo : Option (Nat × Nat)} (h : zMw I P T wo) (hT : T ≤ T') : zMw I P T' wo := by
  cases wo with
  | none => exact h
  | some q => exact ⟨h.1, h.2.1, h.2.2.1, Nat.lt_of_lt_of_le h.2.2.2 hT⟩
section
variable {d : Nat} {Z : zZ} {I I' : zI} {J : zJ} {t u : Nat} {K P V W X N : Nat → Nat} {r : zRt} {wo : Option (Nat × Nat)}
theorem zMw.f4 {F : List Nat} {T : Nat} (h : zMw I P T wo) (hf : zf4 F I I') (h1 : 15 ∉ F) (h2 : 16 ∉ F) : zMw I' P T wo := by
  cases wo with
  | none => exact (hf.2 15 h1).trans h
  | some q => exact ⟨h.1, (hf.2 15 h1).trans h.2.1, (hf.2 16 h2).trans h.2.2.1, h.2.2.2⟩
theorem zMt.f4 {F : List Nat} (h : zMt I K P r) (hf : zf4 F I I') (f1 : 11 ∉ F) (f2 : 13 ∉ F) (f3 : 14 ∉ F) : zMt I' K P r := by
  cases r with
  | error e =>
    obtain ⟨h1, h2, h3, t0, h4, h5⟩ := h
    exact ⟨h1, (hf.2 13 f2).trans h2, (hf.2 14 f3).trans h3, t0, h4, (hf.2 11 f1).trans h5⟩
  | ok t0 => exact ⟨h.1, (hf.2 13 f2).trans h.2.1, (hf.2 11 f1).trans h.2.2⟩
theorem zTM.f4 {F : List Nat} (h : zTM I J K P V X) (hf : zf4 F I I') : zTM I' J K P V X := fun i hi hg => by
  rw [hf.1 423 (by decide), hf.1 424 (by decide), hf.1 425 (by decide)]; exact h i hi hg
theorem zMt.e0 {e : Nat × Nat} (h : zMt I K P (.error e)) : ¬ I 420 13 = 0 ∧ ¬ I 420 13 ≤ 0 ∧ 0 < I 420 13 := by
  obtain ⟨⟨h1, h2⟩, h3, -⟩ := h
  rw [h3]
  exact ⟨nI_ne0 (by omega) (by omega), by rw [show (0 : Int32) = nI 0 from rfl, zle' (by omega) (by decide)]; omega, by rw [show (0 : Int32) = nI 0 from rfl, zlt (by decide) (by omega)]; omega⟩
theorem zMt.in403 (h : zMt I K P r) : ∃ t0, t0 ≤ 400 ∧ I 420 11 = nI t0 := by
  cases r with
  | error e => exact h.2.2.2
  | ok t0 => exact ⟨t0, h.1.1, h.2.2⟩
theorem zMt.in (h : zMt I K P r) : vp_in (I 420 11) 403 := by
  obtain ⟨t0, h1, h2⟩ := h.in403
  rw [h2]; exact zvin (by omega) (by decide)
theorem zMB.lt (hB : zMB K P V W X) : ∀ (b a : Nat), a < b → (∀ j, j < b → K j ≠ 0) → P a < P b := by
  intro b
  induction b with
  | zero => intro a h; omega
  | succ b ih =>
    intro a h hg
    have h1 := hB.2.2.2.2.2 b (hg b (by omega))
    by_cases e : a = b
    · rw [e]; exact h1
    · exact Nat.lt_trans (ih a (by omega) (fun j hj => hg j (by omega))) h1
theorem M_is (hL : zLY Z t u) (hT : zTM I J K P V X) (hB : zMB K P V W X) (h : zMt I K P r) {k : Nat} (hk : k ∈ zkL) : ∃ v, zE d kX12_is 0 [some (.ref 420), some (.int (nI (zkr k)))] [] Z I J (some (.int v), Z, I, J) ∧ (¬ v = 0 ↔ ∃ t0, r = .ok t0 ∧ K t0 = k) := by
  cases r with
  | error e => exact ⟨0, BX12_is_0 _ hL ⟨fun _ => rfl, fun q => absurd q h.e0.1⟩, fun q => absurd rfl q, fun ⟨t0, q, _⟩ => absurd q (by simp)⟩
  | ok t0 =>
    obtain ⟨⟨h1, h2⟩, h3, h4⟩ := h
    have e3 := (hT t0 (by omega) h2).1.1
    have hv : vp_in (I 420 11) 403 := by rw [h4]; exact zvin (by omega) (by decide)
    have ex : I 423 (I 420 11).toNatClampNeg = nI (zkr (K t0)) := by rw [h4, zclm (by omega), e3]
    have iff : I 423 (I 420 11).toNatClampNeg = nI (zkr k) ↔ K t0 = k := by
      rw [ex, zeq (by have := (zkL_lt _ (hB.1 t0)).2; omega) (by have := (zkL_lt _ hk).2; omega)]
      exact ⟨zkr_inj _ (hB.1 t0) _ hk, fun q => by rw [q]⟩
    by_cases c : K t0 = k
    · exact ⟨1, BX12_is_0 _ hL ⟨fun q => absurd h3 q, fun _ => ⟨hv, fun q => absurd (iff.mpr c) q, fun _ => rfl⟩⟩, fun _ => ⟨t0, rfl, c⟩, fun _ => by decide⟩
    · exact ⟨0, BX12_is_0 _ hL ⟨fun q => absurd h3 q, fun _ => ⟨hv, fun _ => rfl, fun q => absurd (iff.mp q) c⟩⟩, fun q => absurd rfl q, fun ⟨t1, q, q2⟩ => by cases q; exact absurd q2 c⟩
theorem M_fail (hL : zLY Z t u) (hT : zTM I J K P V X) (h : zMt I K P r) {k : Nat} (hk : 1 ≤ k ∧ k ≤ 6) : ∃ I', zE d kX12_fail 0 [some (.ref 420), some (.int (nI k))] [] Z I J (none, Z, I', J) ∧ zMt I' K P (zflr k r) ∧ zf4 [13, 14] I I' := by
  cases r with
  | error e => exact ⟨I, BX12_fail_0 _ hL ⟨fun q => absurd q h.e0.2.1, fun _ => rfl⟩, h, zf4.rf⟩
  | ok t0 =>
    obtain ⟨⟨h1, h2⟩, h3, h4⟩ := h
    have e3 := (hT t0 (by omega) h2).1.2
    refine ⟨zu (zu I 420 13 (nI k)) 420 14 (nI (P t0)), BX12_fail_0 _ hL ⟨fun _ I1 e1 => ⟨?_, fun I2 e2 => ?_⟩, fun q => absurd (by rw [h3]; decide) q⟩, ⟨hk, by rw [zu_k (by decide), zu_eq], zu_eq, t0, h1, by rw [zu_k (by decide), zu_k (by decide)]; exact h4⟩, (zf4.put (by decide)).tr (zf4.put (by decide))⟩
    · rw [e1, zu_k (by decide), h4]; exact zvin (by omega) (by decide)
    · have x4 : I1 420 11 = nI t0 := by rw [e1, zu_k (by decide)]; exact h4
      rw [e2, x4, zclm (by omega), e1, zu_ne (b := 424) (by decide), e3]
theorem M_goesOn (hL : zLY Z t u) (hT : zTM I J K P V X) (h : zMt I K P r) (hk : ∀ t0, r = .ok t0 → K t0 ≠ 0) : ∃ I', zE (d + 1) kX12_goesOn 0 [some (.ref 420)] [] Z I J (none, Z, I', J) ∧ zMt I' K P (zgr r) ∧ zf4 [11, 13, 14] I I' := by
  obtain ⟨t0, h1, h4⟩ := h.in403
  by_cases c : t0 = 400
  · have e4 : I 420 11 = 400 := by rw [h4, c]; rfl
    obtain ⟨I2, g1, g2, g3⟩ := M_fail (d := d) hL hT h (k := 2) (by decide)
    refine ⟨I2, BX12_goesOn_0 hL ⟨fun q => absurd e4 q, fun _ => ⟨I2, g1, rfl⟩⟩, ?_, g3.mono (by decide)⟩
    cases r with
    | error e => exact g2
    | ok t1 =>
      obtain rfl : t1 = t0 := by have := h.2.2; rw [h4, zeq (by omega) (by have := h.1.1; omega)] at this; exact this.symm
      show zMt I2 K P (zgn t1)
      unfold zgn; rw [if_pos c]; exact g2
  · have e4 : ¬ I 420 11 = 400 := by rw [h4, show (400 : Int32) = nI 400 from rfl, zeq (by omega) (by decide)]; exact c
    refine ⟨zu I 420 11 (nI (t0 + 1)), BX12_goesOn_0 hL ⟨fun _ I1 e1 => by rw [e1, h4, zadd1], fun q => absurd q e4⟩, ?_, zf4.put (by decide)⟩
    cases r with
    | error e =>
      obtain ⟨g1, g2, g3, -⟩ := h
      exact ⟨g1, by rw [zu_k (by decide)]; exact g2, by rw [zu_k (by decide)]; exact g3, t0 + 1, by omega, zu_eq⟩
    | ok t1 =>
      obtain rfl : t1 = t0 := by have := h.2.2; rw [h4, zeq (by omega) (by have := h.1.1; omega)] at this; exact this.symm
      show zMt _ K P (zgn t1)
      unfold zgn; rw [if_neg c]
      refine ⟨⟨by omega, fun j hj => ?_⟩, by rw [zu_k (by decide)]; exact h.2.1, zu_eq⟩
      by_cases e : j = t1
      · rw [e]; exact hk _ rfl
      · exact h.1.2 j (by omega)
theorem M_must (hL : zLY Z t u) (hT : zTM I J K P V X) (hB : zMB K P V W X) (h : zMt I K P r) {k : Nat} (hk : k ∈ zkL) (hk0 : k ≠ 0) : ∃ I', zE (d + 2) kX12_must 0 [some (.ref 420), some (.int (nI (zkr k)))] [] Z I J (none, Z, I', J) ∧ zMt I' K P (ztk K k r) ∧ zf4 [11, 13, 14] I I' := by
  obtain ⟨v, v1, v2⟩ := M_is (d := d + 1) hL hT hB h hk
  by_cases c : v = 0
  · obtain ⟨I2, g1, g2, g3⟩ := M_fail (d := d + 1) hL hT h (k := 1) (by decide)
    refine ⟨I2, BX12_must_0 _ hL ⟨v, v1, fun _ => ⟨I2, g1, rfl⟩, fun q => absurd c q⟩, ?_, g3.mono (by decide)⟩
    cases r with
    | error e => exact g2
    | ok t0 =>
      have : ¬ K t0 = k := fun q => (v2.mpr ⟨t0, rfl, q⟩) c
      show zMt I2 K P (if K t0 = k then zgn t0 else .error (1, t0))
      rw [if_neg this]; exact g2
  · obtain ⟨t0, rfl, e⟩ := v2.mp c
    obtain ⟨I2, g1, g2, g3⟩ := M_goesOn (d := d) hL hT h (fun t1 q => by cases q; rw [e]; exact hk0)
    refine ⟨I2, BX12_must_0 _ hL ⟨v, v1, fun q => absurd q c, fun _ => ⟨I2, g1, rfl⟩⟩, ?_, g3⟩
    show zMt I2 K P (if K t0 = k then zgn t0 else .error (1, t0))
    rw [if_pos e]; exact g2
theorem M_wrong (hL : zLY Z t u) (hT : zTM I J K P V X) (hB : zMB K P V W X) (h : zMt I K P r) {k i : Nat} (hk : 1 ≤ k ∧ k ≤ 6) (hi : i < 401) (hg : zrok r → ∀ j, j < i → K j ≠ 0) (hw : zrok r → zMw I P i wo) {l3 : Option Value} (e3 : l3 = none) : ∃ I', zE d kX12_wrong 0 [some (.ref 420), some (.int (nI k)), some (.int (nI i)), l3] [] Z I J (none, Z, I', J) ∧ zMt I' K P r ∧ (zrok r → zMw I' P (i + 1) (zwq wo true (k, i))) ∧ zf4 [15, 16] I I' := by
  subst e3
  have hv : vp_in (nI i) 403 := zvin (by omega) (by decide)
  cases r with
  | error e => exact ⟨I, BX12_wrong_0 _ _ hL ⟨hv, fun _ => rfl, fun q => absurd h.e0.2.2 q⟩, h, fun q => absurd q (by simp [zrok]), zf4.rf⟩
  | ok t0 =>
    have h3 := h.2.1
    have n0 : ¬ 0 < I 420 13 := by rw [h3]; decide
    have hw := hw trivial
    have hg := hg trivial
    have e4 := (hT i hi hg).1.2
    cases wo with
    | none =>
      have f : zf4 [15, 16] I (zu (zu I 420 15 (nI k)) 420 16 (nI (P i))) := (zf4.put (by decide)).tr (zf4.put (by decide))
      exact ⟨zu (zu I 420 15 (nI k)) 420 16 (nI (P i)), BX12_wrong_0 _ _ hL ⟨hv, fun q => absurd q n0, fun _ => ⟨fun _ I1 e1 I2 e2 => by rw [e2, e1, zclm (by omega), e4], fun q => absurd hw q⟩⟩, h.f4 f (by decide) (by decide) (by decide), fun _ => ⟨hk, by rw [zu_k (by decide), zu_eq], zu_eq, by omega⟩, f⟩
    | some q =>
      obtain ⟨⟨q1, q2⟩, q3, q4, q5⟩ := hw
      have ne : ¬ I 420 15 = 0 := by rw [q3]; exact nI_ne0 (by omega) (by omega)
      have pl := hB.lt i q.2 q5 hg
      have hp := hB.2.2.2.2.1
      have lt : I 420 16 < I 424 (nI i).toNatClampNeg := by rw [zclm (by omega), e4, q4, zlt (by have := hp q.2; omega) (by have := hp i; omega)]; exact pl
      exact ⟨I, BX12_wrong_0 _ _ hL ⟨hv, fun q => absurd q n0, fun _ => ⟨fun q => absurd q ne, fun _ => ⟨fun _ => rfl, fun q => absurd lt q⟩⟩⟩, h, fun _ => ⟨⟨q1, q2⟩, q3, q4, by omega⟩, zf4.rf⟩
end

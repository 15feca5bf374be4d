/-! the shortest WAY, tried one order behind the other -/
section
variable {d : Nat} {Z : zZ} {J : zJ} {I I' : zI} {t u v b : Nat} {τ : Nat → Nat → Nat} {Λ : Nat → Option zLaw} {ρ : Nat → Nat}
/-- the errands of a man -/
def zer (τ : Nat → Nat → Nat) (m : Nat) (i : Nat) : Nat × Nat := (τ 5 (6 * m + i), τ 6 (6 * m + i))
/-- the best so far, in the memory -/
def zwb (I : zI) (k : Nat) (a : zWo) (x : Int32) : Prop := match a with
  | none => x = -1
  | some p => x = nI p.1 ∧ p.1 < 1000 ∧ ∀ i, i < k → I 464 i = nI (zga2 p.2 i)
theorem zdrop {l : List Nat} : ∀ {i a : Nat} {s : List Nat}, l.drop i = a :: s → zga2 l i = a ∧ l.drop (i + 1) = s ∧ i < l.length := by
  induction l with
  | nil => intro i a s h; simp at h
  | cons c r ih =>
    intro i a s h
    cases i with
    | zero => simp at h; exact ⟨h.1, by simpa using h.2, by simp⟩
    | succ i =>
      obtain ⟨h1, h2, h3⟩ := ih (i := i) (by simpa using h)
      exact ⟨by simpa [zga2] using h1, by simpa using h2, by simp; omega⟩
theorem zds_le {x y x' y' : Nat} (h1 : x < 12) (h2 : y < 12) (h3 : x' < 12) (h4 : y' < 12) : zds x y x' y' ≤ 22 := by unfold zds; split <;> split <;> omega
theorem zco_le {E : Nat → Nat × Nat} {k : Nat} (hE : ∀ i, i < k → (E i).1 < 12 ∧ (E i).2 < 12) : ∀ (l : List Nat) (x y : Nat), (∀ a, a ∈ l → a < k) → x < 12 → y < 12 → zco E l x y ≤ 22 * l.length := by
  intro l
  induction l with
  | nil => intro x y _ _ _; exact Nat.zero_le _
  | cons a r ih =>
    intro x y h hx hy
    have ha := hE a (h a (by simp))
    have := ih (E a).1 (E a).2 (fun c hc => h c (by simp [hc])) ha.1 ha.2
    have := zds_le hx hy ha.1 ha.2
    simp only [zco, List.length_cons]
    omega
theorem zokl_ok {k : Nat} {l : List Nat} (h : zokl k l = true) : l.length = k ∧ (∀ i, i < k → zga2 l i < k) ∧ ∀ a, a ∈ l → a < k := by
  unfold zokl at h
  simp only [Bool.and_eq_true, beq_iff_eq] at h
  have h2 : ∀ i, i < k → zga2 l i < k := fun i hi => of_decide_eq_true (zal_i k h.2 i hi)
  refine ⟨h.1, h2, fun a ha => ?_⟩
  obtain ⟨i, hi, e⟩ := List.mem_iff_getElem.mp ha
  have := h2 i (by omega)
  rw [← e]
  simpa [zga2, List.getD, hi] using this
theorem zdsI {x y x' y' : Nat} (h1 : x < 1000) (h2 : y < 1000) (h3 : x' < 1000) (h4 : y' < 1000) : zap (nI x) (nI x') + zap (nI y) (nI y') = nI (zds x y x' y') := by
  rw [zapI (by omega) (by omega), zapI (by omega) (by omega), zadd]; rfl
theorem M_cost (hL : zLY Z t u) (hW : zTW τ Λ) (hM : zMT I v τ Λ) {m : Nat} (hm : m < τ 0 0) {l : List Nat} (hl : zokl (τ 4 m) l = true) (hI : ∀ i, i < τ 4 m → I 463 i = nI (zga2 l i)) {x2 x3 x5 : Int32} {o : zO} {c0 : Nat}
    (K : ((x5 < 0 → zE (d + 1) kX12_wayFrom 166 [some (.ref 420), some (.int (nI m)), some (.int x2), some (.int x3), some (.int (nI (τ 4 m))), some (.int (nI c0)), none, none, none, none, some (.int 0), none] [] Z I J o) ∧ (¬ x5 < 0 → ((x5 ≤ nI c0 → (∃ (v1 : Int32) (I2 : zI), zE d kX12_nextOrder 0 [some (.ref 420), some (.int (nI (τ 4 m))), none, none, none, none, none] [] Z I J (some (.int v1), Z, I2, J) ∧ zE (d + 1) kX12_wayFrom 47 [some (.ref 420), some (.int (nI m)), some (.int x2), some (.int x3), some (.int (nI (τ 4 m))), some (.int x5), some (.int v1), none, none, none, none, none] [] Z I2 J o)) ∧ (¬ x5 ≤ nI c0 → zE (d + 1) kX12_wayFrom 166 [some (.ref 420), some (.int (nI m)), some (.int x2), some (.int x3), some (.int (nI (τ 4 m))), some (.int (nI c0)), none, none, none, none, some (.int 0), none] [] Z I J o))))) :
    ∀ (s : List Nat) (i x y c : Nat), l.drop i = s → i ≤ τ 4 m → x < 12 → y < 12 → c + zco (zer τ m) s x y = c0 → zE (d + 1) kX12_wayFrom 64 [some (.ref 420), some (.int (nI m)), some (.int x2), some (.int x3), some (.int (nI (τ 4 m))), some (.int x5), none, some (.int (nI c)), some (.int (nI x)), some (.int (nI y)), some (.int (nI i)), none] [] Z I J o := by
  have h7 := hW.1.1
  have hv2 := hM.1.1
  have h4 := (hW.2.1 m hm).2.2.2.1
  obtain ⟨l1, l2, l3⟩ := zokl_ok hl
  intro s
  induction s with
  | nil =>
    intro i x y c hs hi hx hy hc
    have : τ 4 m ≤ i := by rw [← l1]; exact List.drop_eq_nil_iff.mp hs
    have e : i = τ 4 m := by omega
    have ec : c = c0 := by simpa [zco] using hc
    subst ec
    exact BX12_wayFrom_64 _ _ _ _ _ _ _ _ _ hL ⟨fun _ => K, fun q => absurd (by rw [e]; exact Int32.le_refl _) q⟩
  | cons a s ih =>
    intro i x y c hs hi hx hy hc
    obtain ⟨e1, e2, e3⟩ := zdrop hs
    have hi' : i < τ 4 m := by omega
    have ha : a < τ 4 m := by have := l2 i hi'; rw [e1] at this; exact this
    have hE := hW.2.2.1 m a hm ha
    have hMe := hM.2.2.2.1 m a hm ha
    have w1 := hW.1
    have hp : I 463 (nI i).toNatClampNeg = nI a := by rw [zclm (by omega), hI i hi', e1]
    refine BX12_wayFrom_64 _ _ _ _ _ _ _ _ _ hL ⟨fun q => ?_, fun _ => ⟨zvin (by omega) (by decide), fun y3 ey3 => ?_⟩⟩
    · rw [zle' (by omega) (by omega)] at q; omega
    · have e3' : y3 = nI (42 * v + 6 * m + a) := by
        rw [ey3, hp, hM.1.2, show (42 : Int32) = nI 42 from rfl, show (6 : Int32) = nI 6 from rfl, zmul, zmul, zadd, zadd]
      subst e3'
      have vv : vp_in (nI (42 * v + 6 * m + a)) 84 := zvin (by omega) (by decide)
      refine ⟨vv, vv, fun y4 ey4 => ⟨vv, vv, ?_⟩⟩
      rw [zclm (by omega), hMe.1, hMe.2] at ey4 ⊢
      rw [zdsI (by omega) (by omega) (by omega) (by omega), zadd] at ey4
      rw [ey4, zadd1]
      refine ih (i + 1) _ _ _ e2 (by omega) (by omega) (by omega) ?_
      rw [← hc, Nat.add_assoc]; rfl
theorem M_keep (hL : zLY Z t u) {k m c : Nat} (hk : k ≤ 6) {x2 x3 : Int32} {p : Nat → Nat} : ∀ i, i ≤ k → ∀ I : zI, (∀ j, j < k → I 463 j = nI (p j)) → (∀ j, j < i → I 464 j = nI (p j)) →
    ∃ I' : zI, (∀ j, j < k → I' 464 j = nI (p j)) ∧ (∀ a, a ≠ 464 → I' a = I a) ∧ ∀ o : zO, (∃ (v1 : Int32) (I2 : zI), zE d kX12_nextOrder 0 [some (.ref 420), some (.int (nI k)), none, none, none, none, none] [] Z I' J (some (.int v1), Z, I2, J) ∧ zE (d + 1) kX12_wayFrom 47 [some (.ref 420), some (.int (nI m)), some (.int x2), some (.int x3), some (.int (nI k)), some (.int (nI c)), some (.int v1), none, none, none, none, none] [] Z I2 J o) →
    zE (d + 1) kX12_wayFrom 166 [some (.ref 420), some (.int (nI m)), some (.int x2), some (.int x3), some (.int (nI k)), some (.int (nI c)), none, none, none, none, some (.int (nI i)), none] [] Z I J o := by
  refine zloop _ _ ?_ ?_
  · intro I h1 h2
    exact ⟨I, h2, fun _ _ => rfl, fun o K => BX12_wayFrom_166 _ _ _ _ _ _ hL ⟨fun _ => K, fun q => absurd (Int32.le_refl _) q⟩⟩
  · intro i hi ih I h1 h2
    obtain ⟨I', g1, g2, g3⟩ := ih (zu I 464 i (nI (p i))) (fun j hj => by rw [zu_ne (by decide)]; exact h1 j hj) (fun j hj => by
      by_cases e : j = i
      · subst e; rw [zu_eq]
      · rw [zu_k e]; exact h2 j (by omega))
    refine ⟨I', g1, fun a ha => by rw [g2 a ha, zu_ne ha], fun o K => BX12_wayFrom_166 _ _ _ _ _ _ hL ⟨fun q => ?_, fun _ => ⟨zvin (by omega) (by decide), zvin (by omega) (by decide), fun I3 e3 => ?_⟩⟩⟩
    · rw [zle' (by omega) (by omega)] at q; omega
    · rw [zclm (by omega), h1 i hi] at e3
      subst e3
      rw [zadd1]
      exact g3 o K
theorem zer_lt (hW : zTW τ Λ) {m : Nat} (hm : m < τ 0 0) : ∀ i, i < τ 4 m → (zer τ m i).1 < 12 ∧ (zer τ m i).2 < 12 := fun i hi => by
  have := hW.2.2.1 m i hm hi
  have := hW.1
  unfold zer; dsimp only; omega
/-- one order tried -/
theorem M_way_one (hL : zLY Z t u) (hW : zTW τ Λ) (hM : zMT I v τ Λ) {m : Nat} (hm : m < τ 0 0) {x y : Nat} (hx : x < 12) (hy : y < 12) {l : List Nat} {acc : zWo} {x5 f : Int32} (hf : f ≠ 0) (hl : zokl (τ 4 m) l = true) (hI : ∀ i, i < τ 4 m → I 463 i = nI (zga2 l i)) (hs : zwb I (τ 4 m) acc x5) :
    ∃ (I1 : zI) (p : Nat × List Nat), zbt acc (some (zco (zer τ m) l x y, l)) = some p ∧ p.1 < 1000 ∧ (∀ i, i < τ 4 m → I1 463 i = nI (zga2 l i)) ∧ (∀ i, i < τ 4 m → I1 464 i = nI (zga2 p.2 i)) ∧ (∀ a, a ≠ 464 → I1 a = I a) ∧
      ∀ o : zO, (∃ (v1 : Int32) (I2 : zI), zE d kX12_nextOrder 0 [some (.ref 420), some (.int (nI (τ 4 m))), none, none, none, none, none] [] Z I1 J (some (.int v1), Z, I2, J) ∧ zE (d + 1) kX12_wayFrom 47 [some (.ref 420), some (.int (nI m)), some (.int (nI x)), some (.int (nI y)), some (.int (nI (τ 4 m))), some (.int (nI p.1)), some (.int v1), none, none, none, none, none] [] Z I2 J o) →
        zE (d + 1) kX12_wayFrom 47 [some (.ref 420), some (.int (nI m)), some (.int (nI x)), some (.int (nI y)), some (.int (nI (τ 4 m))), some (.int x5), some (.int f), none, none, none, none, none] [] Z I J o := by
  have h4 := (hW.2.1 m hm).2.2.2.1
  obtain ⟨l1, l2, l3⟩ := zokl_ok hl
  have hcl := zco_le (zer_lt hW hm) l x y l3 hx hy
  obtain ⟨c0, ec0⟩ : ∃ c0, c0 = zco (zer τ m) l x y := ⟨_, rfl⟩
  rw [← ec0] at hcl ⊢
  have hc1 : c0 < 1000 := by omega
  obtain ⟨I', k1, k2, k3⟩ := M_keep (d := d) (J := J) (m := m) (c := c0) (x2 := nI x) (x3 := nI y) hL h4 (p := zga2 l) 0 (Nat.zero_le _) I hI (fun j hj => absurd hj (by omega))
  have cost : ∀ o : zO, _ → _ := fun o K => M_cost (d := d) (J := J) hL hW hM hm hl hI (x2 := nI x) (x3 := nI y) (x5 := x5) (o := o) (c0 := c0) K l 0 x y 0 rfl (Nat.zero_le _) hx hy (by rw [Nat.zero_add, ec0])
  have go : ∀ o : zO, zE (d + 1) kX12_wayFrom 64 [some (.ref 420), some (.int (nI m)), some (.int (nI x)), some (.int (nI y)), some (.int (nI (τ 4 m))), some (.int x5), none, some (.int 0), some (.int (nI x)), some (.int (nI y)), some (.int 0), none] [] Z I J o → zE (d + 1) kX12_wayFrom 47 [some (.ref 420), some (.int (nI m)), some (.int (nI x)), some (.int (nI y)), some (.int (nI (τ 4 m))), some (.int x5), some (.int f), none, none, none, none, none] [] Z I J o :=
    fun o K => BX12_wayFrom_47 _ _ _ _ _ _ hL ⟨fun q => absurd q hf, fun _ => K⟩
  cases acc with
  | none =>
    have e5 : x5 < 0 := by rw [show x5 = -1 from hs]; decide
    exact ⟨I', (c0, l), rfl, hc1, fun i hi => by rw [k2 463 (by decide)]; exact hI i hi, k1, k2, fun o K => go o (cost o ⟨fun _ => k3 o K, fun q => absurd e5 q⟩)⟩
  | some p =>
    obtain ⟨e5, p1, p2⟩ := hs
    have n5 : ¬ x5 < 0 := by rw [e5]; exact zneg (by omega)
    by_cases g : c0 < p.1
    · refine ⟨I', (c0, l), by simp only [zbt]; rw [if_pos g], hc1, fun i hi => by rw [k2 463 (by decide)]; exact hI i hi, k1, k2, fun o K => go o (cost o ⟨fun q => absurd q n5, fun _ => ⟨fun q => ?_, fun _ => k3 o K⟩⟩)⟩
      exfalso; rw [e5, zle' (by omega) (by omega)] at q; omega
    · refine ⟨I, p, by simp only [zbt]; rw [if_neg g], p1, hI, p2, fun _ _ => rfl, fun o K => go o (cost o ⟨fun q => absurd q n5, fun _ => ⟨fun q => ?_, fun q => ?_⟩⟩)⟩
      · rw [e5]; exact K
      · exfalso; rw [e5, zle' (by omega) (by omega)] at q; omega
theorem M_way_run (hL : zLY Z t u) (hW : zTW τ Λ) {m : Nat} (hm : m < τ 0 0) {x y : Nat} (hx : x < 12) (hy : y < 12) : ∀ (r : List (List Nat)) (l : List Nat) (acc : zWo) (I : zI) (x5 f : Int32), f ≠ 0 → zck (τ 4 m) l r = true → zMT I v τ Λ → (∀ i, i < τ 4 m → I 463 i = nI (zga2 l i)) → zwb I (τ 4 m) acc x5 →
    ∃ (I' : zI) (p : Nat × List Nat), zfo (zer τ m) x y (l :: r) acc = some p ∧ p.1 < 1000 ∧ zE (d + 1) kX12_wayFrom 47 [some (.ref 420), some (.int (nI m)), some (.int (nI x)), some (.int (nI y)), some (.int (nI (τ 4 m))), some (.int x5), some (.int f), none, none, none, none, none] [] Z I J (some (.int (nI p.1)), Z, I', J) ∧ (∀ i, i < τ 4 m → I' 464 i = nI (zga2 p.2 i)) ∧ ∀ a, a ≠ 463 → a ≠ 464 → I' a = I a := by
  have h4 := (hW.2.1 m hm).2.2.2.1
  intro r
  induction r with
  | nil =>
    intro l acc I x5 f hf hc hM hI hs
    simp only [zck, Bool.and_eq_true] at hc
    have hno : zno (τ 4 m) (zga2 l) = none := by
      cases hz : zno (τ 4 m) (zga2 l) with
      | none => rfl
      | some q => rw [hz] at hc; exact absurd hc.2 (by simp)
    obtain ⟨l1, l2, l3⟩ := zokl_ok hc.1
    obtain ⟨I1, p, g1, g2, g3, g4, g5, g6⟩ := M_way_one (d := d) (J := J) hL hW hM hm hx hy hf hc.1 hI hs
    obtain ⟨I2, k1, k2, k3⟩ := M_nextOrder (d := d) (J := J) hL h4 (p := zga2 l) (fun i hi => by have := l2 i hi; omega) g3
    rw [hno] at k1
    exact ⟨I2, p, g1, g2, g6 _ ⟨_, I2, k1, BX12_wayFrom_47 _ _ _ _ _ _ hL ⟨fun _ => rfl, fun q => absurd rfl q⟩⟩, fun i hi => by rw [k3 464 (by decide)]; exact g4 i hi, fun a h1 h2 => by rw [k3 a h1, g5 a h2]⟩
  | cons l' r ih =>
    intro l acc I x5 f hf hc hM hI hs
    simp only [zck, Bool.and_eq_true] at hc
    obtain ⟨hc1, hc2, hc3⟩ := hc
    obtain ⟨l1, l2, l3⟩ := zokl_ok hc1
    obtain ⟨I1, p, g1, g2, g3, g4, g5, g6⟩ := M_way_one (d := d) (J := J) hL hW hM hm hx hy hf hc1 hI hs
    obtain ⟨I2, k1, k2, k3⟩ := M_nextOrder (d := d) (J := J) hL h4 (p := zga2 l) (fun i hi => by have := l2 i hi; omega) g3
    cases hz : zno (τ 4 m) (zga2 l) with
    | none => rw [hz] at hc2; exact absurd hc2 (by simp)
    | some q =>
      rw [hz] at hc2 k1
      have hq : ∀ i, i < τ 4 m → I2 463 i = nI (zga2 l' i) := fun i hi => by
        rw [k2 q hz i hi]
        have := zal_i _ hc2 i hi
        rw [beq_iff_eq] at this
        rw [this]
      obtain ⟨I', p', e1, e2, e3, e4, e5⟩ := ih l' (some p) I2 (nI p.1) (nI 1) (by decide) hc3 (hM.same (by rw [k3 420 (by decide), g5 420 (by decide)]) (fun a h1 h2 => by rw [k3 a (by omega), g5 a (by omega)])) hq ⟨rfl, g2, fun i hi => by rw [k3 464 (by decide)]; exact g4 i hi⟩
      refine ⟨I', p', ?_, e2, g6 _ ⟨_, I2, k1, e3⟩, e4, fun a h1 h2 => by rw [e5 a h1 h2, k3 a h1, g5 a h2]⟩
      rw [← e1]
      show zfo (zer τ m) x y (l' :: r) (zbt acc (some (zco (zer τ m) l x y, l))) = _
      rw [g1]
/-- the fewest PIECES from a corner by all errands, and in which order -/
theorem M_wayFrom (hL : zLY Z t u) (hW : zTW τ Λ) (hM : zMT I v τ Λ) {m : Nat} (hm : m < τ 0 0) {x y : Nat} (hx : x < 12) (hy : y < 12) :
    ∃ (I' : zI), (zbp (zer τ m) (τ 4 m) (2 ^ τ 4 m - 1) x y).1 < 1000 ∧ zE (d + 1) kX12_wayFrom 0 [some (.ref 420), some (.int (nI m)), some (.int (nI x)), some (.int (nI y)), none, none, none, none, none, none, none, none] [] Z I J (some (.int (nI (zbp (zer τ m) (τ 4 m) (2 ^ τ 4 m - 1) x y).1)), Z, I', J) ∧ (∀ i, i < τ 4 m → I' 464 i = nI (zga2 (zbp (zer τ m) (τ 4 m) (2 ^ τ 4 m - 1) x y).2 i)) ∧ ∀ a, a ≠ 463 → a ≠ 464 → I' a = I a := by
  have h4 := (hW.2.1 m hm).2.2.2.1
  have h7 := hW.1.1
  have hv2 := hM.1.1
  have hck := zck_all (τ 4 m) h4
  have hbp := zps_bp (E := zer τ m) (τ 4 m) (2 ^ τ 4 m - 1) x y (by
    have : ∀ k, k ≤ 6 → 2 ^ k - 1 < 64 := by decide
    exact this _ h4)
  have ev : ((7 : Int32) * (I 420 18)) + nI m = nI (7 * v + m) := by rw [hM.1.2, show (7 : Int32) = nI 7 from rfl, zmul, zadd]
  have v14 : vp_in (((7 : Int32) * (I 420 18)) + nI m) 14 := by rw [ev]; exact zvin (by omega) (by decide)
  have r4 : I 435 (((7 : Int32) * (I 420 18)) + nI m).toNatClampNeg = nI (τ 4 m) := by rw [ev, zclm (by omega)]; exact (hM.2.2.1 m hm).2.2.2
  cases hz : zps (τ 4 m) (2 ^ τ 4 m - 1) with
  | nil => rw [hz] at hck; exact absurd hck (by simp [zck0])
  | cons l r =>
    rw [hz] at hck hbp
    simp only [zck0, Bool.and_eq_true] at hck
    have hid : ∀ i, i < τ 4 m → zga2 l i = i := fun i hi => by have := zal_i _ hck.1 i hi; rwa [beq_iff_eq] at this
    have fill : ∀ i, i ≤ τ 4 m → ∀ I0 : zI, (∀ j, j < i → I0 463 j = nI j) → (∀ a, a ≠ 463 → I0 a = I a) → ∃ I1 : zI, (∀ j, j < τ 4 m → I1 463 j = nI j) ∧ (∀ a, a ≠ 463 → I1 a = I a) ∧ ∀ o : zO, zE (d + 1) kX12_wayFrom 47 [some (.ref 420), some (.int (nI m)), some (.int (nI x)), some (.int (nI y)), some (.int (nI (τ 4 m))), some (.int (-1)), some (.int 1), none, none, none, none, none] [] Z I1 J o → zE (d + 1) kX12_wayFrom 19 [some (.ref 420), some (.int (nI m)), some (.int (nI x)), some (.int (nI y)), some (.int (nI (τ 4 m))), some (.int (nI i)), none, none, none, none, none, none] [] Z I0 J o := by
      refine zloop _ _ ?_ ?_
      · intro I0 h1 h2
        exact ⟨I0, h1, h2, fun o K => BX12_wayFrom_19 _ _ _ _ _ hL ⟨fun _ => K, fun q => absurd (Int32.le_refl _) q⟩⟩
      · intro i hi ih I0 h1 h2
        obtain ⟨I1, g1, g2, g3⟩ := ih (zu I0 463 i (nI i)) (fun j hj => by
          by_cases e : j = i
          · subst e; rw [zu_eq]
          · rw [zu_k e]; exact h1 j (by omega)) (fun a ha => by rw [zu_ne ha]; exact h2 a ha)
        refine ⟨I1, g1, g2, fun o K => BX12_wayFrom_19 _ _ _ _ _ hL ⟨fun q => ?_, fun _ => ⟨zvin (by omega) (by decide), fun I2 e2 => ?_⟩⟩⟩
        · rw [zle' (by omega) (by omega)] at q; omega
        · rw [zclm (by omega)] at e2
          rw [e2, zadd1]; exact g3 o K
    obtain ⟨I1, g1, g2, g3⟩ := fill 0 (Nat.zero_le _) I (fun j hj => absurd hj (by omega)) (fun _ _ => rfl)
    obtain ⟨I', p, e1, e2, e3, e4, e5⟩ := M_way_run (d := d) (J := J) hL hW hm hx hy r l none I1 (-1) 1 (by decide) hck.2 (hM.same (g2 420 (by decide) ▸ rfl) (fun a h1 h2 => g2 a (by omega))) (fun i hi => by rw [g1 i hi, hid i hi]) rfl
    have ep : p = zbp (zer τ m) (τ 4 m) (2 ^ τ 4 m - 1) x y := by rw [hbp] at e1; simpa using e1.symm
    rw [ep] at e2 e3 e4
    exact ⟨I', e2, BX12_wayFrom_0 _ _ _ hL ⟨v14, fun y1 ey1 => by rw [ey1, r4]; exact g3 _ e3⟩, e4, fun a h1 h2 => by rw [e5 a h1 h2, g2 a h1]⟩
end

/-! A PLAIN DAY, the class's walks -/
section
variable {d : Nat} {Z : zZ} {J : zJ} {I I' : zI} {t u v b : Nat} {τ : Nat → Nat → Nat} {Λ : Nat → Option zLaw} {ρ : Nat → Nat}
/-- PIECES of a leg along x, along y -/
def zlx (Y a b s : Nat) : Nat := if s < 144 ∧ s / 12 = Y ∧ ((a ≤ s % 12 ∧ s % 12 < b) ∨ (b ≤ s % 12 ∧ s % 12 < a)) then 1 else 0
def zly (X a b s : Nat) : Nat := if 144 ≤ s ∧ (s - 144) % 12 = X ∧ ((a ≤ (s - 144) / 12 ∧ (s - 144) / 12 < b) ∨ (b ≤ (s - 144) / 12 ∧ (s - 144) / 12 < a)) then 1 else 0
theorem zif1 {p q r : Prop} [Decidable p] [Decidable q] [Decidable r] (h1 : p → (q ∧ ¬ r) ∨ (¬ q ∧ r)) (h2 : ¬ p → ¬ q ∧ ¬ r) : (if p then 1 else 0) = (if q then 1 else 0) + (if r then 1 else 0) := by
  by_cases h : p
  · rcases h1 h with ⟨a, c⟩ | ⟨a, c⟩
    · rw [if_pos h, if_pos a, if_neg c]
    · rw [if_pos h, if_neg a, if_pos c]
  · rw [if_neg h, if_neg (h2 h).1, if_neg (h2 h).2]
theorem zlx_up {Y a b s : Nat} (h : a < b) (hb : b ≤ 12) (hY : Y < 12) : zlx Y a b s = (if s = 12 * Y + a then 1 else 0) + zlx Y (a + 1) b s := by
  unfold zlx; exact zif1 (fun h => by omega) (fun h => by omega)
theorem zlx_dn {Y a b s : Nat} (h : b < a) (ha : a ≤ 12) (hY : Y < 12) : zlx Y a b s = (if s = 12 * Y + (a - 1) then 1 else 0) + zlx Y (a - 1) b s := by
  unfold zlx; exact zif1 (fun h => by omega) (fun h => by omega)
theorem zly_up {X a b s : Nat} (h : a < b) (hb : b ≤ 12) (hX : X < 12) : zly X a b s = (if s = 144 + (12 * a + X) then 1 else 0) + zly X (a + 1) b s := by
  unfold zly; exact zif1 (fun h => by omega) (fun h => by omega)
theorem zly_dn {X a b s : Nat} (h : b < a) (ha : a ≤ 12) (hX : X < 12) : zly X a b s = (if s = 144 + (12 * (a - 1) + X) then 1 else 0) + zly X (a - 1) b s := by
  unfold zly; exact zif1 (fun h => by omega) (fun h => by omega)
theorem zlx_eq {Y a s : Nat} : zlx Y a a s = 0 := by unfold zlx; rw [if_neg (by omega)]
theorem zly_eq {X a s : Nat} : zly X a a s = 0 := by unfold zly; rw [if_neg (by omega)]
theorem zlx_sw {Y a b s : Nat} : zlx Y a b s = zlx Y b a s := by unfold zlx; congr 1; exact propext (by omega)
theorem zly_sw {X a b s : Nat} : zly X a b s = zly X b a s := by unfold zly; congr 1; exact propext (by omega)
theorem zlx_le {Y a b s : Nat} : zlx Y a b s ≤ 1 := by unfold zlx; split <;> omega
theorem zly_le {Y a b s : Nat} : zly Y a b s ≤ 1 := by unfold zly; split <;> omega
/-- PIECES of a walk by errands; c: 0 first by x, 1 first by y -/
def zwl (E : Nat → Nat × Nat) (c : Nat) : List Nat → Nat → Nat → Nat → Nat
  | [], _, _, _ => 0
  | i :: r, x, y, s => (zlx (if c = 0 then y else (E i).2) x (E i).1 s + zly (if c = 0 then (E i).1 else x) y (E i).2 s) + zwl E c r (E i).1 (E i).2 s
theorem zwl_le {E : Nat → Nat × Nat} {c : Nat} : ∀ (l : List Nat) (x y s : Nat), zwl E c l x y s ≤ 2 * l.length := by
  intro l
  induction l with
  | nil => intro x y s; exact Nat.zero_le _
  | cons i r ih =>
    intro x y s
    have := ih (E i).1 (E i).2 s
    have := zlx_le (Y := if c = 0 then y else (E i).2) (a := x) (b := (E i).1) (s := s)
    have := zly_le (Y := if c = 0 then (E i).1 else x) (a := y) (b := (E i).2) (s := s)
    simp only [zwl, List.length_cons]; omega
theorem zwl_0 {E : Nat → Nat × Nat} {a : Nat} {l : List Nat} {x y s : Nat} : zwl E 0 (a :: l) x y s = zlx y x (E a).1 s + (zly (E a).1 y (E a).2 s + zwl E 0 l (E a).1 (E a).2 s) := by
  rw [← Nat.add_assoc]; rfl
theorem zwl_1 {E : Nat → Nat × Nat} {a : Nat} {l : List Nat} {x y s : Nat} : zwl E 1 (a :: l) x y s = zlx (E a).2 x (E a).1 s + (zly x y (E a).2 s + zwl E 1 l (E a).1 (E a).2 s) := by
  rw [← Nat.add_assoc]; rfl
/-- the class's table -/
def zlC (I : zI) (T : Nat → Nat → Nat) : Prop := ∀ r s, r < 14 → s < 288 → I 411 (288 * r + zenc s) = nI (T r s)
def zbm (T : Nat → Nat → Nat) (R : Nat) (g : Nat → Nat) : Nat → Nat → Nat := fun r s => if r = R then T r s + g s else T r s
theorem zbm_bm {T : Nat → Nat → Nat} {R : Nat} {f g : Nat → Nat} : zbm (zbm T R f) R g = zbm T R (fun s => f s + g s) := by
  funext r s; unfold zbm
  by_cases e : r = R
  · rw [if_pos e, if_pos e, if_pos e, Nat.add_assoc]
  · rw [if_neg e, if_neg e, if_neg e]
theorem zbm_0 {T : Nat → Nat → Nat} {R : Nat} {g : Nat → Nat} (h : ∀ s, g s = 0) : zbm T R g = T := by
  funext r s; unfold zbm; rw [h]; split <;> rfl
theorem zbm_c {T : Nat → Nat → Nat} {R : Nat} {f g : Nat → Nat} (h : ∀ s, f s = g s) : zbm T R f = zbm T R g := by rw [funext h]
theorem zlC.put {T : Nat → Nat → Nat} {R s0 : Nat} (h : zlC I T) (hR : R < 14) (hs : s0 < 288) : zlC (zu I 411 (288 * R + zenc s0) (nI (T R s0 + 1))) (zbm T R (fun s => if s = s0 then 1 else 0)) := by
  intro r s hr hs'
  have e1 := zenc_lt hs
  have e2 := zenc_lt hs'
  unfold zbm
  by_cases e : r = R
  · subst e
    rw [if_pos rfl]
    by_cases e3 : s = s0
    · subst e3; rw [zu_eq]; dsimp only; rw [if_pos rfl]
    · rw [zu_k (fun z => e3 (zenc_inj (by omega)))]; dsimp only; rw [if_neg e3, Nat.add_zero]; exact h r s hr hs'
  · rw [if_neg e, zu_k (by omega)]; exact h r s hr hs'
theorem zlC.step {T : Nat → Nat → Nat} {R s0 : Nat} {i0 : Int32} (h : zlC I T) (hR : R < 14) (hs : s0 < 288) (hi : i0 = nI (288 * R + zenc s0)) : zpt I 411 4032 i0 ((zat I 411 4032 i0) + 1) = zu I 411 (288 * R + zenc s0) (nI (T R s0 + 1)) := by
  have := zenc_lt hs
  rw [hi, zptI (by omega) (by decide), zatI (by omega) (by decide), h R s0 hR hs, zadd1]
theorem C_layX (hL : zLY Z t u) {R Y b : Nat} (hR : R < 14) (hY : Y < 12) (hb : b < 12) : ∀ i, i ≤ b → ∀ (T : Nat → Nat → Nat) (I : zI), zlC I T → ∃ I', zE (d + 1) kX4_layAlongX 3 [some (.ref 410), some (.int (nI (288 * R))), some (.int (nI Y)), none, some (.int (nI b)), some (.int (nI i)), none] [] Z I J (none, Z, I', J) ∧ zlC I' (zbm T R (zlx Y i b)) ∧ ∀ a, a ≠ 411 → I' a = I a := by
  refine zloop _ _ ?_ ?_
  · intro T I h
    exact ⟨I, BX4_layAlongX_3 _ _ _ _ hL ⟨fun _ => rfl, fun q => absurd (Int32.le_refl _) q⟩, by rw [zbm_0 (fun s => zlx_eq)]; exact h, fun _ _ => rfl⟩
  · intro i hi ih T I h
    have hz : zsn i Y 2 = 12 * Y + i := rfl
    have hi0 : nI (288 * R) + zsc (nI i) (nI Y) 2 = nI (288 * R + zenc (12 * Y + i)) := by
      rw [show (2 : Int32) = nI 2 from rfl, zscI (by omega) hY (by decide) (by decide) (by omega) (by omega), zadd, hz]
    obtain ⟨I', k1, k2, k3⟩ := ih _ _ (h.put (s0 := 12 * Y + i) hR (by omega))
    refine ⟨I', BX4_layAlongX_3 _ _ _ _ hL ⟨fun q => ?_, fun _ => ⟨fun q => ?_, fun _ I1 e1 => ?_⟩⟩, ?_, fun a ha => by rw [k3 a ha, zu_ne ha]⟩
    · rw [zle' (by omega) (by omega)] at q; omega
    · rw [show (12 : Int32) = nI 12 from rfl, zle' (by omega) (by omega)] at q; omega
    · rw [h.step (s0 := 12 * Y + i) hR (by omega) hi0] at e1
      rw [e1, zadd1]; exact k1
    · rw [zbm_bm] at k2
      rw [zbm_c (fun s => zlx_up hi (by omega) hY)]; exact k2
theorem C_layY (hL : zLY Z t u) {R X b : Nat} (hR : R < 14) (hX : X < 12) (hb : b < 12) : ∀ i, i ≤ b → ∀ (T : Nat → Nat → Nat) (I : zI), zlC I T → ∃ I', zE (d + 1) kX4_layAlongY 3 [some (.ref 410), some (.int (nI (288 * R))), some (.int (nI X)), none, some (.int (nI b)), some (.int (nI i)), none] [] Z I J (none, Z, I', J) ∧ zlC I' (zbm T R (zly X i b)) ∧ ∀ a, a ≠ 411 → I' a = I a := by
  refine zloop _ _ ?_ ?_
  · intro T I h
    exact ⟨I, BX4_layAlongY_3 _ _ _ _ hL ⟨fun _ => rfl, fun q => absurd (Int32.le_refl _) q⟩, by rw [zbm_0 (fun s => zly_eq)]; exact h, fun _ _ => rfl⟩
  · intro i hi ih T I h
    have hz : zsn X i 1 = 144 + (12 * i + X) := rfl
    have hi0 : nI (288 * R) + zsc (nI X) (nI i) 1 = nI (288 * R + zenc (144 + (12 * i + X))) := by
      rw [show (1 : Int32) = nI 1 from rfl, zscI hX (by omega) (by decide) (by decide) (by omega) (by omega), zadd, hz]
    obtain ⟨I', k1, k2, k3⟩ := ih _ _ (h.put (s0 := 144 + (12 * i + X)) hR (by omega))
    refine ⟨I', BX4_layAlongY_3 _ _ _ _ hL ⟨fun q => ?_, fun _ => ⟨fun q => ?_, fun _ I1 e1 => ?_⟩⟩, ?_, fun a ha => by rw [k3 a ha, zu_ne ha]⟩
    · rw [zle' (by omega) (by omega)] at q; omega
    · rw [show (12 : Int32) = nI 12 from rfl, zle' (by omega) (by omega)] at q; omega
    · rw [h.step (s0 := 144 + (12 * i + X)) hR (by omega) hi0] at e1
      rw [e1, zadd1]; exact k1
    · rw [zbm_bm] at k2
      rw [zbm_c (fun s => zly_up hi (by omega) hX)]; exact k2
theorem zmnI {a b : Nat} (ha : a < 1000) (hb : b < 1000) : (if nI a < nI b then nI a else nI b) = nI (if a < b then a else b) ∧ (if nI b < nI a then nI a else nI b) = nI (if b < a then a else b) := by
  constructor
  · by_cases h : a < b
    · rw [if_pos ((zlt (by omega) (by omega)).mpr h), if_pos h]
    · rw [if_neg (fun z => h ((zlt (by omega) (by omega)).mp z)), if_neg h]
  · by_cases h : b < a
    · rw [if_pos ((zlt (by omega) (by omega)).mpr h), if_pos h]
    · rw [if_neg (fun z => h ((zlt (by omega) (by omega)).mp z)), if_neg h]
theorem C_legX (hL : zLY Z t u) {R Y x x' : Nat} (hR : R < 14) (hY : Y < 12) (hx : x < 12) (hx' : x' < 12) {T : Nat → Nat → Nat} (h : zlC I T) : ∃ I', zE (d + 1) kX4_layAlongX 0 [some (.ref 410), some (.int (nI (288 * R))), some (.int (nI Y)), some (.int (if nI x' < nI x then nI x' else nI x)), some (.int (if nI x < nI x' then nI x' else nI x)), none, none] [] Z I J (none, Z, I', J) ∧ zlC I' (zbm T R (zlx Y x x')) ∧ ∀ a, a ≠ 411 → I' a = I a := by
  rw [(zmnI (a := x') (b := x) (by omega) (by omega)).1, (zmnI (a := x') (b := x) (by omega) (by omega)).2]
  obtain ⟨I', k1, k2, k3⟩ := C_layX (d := d) (J := J) hL (b := if x < x' then x' else x) hR hY (by split <;> omega) (if x' < x then x' else x) (by split <;> split <;> omega) T I h
  refine ⟨I', BX4_layAlongX_0 _ _ _ _ hL k1, ?_, k3⟩
  rw [zbm_c (g := zlx Y (if x' < x then x' else x) (if x < x' then x' else x)) (fun s => ?_)]; exact k2
  rcases Nat.lt_trichotomy x x' with g | g | g
  · rw [if_neg (by omega), if_pos g]
  · subst g; rw [if_neg (by omega)]
  · rw [if_pos g, if_neg (by omega)]; exact zlx_sw
theorem C_legY (hL : zLY Z t u) {R X y y' : Nat} (hR : R < 14) (hX : X < 12) (hy : y < 12) (hy' : y' < 12) {T : Nat → Nat → Nat} (h : zlC I T) : ∃ I', zE (d + 1) kX4_layAlongY 0 [some (.ref 410), some (.int (nI (288 * R))), some (.int (nI X)), some (.int (if nI y' < nI y then nI y' else nI y)), some (.int (if nI y < nI y' then nI y' else nI y)), none, none] [] Z I J (none, Z, I', J) ∧ zlC I' (zbm T R (zly X y y')) ∧ ∀ a, a ≠ 411 → I' a = I a := by
  rw [(zmnI (a := y') (b := y) (by omega) (by omega)).1, (zmnI (a := y') (b := y) (by omega) (by omega)).2]
  obtain ⟨I', k1, k2, k3⟩ := C_layY (d := d) (J := J) hL (b := if y < y' then y' else y) hR hX (by split <;> omega) (if y' < y then y' else y) (by split <;> split <;> omega) T I h
  refine ⟨I', BX4_layAlongY_0 _ _ _ _ hL k1, ?_, k3⟩
  rw [zbm_c (g := zly X (if y' < y then y' else y) (if y < y' then y' else y)) (fun s => ?_)]; exact k2
  rcases Nat.lt_trichotomy y y' with g | g | g
  · rw [if_neg (by omega), if_pos g]
  · subst g; rw [if_neg (by omega)]
  · rw [if_pos g, if_neg (by omega)]; exact zly_sw
theorem C_walk (hL : zLY Z t u) {t1 : Nat} (ht : zTx Z t1) (ht5 : t1 < 300) (hW : zTW τ Λ) (hT : zCT I t1 τ Λ) {m c : Nat} (hm : m < τ 0 0) (hc : c < 2) {L : List Nat} (hL1 : L.length = τ 4 m) (hL2 : ∀ i, i < τ 4 m → zga2 L i < τ 4 m) (hO : ∀ i, i < τ 4 m → I 408 i = nI (zga2 L i)) {T : Nat → Nat → Nat} (h : zlC I T) :
    ∃ I', zE (d + 2) kX4_walk 0 [some (.ref 410), some (.ref t1), some (.ref 407), some (.int (nI m)), some (.int (nI c)), none, none, none, none, none, none, none] [] Z I J (none, Z, I', J) ∧ zlC I' (zbm T (2 * m + c) (zwl (zer τ m) c L (τ 1 m) (τ 2 m))) ∧ ∀ a, a ≠ 411 → I' a = I a := by
  have h4 := (hW.2.1 m hm).2.2.2.1
  have h7 := hW.1.1
  have w1 := hW.1
  have hdr := hW.2.1 m hm
  have hTm := hT.2.1 m hm
  have hR : 2 * m + c < 14 := by omega
  have loop : ∀ (l : List Nat) (i x y : Nat) (T : Nat → Nat → Nat) (I0 : zI), L.drop i = l → i ≤ τ 4 m → x < 12 → y < 12 → zlC I0 T → (∀ a, a ≠ 411 → I0 a = I a) → ∃ I', zE (d + 2) kX4_walk 35 [some (.ref 410), some (.ref t1), some (.ref 407), some (.int (nI m)), some (.int (nI c)), some (.int (nI x)), some (.int (nI y)), some (.int (nI (288 * (2 * m + c)))), some (.int (nI i)), none, none, none] [] Z I0 J (none, Z, I', J) ∧ zlC I' (zbm T (2 * m + c) (zwl (zer τ m) c l x y)) ∧ ∀ a, a ≠ 411 → I' a = I a := by
    intro l
    induction l with
    | nil =>
      intro i x y T I0 hs hi hx hy hl hf
      have a4 : zat I0 (t1 + 11) 7 (nI m) = nI (τ 4 m) := by rw [zatI (by omega) (by decide), hf _ (by omega), hTm.2.2.2.1]
      have e0 : τ 4 m ≤ i := by rw [← hL1]; exact List.drop_eq_nil_iff.mp hs
      have e : i = τ 4 m := by omega
      refine ⟨I0, BX4_walk_35 _ _ _ _ _ _ hL ht ⟨fun _ => rfl, fun q => absurd (by rw [a4, e]; exact Int32.le_refl _) q⟩, ?_, hf⟩
      rw [zbm_0 (g := zwl (zer τ m) c [] x y) (fun s => rfl)]; exact hl
    | cons a l ih =>
      intro i x y T I0 hs hi hx hy hl hf
      have a4 : zat I0 (t1 + 11) 7 (nI m) = nI (τ 4 m) := by rw [zatI (by omega) (by decide), hf _ (by omega), hTm.2.2.2.1]
      obtain ⟨e1, e2, e3⟩ := zdrop hs
      have hi' : i < τ 4 m := by omega
      have ha : a < τ 4 m := by have := hL2 i hi'; rw [e1] at this; exact this
      have hE := zer_lt hW hm a ha
      have oi : zat I0 408 6 (nI i) = nI a := by rw [zatI (by omega) (by decide), hf _ (by decide), hO i hi', e1]
      have e6 : nI m * 6 + nI a = nI (6 * m + a) := by rw [show (6 : Int32) = nI 6 from rfl, zmul, zadd, Nat.mul_comm]
      have x12 : zat I0 (t1 + 12) 42 (nI (6 * m + a)) = nI (zer τ m a).1 := by rw [zatI (by omega) (by decide), hf _ (by omega), (hT.2.2.1 m a hm ha).1]; rfl
      have y12 : zat I0 (t1 + 13) 42 (nI (6 * m + a)) = nI (zer τ m a).2 := by rw [zatI (by omega) (by decide), hf _ (by omega), (hT.2.2.1 m a hm ha).2]; rfl
      have nle : ¬ zat I0 (t1 + 11) 7 (nI m) ≤ nI i := by rw [a4, zle' (by omega) (by omega)]; omega
      obtain rfl | rfl : c = 0 ∨ c = 1 := by omega
      · obtain ⟨I1, k1, k2, k3⟩ := C_legX (d := d) (J := J) hL (x := x) (x' := (zer τ m a).1) hR hy hx hE.1 hl
        obtain ⟨I2, l1, l2, l3⟩ := C_legY (d := d) (J := J) hL (y := y) (y' := (zer τ m a).2) hR hE.1 hy hE.2 k2
        obtain ⟨I', g1, g2, g3⟩ := ih (i + 1) (zer τ m a).1 (zer τ m a).2 _ I2 e2 (by omega) hE.1 hE.2 l2 (fun b hb => by rw [l3 b hb, k3 b hb, hf b hb])
        refine ⟨I', BX4_walk_35 _ _ _ _ _ _ hL ht ⟨fun q => absurd q nle, fun _ y1 ey1 => ⟨fun q => absurd rfl q, fun _ => ⟨I1, ?_, fun q => absurd rfl q, fun _ => ⟨I2, ?_, ?_⟩⟩⟩⟩, ?_, g3⟩
        · rw [ey1, oi, e6, x12]; exact k1
        · rw [ey1, oi, e6, x12, y12]; exact l1
        · rw [ey1, oi, e6, x12, y12, zadd1]; exact g1
        · rw [zbm_bm, zbm_bm] at g2; rw [zbm_c (fun s => zwl_0)]; exact g2
      · obtain ⟨I1, k1, k2, k3⟩ := C_legX (d := d) (J := J) hL (x := x) (x' := (zer τ m a).1) hR hE.2 hx hE.1 hl
        obtain ⟨I2, l1, l2, l3⟩ := C_legY (d := d) (J := J) hL (y := y) (y' := (zer τ m a).2) hR hx hy hE.2 k2
        obtain ⟨I', g1, g2, g3⟩ := ih (i + 1) (zer τ m a).1 (zer τ m a).2 _ I2 e2 (by omega) hE.1 hE.2 l2 (fun b hb => by rw [l3 b hb, k3 b hb, hf b hb])
        refine ⟨I', BX4_walk_35 _ _ _ _ _ _ hL ht ⟨fun q => absurd q nle, fun _ y1 ey1 => ⟨fun _ => ⟨I1, ?_, fun _ => ⟨I2, ?_, ?_⟩, fun q => absurd q (by decide)⟩, fun q => absurd q (by decide)⟩⟩, ?_, g3⟩
        · rw [ey1, oi, e6, x12, y12]; exact k1
        · rw [ey1, oi, e6, y12]; exact l1
        · rw [ey1, oi, e6, x12, y12, zadd1]; exact g1
        · rw [zbm_bm, zbm_bm] at g2; rw [zbm_c (fun s => zwl_1)]; exact g2
  obtain ⟨I', k1, k2, k3⟩ := loop L 0 (τ 1 m) (τ 2 m) T I rfl (Nat.zero_le _) (by omega) (by omega) h (fun _ _ => rfl)
  refine ⟨I', BX4_walk_0 _ _ hL ht (fun y1 ey1 => ?_), k2, k3⟩
  have : y1 = nI (288 * (2 * m + c)) := by rw [ey1, show (2 : Int32) = nI 2 from rfl, show (288 : Int32) = nI 288 from rfl, zmul, zadd, zmul, Nat.mul_comm]
  rw [this, zatI (by omega) (by decide), zatI (by omega) (by decide), hTm.1, hTm.2.1]
  exact k1
end

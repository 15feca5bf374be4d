/-! STARTS: the two sides -/
section
variable {d : Nat} {Z : zZ} {J : zJ} {I I' : zI} {t u v b : Nat} {τ : Nat → Nat → Nat} {Λ : Nat → Option zLaw} {ρ ρ' DX DY : Nat → Nat}
/-- numbers that came in are small -/
def zst (c e : Nat) (ρ ρ' : Nat → Nat) : Prop := ρ' 29 ≤ e ∧ ρ' 28 ≤ c ∧ ∀ k, k < 1290 → ρ' k ≤ c ∨ ρ' k = ρ k
theorem zst_act (hW : zTW τ Λ) (hD : zDW τ ρ') {c e m mi : Nat} (hc : 300 ≤ c) (he : e + 1 ≤ c) (hm : m < τ 0 0) (h : zst c e ρ ρ') : zst c (e + 1) ρ (zact τ Λ ρ' m mi) := by
  have h7 := hW.1
  obtain ⟨h29, h28, hk⟩ := h
  have h60 := (hD.h hW).2 m hm
  have same : zst c (e + 1) ρ ρ' := ⟨by omega, h28, hk⟩
  by_cases h0 : ρ' (21 + m) = 0
  · by_cases h5 : zwn τ Λ ρ' m mi = 5
    · rw [zact_5 h0 h5]
      split
      · rename_i hc'
        have p := (zDW_unl hW hD hm hc'.1 hc'.2.1).man hm
        refine ⟨by rw [zunl_hi (by omega) (by decide)]; omega, by rw [zunl_hi (by omega) (by decide)]; exact h28, fun k hk' => ?_⟩
        by_cases e1 : k = 7 + m
        · subst e1; left; have := p.2.1; omega
        · by_cases e2 : k = m
          · subst e2; left; have := p.1; omega
          · by_cases e3 : k = 14 + m
            · subst e3; left; rw [zunl_n (by omega)]; omega
            · rw [zunl_k e1 e2 e3]; exact hk k hk'
      · exact same
    · by_cases hz : zwn τ Λ ρ' m mi = 0
      · rw [zact_0 hz]; exact same
      · rw [zact_s h0 h5 hz]
        split
        · rename_i hc'
          have hw5 := (zwn_eq (τ := τ) (Λ := Λ) (ρ := ρ') m mi).2
          generalize zwn τ Λ ρ' m mi = w at h5 hz hw5 hc'
          obtain ⟨c1, c2, c3, c4⟩ := hc'
          obtain ⟨p1, p2, p3, p4, p5, p6⟩ := hD.man hm
          have hs : zsn (ρ' m) (ρ' (7 + m)) w < 288 := zsn_lt (by omega) (by omega) (by omega) (by omega)
          refine ⟨by rw [zlay_29 (by omega)]; omega, by rw [zlay_28 (by omega)]; exact h28, fun k hk' => ?_⟩
          have := hk k hk'
          rw [zlay_i]
          (repeat' split) <;> first | (left; omega) | exact this
        · exact same
  · rw [zact_l h0]; exact same
theorem zst_go (hW : zTW τ Λ) (lm : Nat → Nat) {c : Nat} (hc : 300 ≤ c) : ∀ (k i e b : Nat) (ρ' : Nat → Nat), i + k ≤ τ 0 0 → e + k ≤ c → zDW τ ρ' → zRb b ρ' → zst c e ρ ρ' → zst c (e + k) ρ (zgo τ Λ lm k i ρ') := by
  intro k
  induction k with
  | zero => intro i e b ρ' _ _ _ _ h; exact h
  | succ k ih =>
    intro i e b ρ' hi he hD hB h
    simp only [zgo]
    by_cases q : ρ' 28 < lm i
    · rw [if_pos q]
      have := ih (i + 1) e b ρ' (by omega) (by omega) hD hB h
      exact ⟨by have := this.1; omega, this.2⟩
    · rw [if_neg q]
      have := ih (i + 1) (e + 1) (b + 1) (zact τ Λ ρ' i (ρ' 28 - lm i)) (by omega) (by omega) (zDW_act hW hD (by omega)) (zRb_act hB hD hW (by omega)) (zst_act hW hD hc (by omega) (by omega) h)
      rw [show e + (k + 1) = e + 1 + k by omega]; exact this
theorem zst_ply (hW : zTW τ Λ) (lm : Nat → Nat) {c : Nat} (hc : 300 ≤ c) : ∀ (f e b : Nat) (ρ' : Nat → Nat), e + 7 * f ≤ c → ρ' 28 + f ≤ c → zDW τ ρ' → zRb b ρ' → zst c e ρ ρ' → zst c (e + 7 * f) ρ (zply τ Λ lm f ρ') := by
  have h7 := hW.1.1
  intro f
  induction f with
  | zero => intro e b ρ' _ _ _ _ h; exact h
  | succ f ih =>
    intro e b ρ' he h28 hD hB h
    obtain ⟨a1, a2⟩ := zmi_ok hW lm hD hB
    have h1 := zst_go (ρ := ρ) hW lm hc (τ 0 0) 0 e b ρ' (by omega) (by omega) hD hB h
    have e28 := zmi_28 (ρ := ρ') hW lm
    have h2 : zst c (e + 7) ρ (zmi τ Λ lm ρ') := by
      refine ⟨?_, by omega, fun k hk => ?_⟩
      · rw [zmi_dn hW, zup_ne (by omega)]; have := h1.1; omega
      · by_cases e : k = 28
        · subst e; left; omega
        · rw [zmi_dn hW, zup_ne e]; exact h1.2.2 k hk
    have := ih (e + 7) (b + 7) _ (by omega) (by omega) a1 a2 h2
    simp only [zply]
    rw [show e + 7 * (f + 1) = e + 7 + 7 * f by omega]; exact this
def zlmB (τ : Nat → Nat → Nat) (B w : Nat) : Nat → Nat := fun o => if o < τ 0 0 then zdg B w o else 0
theorem zlmB_lt {B w m : Nat} (hB : 1 ≤ B) (hB4 : B ≤ 4) : zlmB τ B w m < 1000 := by
  unfold zlmB
  split
  · have := zdg_lt (B := B) (w := w) (o := m) (by omega); omega
  · decide
/-- rows of STARTS that fit, f of them from the w-th on -/
def zrs (τ : Nat → Nat → Nat) (Λ : Nat → Option zLaw) (DX DY : Nat → Nat) (A : Nat → Nat × Nat × Bool) (B n k : Nat) : Nat → Nat → (Nat → Nat) → Nat → Nat
  | 0, _, _, c => c
  | f + 1, w, ρ, c => zrs τ Λ DX DY A B n k f (w + 1) (zply τ Λ (zlmB τ B w) n (zbg DX DY ρ)) (c + (zfit (zply τ Λ (zlmB τ B w) n (zbg DX DY ρ)) A k 0).toNat)
theorem zrs_le {A : Nat → Nat × Nat × Bool} {B n k : Nat} : ∀ (f w c : Nat) (ρ : Nat → Nat), zrs τ Λ DX DY A B n k f w ρ c ≤ c + f := by
  intro f
  induction f with
  | zero => intro w c ρ; exact Nat.le_refl _
  | succ f ih =>
    intro w c ρ
    simp only [zrs]
    have h1 := ih (w + 1) (c + (zfit (zply τ Λ (zlmB τ B w) n (zbg DX DY ρ)) A k 0).toNat) (zply τ Λ (zlmB τ B w) n (zbg DX DY ρ))
    have h2 : (zfit (zply τ Λ (zlmB τ B w) n (zbg DX DY ρ)) A k 0).toNat ≤ 1 := by cases zfit (zply τ Λ (zlmB τ B w) n (zbg DX DY ρ)) A k 0 <;> decide
    omega
theorem zrs_0 {A : Nat → Nat × Nat × Bool} {B n : Nat} : ∀ (f w c : Nat) (ρ : Nat → Nat), zrs τ Λ DX DY A B n 0 f w ρ c = c + f := by
  intro f
  induction f with
  | zero => intro w c ρ; rfl
  | succ f ih => intro w c ρ; simp only [zrs]; rw [ih]; show c + 1 + f = c + (f + 1); omega
/-- a row of numbers that is one -/
abbrev zok6 (ρ : Nat → Nat) : Prop := ∀ k, k < 1290 → ρ k ≤ 600000000
theorem zrow_next (hW : zTW τ Λ) (hD : ∀ m, m < 7 → DX m ≤ 9999 ∧ DY m ≤ 9999) (hE : ∀ m, m < τ 0 0 → DX m = τ 1 m ∧ DY m = τ 2 m) (h6 : zok6 ρ) (lm : Nat → Nat) {n : Nat} (hn : n ≤ 40) : zDW τ (zbg DX DY ρ) ∧ zRb 600000000 (zbg DX DY ρ) ∧ zDW τ (zply τ Λ lm n (zbg DX DY ρ)) ∧ zRb 600000300 (zply τ Λ lm n (zbg DX DY ρ)) ∧ zok6 (zply τ Λ lm n (zbg DX DY ρ)) := by
  have h1 := zDW_bg (ρ := ρ) (Λ := Λ) hW hE
  have h2 : zRb 600000000 (zbg DX DY ρ) := zRb_bg ⟨by decide, fun k hk _ => ⟨fun _ => h6 k hk, Or.inl (h6 k hk)⟩, h6 28 (by decide)⟩ hD
  obtain ⟨h3, h4⟩ := zply_ok hW lm n 600000000 _ h1 h2
  refine ⟨h1, h2, h3, h4.mono (by omega), fun k hk => ?_⟩
  have hs := zst_ply (ρ := zbg DX DY ρ) hW lm (c := 20000) (by decide) n 0 600000000 (zbg DX DY ρ) (by omega) (by rw [zbg_0 28 (by decide) (by decide)]; omega) h1 h2 ⟨by rw [zbg_0 29 (by decide) (by decide)]; exact Nat.le_refl _, by rw [zbg_0 28 (by decide) (by decide)]; omega, fun k _ => Or.inr rfl⟩
  rcases hs.2.2 k hk with z | z
  · omega
  · rw [z]
    by_cases e : k = 28
    · subst e; exact h2.2.2
    · have := h2.2.1 k hk e; have := zK6_v; omega
theorem C_play (hL : zLY Z t u) (ht3 : t = 3 ∨ t = 30) (hW : zTW τ Λ) (hS : zSx I) (hT : zCT I t τ Λ) (hD : ∀ m, m < 7 → DX m ≤ 9999 ∧ DY m ≤ 9999) (hE : ∀ m, m < τ 0 0 → DX m = τ 1 m ∧ DY m = τ 2 m) (h6 : zok6 ρ) {lm : Nat → Nat} (hlm : ∀ m, m < 7 → lm m < 1000) {n : Nat} (hn : n ≤ 40) (hr : ∀ m, m < τ 0 0 → I 419 m = nI (lm m)) : ∃ I', zE (d + 5) kX9_play 0 [some (.ref 415), some (.ref t), some (.ref 57), some (.int (nI n)), none, none] [] Z I J (none, Z, I', J) ∧ zCD I' 57 τ (zply τ Λ lm n (zbg DX DY ρ)) ∧ zfb 57 t I I' := by
  obtain ⟨n1, n2, -⟩ := zrow_next hW hD hE h6 lm hn
  obtain ⟨I1, g1, g2, g3, g4, g5⟩ := C_begin (d := d + 2) (J := J) (I := I) (ρ := ρ) (ly_d57 hL) (ly_tx hL) (by omega) hW hT hE
  have hf : zfb 57 t I I1 := fun a h1 _ _ => g5 a h1
  obtain ⟨I', k1, k2, k3⟩ := C_play_loop (d := d) (J := J) hL ht3 hW hlm hn n 0 600000000 I1 _ (by omega) (by omega) (zbg_0 28 (by decide) (by decide)) (fun m hm => by rw [g5 419 (by decide)]; exact hr m hm) (hS.b hf (by omega) (by decide)) (hT.b hf (by omega)) g2 n1 n2
  exact ⟨I', BX9_play_0 _ hL (ly_tx hL) (ly_d57 hL) ⟨I1, g1, k1⟩, k2, hf.tr k3⟩
theorem M_isSo (h : zR0 Z I t u v τ Λ b ρ') (hD : ∀ m, m < 7 → DX m ≤ 9999 ∧ DY m ≤ 9999 ∧ I 432 (7 * v + m) = nI (DX m) ∧ I 433 (7 * v + m) = nI (DY m)) (hE : ∀ m, m < τ 0 0 → DX m = τ 1 m ∧ DY m = τ 2 m) {kt : Nat} {A : Nat → Nat × Nat × Bool} (hA : zTd I (τ 0 0) kt A) (hR : zRM I 458 0 ρ) (h6 : zok6 ρ) {mm w n k : Nat} (hmm : mm ≤ 3) (hw : w < 1000000) (hn : n ≤ 40) (hk : k ≤ kt) : ∃ I', zE (d + 6) kX12_isSo 0 [some (.ref 420), some (.int (nI w)), some (.int (nI mm)), some (.int (nI n)), some (.int (nI k)), none, none] [] Z I J (some (.int (nI (zfit (zply τ Λ (zlmB τ (mm + 1) w) n (zbg DX DY ρ)) A k 0).toNat)), Z, I', J) ∧ zRM I' 458 0 (zply τ Λ (zlmB τ (mm + 1) w) n (zbg DX DY ρ)) ∧ zscr I I' := by
  have h7 := h.n7
  obtain ⟨n1, n2, n3, n4, n5⟩ := zrow_next (ρ := ρ) h.W (fun m hm => ⟨(hD m hm).1, (hD m hm).2.1⟩) hE h6 (zlmB τ (mm + 1) w) hn
  have hlm : ∀ m, m < 7 → zlmB τ (mm + 1) w m < 1000000000 := fun m _ => by have := zlmB_lt (τ := τ) (B := mm + 1) (w := w) (m := m) (by omega) (by omega); omega
  obtain ⟨I1, g1, g2, g3, g4⟩ := M_begins (d := d + 5) (J := J) h.L h.M.1.1 h.M.1.2 (fun m hm => ⟨(hD m hm).2.2.1, (hD m hm).2.2.2⟩) hR
  -- the starts
  have dig : ∀ o, o ≤ τ 0 0 → ∀ I2 : zI, (∀ a, a ≠ 458 → a ≠ 459 → I2 a = I a) → I2 458 = I1 458 → (∀ m, m < 7 → m < o → I2 459 m = nI (zdg (mm + 1) w m)) → (∀ m, m < 7 → o ≤ m → I2 459 m = nI 0) → ∃ I3 : zI, (∀ a, a ≠ 458 → a ≠ 459 → I3 a = I a) ∧ I3 458 = I1 458 ∧ (∀ m, m < 7 → I3 459 m = nI (zlmB τ (mm + 1) w m)) ∧ ∀ oo, zE (d + 6) kX12_isSo 54 [some (.ref 420), none, none, some (.int (nI n)), some (.int (nI k)), none, some (.int 0)] [] Z I3 J oo → zE (d + 6) kX12_isSo 10 [some (.ref 420), none, some (.int (nI mm)), some (.int (nI n)), some (.int (nI k)), some (.int (nI (w / (mm + 1) ^ o))), some (.int (nI o))] [] Z I2 J oo := by
    refine zloop _ _ ?_ ?_
    · intro I2 f1 f2 f3 f4
      have e18 : I2 420 18 = nI v := by rw [f1 420 (by decide) (by decide)]; exact h.M.1.2
      have n0 : I2 431 (I2 420 18).toNatClampNeg = nI (τ 0 0) := by rw [e18, zclm (by have := h.M.1.1; omega), f1 431 (by decide) (by decide)]; exact h.M.2.1.1
      refine ⟨I2, f1, f2, fun m hm => ?_, fun oo ho => BX12_isSo_10 _ _ _ _ _ h.L ⟨by rw [e18]; exact zvin h.M.1.1 (by decide), fun _ => ho, fun q => absurd (by rw [n0]; exact Int32.le_refl _) q⟩⟩
      unfold zlmB
      by_cases e : m < τ 0 0
      · rw [if_pos e]; exact f3 m hm e
      · rw [if_neg e]; exact f4 m hm (by omega)
    · intro o ho ih I2 f1 f2 f3 f4
      have e18 : I2 420 18 = nI v := by rw [f1 420 (by decide) (by decide)]; exact h.M.1.2
      have n0 : I2 431 (I2 420 18).toNatClampNeg = nI (τ 0 0) := by rw [e18, zclm (by have := h.M.1.1; omega), f1 431 (by decide) (by decide)]; exact h.M.2.1.1
      have hx : w / (mm + 1) ^ o < 1000000 := Nat.lt_of_le_of_lt (Nat.div_le_self _ _) hw
      have e1 : nI mm + 1 = nI (mm + 1) := zadd1 mm
      have hz : ¬ nI mm + 1 = 0 := by rw [e1, zn0 (by omega)]; omega
      obtain ⟨I3, k1, k2, k3, k4⟩ := ih (zu I2 459 o (nI (zdg (mm + 1) w o))) (fun a h1 h2 => by rw [zu_ne h2]; exact f1 a h1 h2) (by rw [zu_ne (by decide)]; exact f2) (fun m hm hmo => by
        by_cases e : m = o
        · rw [e, zu_eq]
        · rw [zu_k e]; exact f3 m hm (by omega)) (fun m hm hmo => by rw [zu_k (by omega)]; exact f4 m hm (by omega))
      refine ⟨I3, k1, k2, k3, fun oo ho' => BX12_isSo_10 _ _ _ _ _ h.L ⟨by rw [e18]; exact zvin h.M.1.1 (by decide), fun q => ?_, fun _ => ⟨hz, zvin (by omega) (by decide), fun I4 e4 => ⟨hz, ?_⟩⟩⟩⟩
      · exfalso; rw [n0, zle' (by omega) (by omega)] at q; omega
      · rw [e1, zrem (by omega) (by omega) (by omega), zclm (by omega)] at e4
        rw [e4, e1, zdiv (by omega) (by omega) (by omega), ← zdiv_next, zadd1]
        exact k4 oo ho'
  obtain ⟨I3, f1, f2, f3, f4⟩ := dig 0 (Nat.zero_le _) I1 g4 rfl (fun m _ hm => absurd hm (by omega)) (fun m hm _ => g3 m hm)
  have hM3 : zMT I3 v τ Λ := h.M.same (by rw [f1 420 (by decide) (by decide)]) (fun a h1 h2 => f1 a (by omega) (by omega))
  have hR3 : zRM I3 458 0 (zbg DX DY ρ) := fun k hk => by rw [f2]; exact g2 k hk
  -- the minutes
  have mins : ∀ (f i b : Nat) (I4 : zI) (ρ4 : Nat → Nat), i + f = n → b + 8 * f < 800000000 → zMT I4 v τ Λ → zRM I4 458 0 ρ4 → zDW τ ρ4 → zRb b ρ4 → (∀ m, m < 7 → I4 459 m = nI (zlmB τ (mm + 1) w m)) → ∃ I5 : zI, zRM I5 458 0 (zply τ Λ (zlmB τ (mm + 1) w) f ρ4) ∧ zfw I4 I5 ∧ ∀ oo, zE (d + 6) kX12_isSo 73 [some (.ref 420), none, none, none, some (.int (nI k)), none, some (.int 0)] [] Z I5 J oo → zE (d + 6) kX12_isSo 54 [some (.ref 420), none, none, some (.int (nI n)), some (.int (nI k)), none, some (.int (nI i))] [] Z I4 J oo := by
    intro f
    induction f with
    | zero =>
      intro i b I4 ρ4 hi hb hM hR hD hB hl
      refine ⟨I4, hR, zfm.rf, fun oo ho => BX12_isSo_54 _ _ _ h.L ⟨fun _ => ho, fun q => ?_⟩⟩
      exfalso; apply q; rw [zle' (by omega) (by omega)]; omega
    | succ f ih =>
      intro i b I4 ρ4 hi hb hM hR hD hB hl
      obtain ⟨I5, j1, j2, j3⟩ := M_minuteGoes (d := d) (J := J) h.L h.W hlm (by omega) hM hR hD hB hl
      obtain ⟨m1, m2⟩ := zmi_ok h.W (zlmB τ (mm + 1) w) hD hB
      obtain ⟨I6, k1, k2, k3⟩ := ih (i + 1) (b + 7) I5 _ (by omega) (by omega) (hM.fw j3) j2 m1 m2 (fun m hm => by rw [j3.row (by decide) (by decide) (by decide) (by decide)]; exact hl m hm)
      refine ⟨I6, k1, j3.tr k2, fun oo ho => BX12_isSo_54 _ _ _ h.L ⟨fun q => ?_, fun _ => ⟨I5, j1, by rw [zadd1]; exact k3 oo ho⟩⟩⟩
      exfalso; rw [zle' (by omega) (by omega)] at q; omega
  obtain ⟨I5, r1, r2, r3⟩ := mins n 0 600000000 I3 _ (by omega) (by omega) hM3 hR3 n1 n2 f3
  have hs : zscr I I5 := by
    refine ⟨fun a p _ r => ?_, fun k p _ _ => ?_, fun _ => fun k hk => ⟨_, n5 k hk, r1.at hk⟩⟩
    · rw [r2.1 a r (by simp; refine ⟨fun e => p (by subst e; decide), fun e => p (by subst e; decide), fun e => p (by subst e; decide)⟩), f1 a (fun e => p (by subst e; decide)) (fun e => p (by subst e; decide))]
    · rw [r2.2 k (by simpa using p), f1 420 (by decide) (by decide)]
  have hA5 := hA.sc hs
  have hH : zH τ (zply τ Λ (zlmB τ (mm + 1) w) n (zbg DX DY ρ)) := n3.h h.W
  have k12 := hA.1.1
  -- what is TOLD
  have fit : ∀ i, i ≤ k → zE (d + 6) kX12_isSo 73 [some (.ref 420), none, none, none, some (.int (nI k)), none, some (.int (nI i))] [] Z I5 J (some (.int (nI (zfit (zply τ Λ (zlmB τ (mm + 1) w) n (zbg DX DY ρ)) A (k - i) i).toNat)), Z, I5, J) := by
    refine zloop _ _ ?_ ?_
    · exact BX12_isSo_73 _ _ h.L ⟨fun _ => by rw [Nat.sub_self]; rfl, fun q => absurd (Int32.le_refl _) q⟩
    · intro i hi ih
      obtain ⟨a1, a2, -, b1, b2, b3⟩ := hA5.2 i (by omega)
      have hov := zov_le hH a1 a2
      have pos : nI (zov (zply τ Λ (zlmB τ (mm + 1) w) n (zbg DX DY ρ)) (A i).1 (A i).2.1) ≤ 0 ↔ ¬ 0 < zov (zply τ Λ (zlmB τ (mm + 1) w) n (zbg DX DY ρ)) (A i).1 (A i).2.1 := by rw [show (0 : Int32) = nI 0 from rfl, zle' (by omega) (by decide)]; omega
      have hci : (nI i).toNatClampNeg = i := zclm (by omega)
      have e0 : (0 : Int32) = I5 470 (nI i).toNatClampNeg ↔ (A i).2.2 = false := by
        rw [hci, b3]
        cases (A i).2.2 <;> decide
      have e1 : (1 : Int32) = I5 470 (nI i).toNatClampNeg ↔ (A i).2.2 = true := by
        rw [hci, b3]
        cases (A i).2.2 <;> decide
      have v12 : vp_in (nI i) 12 := zvin (by omega) (by decide)
      rw [show k - i = (k - (i + 1)) + 1 by omega]
      simp only [zfit]
      generalize zply τ Λ (zlmB τ (mm + 1) w) n (zbg DX DY ρ) = ρe at *
      refine BX12_isSo_73 _ _ h.L ⟨fun q => ?_, fun _ => ⟨v12, v12, _, by rw [hci, b1, b2]; exact M_overOf h.L hH r1 (n4.b (by decide)) a1 a2, fun q => ⟨v12, fun q2 => ?_, fun q2 => ?_⟩, fun q => ⟨v12, fun q2 => ?_, fun q2 => ?_⟩⟩⟩
      · exfalso; rw [zle' (by omega) (by omega)] at q; omega
      all_goals rw [pos] at q
      all_goals first | rw [e0] at q2 | rw [e1] at q2
      · rw [if_pos (by rw [q2]; simp; omega), zadd1]; exact ih
      · rw [if_neg (by intro z; apply q2; rw [← z]; simp; omega)]; rfl
      · rw [if_pos (by rw [q2]; simp; omega), zadd1]; exact ih
      · rw [if_neg (by intro z; apply q2; rw [← z]; simp; omega)]; rfl
  refine ⟨I5, BX12_isSo_0 _ _ _ _ h.L ⟨I1, g1, ?_⟩, r1, hs⟩
  have e0 : w / (mm + 1) ^ 0 = w := by simp
  rw [e0] at f4
  exact f4 _ (r3 _ (fit 0 (Nat.zero_le _)))
end

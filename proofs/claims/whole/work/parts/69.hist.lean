/-! days behind: both sides -/
section
variable {d : Nat} {Z : zZ} {J : zJ} {I I' : zI} {t u v b n nx : Nat} {τ : Nat → Nat → Nat} {Λ : Nat → Option zLaw} {ρ ρ' : Nat → Nat} {hs : Nat → Nat → Nat}
/-- the class's days behind -/
def zHc (I : zI) (τ : Nat → Nat → Nat) (n nx : Nat) (hs : Nat → Nat → Nat) : Prop := (I 67 0 = nI n ∧ I 67 4 = nI nx) ∧ ∀ i, i < n → zCE I (71 + 10 * ((nx + 30 - n + i) % 30)) τ (hs i)
/-- the reference's -/
def zHm (I : zI) (n : Nat) (hs : Nat → Nat → Nat) : Prop := I 420 58 = nI n ∧ ∀ i, i < n → zRM I 460 (1290 * i) (hs i)
def zHp (τ : Nat → Nat → Nat) (b n nx : Nat) (hs : Nat → Nat → Nat) : Prop := (n ≤ 30 ∧ nx < 30) ∧ ∀ i, i < n → zRb b (hs i) ∧ zDW τ (hs i)
/-- the days behind, one more -/
def zhp (n : Nat) (hs : Nat → Nat → Nat) (ρ : Nat → Nat) : Nat → Nat → Nat := fun i => if n < 30 then (if i = n then ρ else hs i) else (if i = 29 then ρ else hs (i + 1))
def zh1 (n : Nat) : Nat := if n < 30 then n + 1 else 30
theorem zHp.mono {b b' : Nat} (h : zHp τ b n nx hs) (hb : b ≤ b') : zHp τ b' n nx hs := ⟨h.1, fun i hi => ⟨(h.2 i hi).1.mono hb, (h.2 i hi).2⟩⟩
theorem zHp.one (h : zHp τ b n nx hs) (hB : zRb b ρ) (hD : zDW τ ρ) : zHp τ b (zh1 n) (znxt nx) (zhp n hs ρ) := by
  obtain ⟨⟨h1, h2⟩, h3⟩ := h
  refine ⟨⟨by unfold zh1; split <;> omega, by unfold znxt; split <;> omega⟩, fun i hi => ?_⟩
  unfold zh1 at hi
  unfold zhp
  by_cases g : n < 30
  · rw [if_pos g] at hi ⊢
    by_cases e : i = n
    · rw [if_pos e]; exact ⟨hB, hD⟩
    · rw [if_neg e]; exact h3 i (by omega)
  · rw [if_neg g] at hi ⊢
    by_cases e : i = 29
    · rw [if_pos e]; exact ⟨hB, hD⟩
    · rw [if_neg e]; exact h3 (i + 1) (by omega)
theorem zHc.same (h : zHc I τ n nx hs) (hn : nx < 30) (h1 : I' 67 = I 67) (h2 : ∀ a, 71 ≤ a → a ≤ 370 → I' a = I a) : zHc I' τ n nx hs := by
  refine ⟨by rw [h1]; exact h.1, fun i hi => (h.2 i hi).same (fun a ha1 ha2 => h2 a (by omega) ?_)⟩
  have : (nx + 30 - n + i) % 30 < 30 := Nat.mod_lt _ (by decide)
  omega
theorem zHm.same (h : zHm I n hs) (h1 : I' 420 58 = I 420 58) (h2 : I' 460 = I 460) : zHm I' n hs := ⟨h1.trans h.1, fun i hi k hk => by rw [h2]; exact h.2 i hi k hk⟩
theorem C_rem (hL : zLY Z t u) (hW : zTW τ Λ) (hE : zCE I 47 τ ρ) (hD : zDW τ ρ) (hp : n ≤ 30 ∧ nx < 30) (h : zHc I τ n nx hs) :
    ∃ I', zE (d + 3) kX3_remember 0 [some (.ref 67), some (.ref 47), none] [] Z I J (none, Z, I', J) ∧ zHc I' τ (zh1 n) (znxt nx) (zhp n hs ρ) ∧ ∀ a, a ≠ 67 → ¬ (71 ≤ a ∧ a ≤ 370) → I' a = I a := by
  obtain ⟨hn, hnx⟩ := hp
  obtain ⟨I1, c1, c2, c3⟩ := C_copyE (d := d) (J := J) (ly_kept hL hnx).1 (ly_d47 hL) (Or.inr (by omega)) hW hE hD
  have e67 : I1 67 = I 67 := c3 67 (by omega)
  have r := C_remember (d := d + 2) (J := J) (I := I) (I1 := I1) hL hnx hn (by rw [e67]; exact h.1.2) (by rw [e67]; exact h.1.1) h.1.2 c1
  have ez : (if n < 30 then n + 1 else 30) = zh1 n := rfl
  rw [ez] at r
  have keep : ∀ k, k < 30 → k ≠ nx → ∀ σ, zCE I (71 + 10 * k) τ σ → zCE (zu (zu I1 67 4 (nI (znxt nx))) 67 0 (nI (zh1 n))) (71 + 10 * k) τ σ := fun k hk hne σ hC =>
    hC.same (fun a h1 h2 => by rw [zu_ne (by omega), zu_ne (by omega), c3 a (by omega)])
  have new : zCE (zu (zu I1 67 4 (nI (znxt nx))) 67 0 (nI (zh1 n))) (71 + 10 * nx) τ ρ := c2.same (fun a h1 h2 => by rw [zu_ne (by omega), zu_ne (by omega)])
  refine ⟨_, r, ⟨⟨zu_eq, by rw [zu_k (by decide), zu_eq]⟩, fun i hi => ?_⟩, fun a h1 h2 => by rw [zu_ne h1, zu_ne h1, c3 a (by omega)]⟩
  unfold zh1 at hi
  have hnn : znxt nx = (nx + 1) % 30 := by unfold znxt; split <;> omega
  by_cases g : n < 30
  · have e1 : zh1 n = n + 1 := by unfold zh1; rw [if_pos g]
    rw [if_pos g] at hi
    have e2 : zhp n hs ρ i = if i = n then ρ else hs i := by unfold zhp; rw [if_pos g]
    rw [e2]
    by_cases e : i = n
    · have e3 : (znxt nx + 30 - zh1 n + i) % 30 = nx := by rw [hnn, e1]; omega
      rw [if_pos e, e3]; exact new
    · have e3 : (znxt nx + 30 - zh1 n + i) % 30 = (nx + 30 - n + i) % 30 := by rw [hnn, e1]; omega
      rw [if_neg e, e3]
      exact keep _ (Nat.mod_lt _ (by decide)) (by omega) _ (h.2 i (by omega))
  · have e1 : zh1 n = 30 := by unfold zh1; rw [if_neg g]
    rw [if_neg g] at hi
    have e2 : zhp n hs ρ i = if i = 29 then ρ else hs (i + 1) := by unfold zhp; rw [if_neg g]
    rw [e2]
    by_cases e : i = 29
    · have e3 : (znxt nx + 30 - zh1 n + i) % 30 = nx := by rw [hnn, e1]; omega
      rw [if_pos e, e3]; exact new
    · have e3 : (znxt nx + 30 - zh1 n + i) % 30 = (nx + 30 - n + (i + 1)) % 30 := by rw [hnn, e1]; omega
      rw [if_neg e, e3]
      exact keep _ (Nat.mod_lt _ (by decide)) (by omega) _ (h.2 (i + 1) (by omega))
theorem M_keeps_put (hL : zLY Z t u) {q : Nat} (hq : q < 30) {I : zI} (h58 : I 420 58 = nI q) (hR : zRM I 457 0 ρ) (hR' : zRM I 458 0 ρ') :
    ∃ I', zE (d + 1) kX12_keeps 52 [some (.ref 420), some (.int 0)] [] Z I J (none, Z, I', J) ∧ I' 420 58 = nI (q + 1) ∧ zRM I' 460 (1290 * q) ρ ∧ (∀ k, ¬ (1290 * q ≤ k ∧ k < 1290 * q + 1290) → I' 460 k = I 460 k) ∧ zRM I' 457 0 ρ' ∧ (∀ a, a ≠ 420 → a ≠ 460 → a ≠ 457 → I' a = I a) ∧ ∀ k, k ≠ 58 → I' 420 k = I 420 k := by
  obtain ⟨I', k1, k2, k3⟩ := M_keepsRow' (d := d) (J := J) (ρ := ρ') hL (I := zu (zrw I 460 (1290 * q) (I 457) 1290) 420 58 (nI (q + 1))) (fun k hk => by rw [zu_ne (by decide), zrw_ne (by decide)]; exact hR' k hk)
  have loop : ∀ i, i ≤ 1290 → zE (d + 1) kX12_keeps 52 [some (.ref 420), some (.int (nI i))] [] Z (zrw I 460 (1290 * q) (I 457) i) J (none, Z, I', J) := by
    refine zloop _ _ ?_ ?_
    · refine BX12_keeps_52 _ hL ⟨fun _ I1 e1 => ⟨I', ?_, rfl⟩, fun q => absurd (by decide) q⟩
      rw [zrw_ne (by decide), h58, zadd1] at e1
      rw [e1]; exact k1
    · intro i hi ih
      have e8 : (zrw I 460 (1290 * q) (I 457) i) 420 58 = nI q := by rw [zrw_ne (by decide)]; exact h58
      have ea : ((1290 : Int32) * (zrw I 460 (1290 * q) (I 457) i) 420 58) + nI i = nI (1290 * q + i) := by rw [e8, show (1290 : Int32) = nI 1290 from rfl, zmul, zadd]
      refine BX12_keeps_52 _ hL ⟨fun q => ?_, fun _ => ⟨zvin hi (by decide), by rw [ea]; exact zvin (by omega) (by decide), fun I3 e3 => ?_⟩⟩
      · exfalso; rw [show (1290 : Int32) = nI 1290 from rfl, zle' (by decide) (by omega)] at q; omega
      · rw [ea, zclm (by omega), zclm (by omega), zrw_ne (by decide), zrw_s rfl] at e3
        rw [e3, zadd1]; exact ih
  have st := loop 0 (by decide)
  rw [zrw_0] at st
  refine ⟨I', st, ?_, fun k hk => ?_, fun k hk => ?_, k2, fun a h1 h2 h3 => by rw [k3 a h3, zu_ne h1, zrw_ne h2], fun k hk => by rw [k3 420 (by decide), zu_k hk, zrw_ne (by decide)]⟩
  · rw [k3 420 (by decide), zu_eq]
  · rw [k3 460 (by decide), zu_ne (by decide), zrw_at hk]; have := hR k hk; rwa [Nat.zero_add] at this
  · rw [k3 460 (by decide), zu_ne (by decide), zrw_out (by omega)]
theorem M_keeps (hL : zLY Z t u) (hn : n ≤ 30) (h : zHm I n hs) (hR : zRM I 457 0 ρ) (hR' : zRM I 458 0 ρ') :
    ∃ I', zE (d + 1) kX12_keeps 0 [some (.ref 420), none] [] Z I J (none, Z, I', J) ∧ zHm I' (zh1 n) (zhp n hs ρ) ∧ zRM I' 457 0 ρ' ∧ (∀ a, a ≠ 420 → a ≠ 460 → a ≠ 457 → I' a = I a) ∧ ∀ k, k ≠ 58 → I' 420 k = I 420 k := by
  by_cases g : n < 30
  · obtain ⟨I', k1, k2, k3, k4, k5, k6, k7⟩ := M_keeps_put (d := d) (J := J) hL g h.1 hR hR'
    refine ⟨I', BX12_keeps_0 hL ⟨fun _ => k1, fun q => ?_⟩, ⟨by unfold zh1; rw [if_pos g]; exact k2, fun i hi => ?_⟩, k5, k6, k7⟩
    · exfalso; rw [h.1, show (30 : Int32) = nI 30 from rfl, zeq (by omega) (by decide)] at q; omega
    · unfold zh1 at hi
      rw [if_pos g] at hi
      unfold zhp
      rw [if_pos g]
      by_cases e : i = n
      · rw [if_pos e, e]; exact k3
      · rw [if_neg e]; intro k hk; rw [k4 _ (by omega)]; exact h.2 i (by omega) k hk
  · obtain rfl : n = 30 := by omega
    have e30 : I 420 58 = 30 := h.1
    obtain ⟨f, hf⟩ : ∃ f : Nat → Int32, f = fun k => I 460 (k + 1290) := ⟨_, rfl⟩
    have a1 : (zu (zrw I 460 0 f 37410) 420 58 (nI 29)) 420 58 = nI 29 := zu_eq
    obtain ⟨I', k1, k2, k3, k4, k5, k6, k7⟩ := M_keeps_put (d := d) (J := J) (q := 29) (ρ := ρ) (ρ' := ρ') hL (by decide) a1 (fun k hk => by rw [zu_ne (by decide), zrw_ne (by decide)]; exact hR k hk) (fun k hk => by rw [zu_ne (by decide), zrw_ne (by decide)]; exact hR' k hk)
    have loop : ∀ i, i ≤ 37410 → zE (d + 1) kX12_keeps 11 [some (.ref 420), some (.int (nI i))] [] Z (zrw I 460 0 f i) J (none, Z, I', J) := by
      refine zloop _ _ ?_ ?_
      · refine BX12_keeps_11 _ hL ⟨fun _ I1 e1 => ?_, fun q => absurd (by decide) q⟩
        rw [zrw_ne (by decide), h.1, show (1 : Int32) = nI 1 from rfl, zsub (by decide)] at e1
        rw [e1]; exact k1
      · intro i hi ih
        refine BX12_keeps_11 _ hL ⟨fun q => ?_, fun _ => ⟨?_, zvin (by omega) (by decide), fun I2 e2 => ?_⟩⟩
        · exfalso; rw [show (37410 : Int32) = nI 37410 from rfl, zle' (by decide) (by omega)] at q; omega
        · rw [show (1290 : Int32) = nI 1290 from rfl, zadd]; exact zvin (by omega) (by decide)
        · rw [show (1290 : Int32) = nI 1290 from rfl, zadd, zclm (by omega), zclm (by omega), zrw_out (by omega)] at e2
          have es := zrw_s (I := I) (a := 460) (off := 0) (n := i) (f := f) (v := I 460 (i + 1290)) (by rw [hf])
          rw [Nat.zero_add] at es
          rw [e2, es, zadd1]; exact ih
    have st := loop 0 (by decide)
    rw [zrw_0] at st
    refine ⟨I', BX12_keeps_0 hL ⟨fun q => absurd e30 q, fun _ => st⟩, ⟨k2, fun i hi => ?_⟩, k5, fun a h1 h2 h3 => by rw [k6 a h1 h2 h3, zu_ne h1, zrw_ne h2], fun k hk => by rw [k7 k hk, zu_k hk, zrw_ne (by decide)]⟩
    unfold zhp
    rw [if_neg g]
    have hi' : i < 30 := hi
    by_cases e : i = 29
    · rw [if_pos e, e]; exact k3
    · rw [if_neg e]
      intro k hk
      have := h.2 (i + 1) (by omega) k hk
      rw [k4 _ (by omega), zu_ne (by decide), zrw_at0 (by omega), hf]
      dsimp only
      rw [show 1290 * i + k + 1290 = 1290 * (i + 1) + k by omega]
      exact this
end

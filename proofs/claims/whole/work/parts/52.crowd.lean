/-! CROWD -/
section
variable {d : Nat} {Z : zZ} {J : zJ} {I I' : zI} {t u v b : Nat} {τ : Nat → Nat → Nat} {Λ : Nat → Option zLaw} {ρ : Nat → Nat}
/-- the corner to which a thread comes behind i PIECES -/
def zcr (τ : Nat → Nat → Nat) (ρ : Nat → Nat) (m i : Nat) : Nat := (zpY τ ρ m i).toNat * 12 + (zpX τ ρ m i).toNat
/-- it comes there with its first i PIECES -/
def zvt (τ : Nat → Nat → Nat) (ρ : Nat → Nat) (m c : Nat) : Nat → Bool
  | 0 => decide (zcr τ ρ m 0 = c)
  | i + 1 => zvt τ ρ m c i || decide (zcr τ ρ m (i + 1) = c)
/-- a thread lies and comes there -/
def zvs (τ : Nat → Nat → Nat) (ρ : Nat → Nat) (c m : Nat) : Bool := decide (0 < ρ (14 + m)) && zvt τ ρ m c (ρ (14 + m))
theorem zcr_in (hW : zTW τ Λ) (hD : zDW τ ρ) {m i : Nat} (hm : m < τ 0 0) (hi : i ≤ ρ (14 + m)) : (0 ≤ zpX τ ρ m i ∧ (zpX τ ρ m i).toNat < τ 0 1) ∧ (0 ≤ zpY τ ρ m i ∧ (zpY τ ρ m i).toNat < τ 0 2) ∧ zcr τ ρ m i < 144 := by
  obtain ⟨a1, a2, a3, a4⟩ := hD.2.1 m i hm hi
  have := hW.1
  unfold zcr
  omega
theorem zvt_in (hW : zTW τ Λ) (hD : zDW τ ρ) {m c : Nat} (hm : m < τ 0 0) : ∀ i, i ≤ ρ (14 + m) → zvt τ ρ m c i = true → c % 12 < τ 0 1 ∧ c / 12 < τ 0 2 := by
  have one : ∀ i, i ≤ ρ (14 + m) → zcr τ ρ m i = c → c % 12 < τ 0 1 ∧ c / 12 < τ 0 2 := by
    intro i hi e
    have := zcr_in hW hD hm hi
    have := hW.1
    unfold zcr at e
    omega
  intro i
  induction i with
  | zero => intro hi h; exact one 0 hi (of_decide_eq_true h)
  | succ i ih =>
    intro hi h
    simp only [zvt, Bool.or_eq_true, decide_eq_true_eq] at h
    rcases h with h | h
    · exact ih (by omega) h
    · exact one _ hi h
theorem zcrI (hW : zTW τ Λ) (hD : zDW τ ρ) {m i : Nat} (hm : m < τ 0 0) (hi : i < ρ (14 + m)) : nI (zcr τ ρ m i) + (Int32.ofInt (zdj (ρ (30 + (60 * m + i)))) * 12 + Int32.ofInt (zdi (ρ (30 + (60 * m + i))))) = nI (zcr τ ρ m (i + 1)) := by
  have h1 := zcr_in hW hD hm (Nat.le_of_lt hi)
  have h2 := zcr_in hW hD hm (i := i + 1) hi
  obtain ⟨w1, w4, -⟩ := hD.2.2.1 m i hm hi
  have ex : zpX τ ρ m (i + 1) = zpX τ ρ m i + zdi (ρ (30 + (60 * m + i))) := rfl
  have ey : zpY τ ρ m (i + 1) = zpY τ ρ m i + zdj (ρ (30 + (60 * m + i))) := rfl
  rw [ex, ey] at h2
  have e1 : zcr τ ρ m (i + 1) = (zpY τ ρ m i + zdj (ρ (30 + (60 * m + i)))).toNat * 12 + (zpX τ ρ m i + zdi (ρ (30 + (60 * m + i)))).toNat := rfl
  rw [e1]
  have e0 : zcr τ ρ m i = (zpY τ ρ m i).toNat * 12 + (zpX τ ρ m i).toNat := rfl
  rw [e0]
  generalize zpX τ ρ m i = px at *
  generalize zpY τ ρ m i = py at *
  rcases (show ρ (30 + (60 * m + i)) = 1 ∨ ρ (30 + (60 * m + i)) = 2 ∨ ρ (30 + (60 * m + i)) = 3 ∨ ρ (30 + (60 * m + i)) = 4 by omega) with e | e | e | e <;> rw [e] at h2 ⊢
  · have q1 : zdi 1 = 0 := by decide
    have q2 : zdj 1 = 1 := by decide
    rw [q1, q2] at h2 ⊢
    rw [show Int32.ofInt 1 * 12 + Int32.ofInt 0 = nI 12 by decide, zadd]
    congr 1; omega
  · have q1 : zdi 2 = 1 := by decide
    have q2 : zdj 2 = 0 := by decide
    rw [q1, q2] at h2 ⊢
    rw [show Int32.ofInt 0 * 12 + Int32.ofInt 1 = nI 1 by decide, zadd]
    congr 1; omega
  · have q1 : zdi 3 = 0 := by decide
    have q2 : zdj 3 = -1 := by decide
    rw [q1, q2] at h2 ⊢
    rw [show Int32.ofInt (-1) * 12 + Int32.ofInt 0 = - nI 12 by decide, ← Int32.sub_eq_add_neg, zsub (by omega)]
    congr 1; omega
  · have q1 : zdi 4 = -1 := by decide
    have q2 : zdj 4 = 0 := by decide
    rw [q1, q2] at h2 ⊢
    rw [show Int32.ofInt 0 * 12 + Int32.ofInt (-1) = - nI 1 by decide, ← Int32.sub_eq_add_neg, zsub (by omega)]
    congr 1; omega
/-- a bit set where it holds -/
def zor (a m : Nat) (p : Bool) : Nat := if p = true then a ||| 2 ^ m else a
theorem zor_lt {a m : Nat} {p : Bool} (ha : a < 128) (hm : m < 7) : zor a m p < 128 := by
  unfold zor; split
  · exact zb_lt ha (zb_p m hm)
  · exact ha
theorem zor_or {a m : Nat} {p q : Bool} : zor (zor a m p) m q = zor a m (p || q) := by
  unfold zor
  cases p <;> cases q <;> simp [Nat.or_assoc]
theorem C_visit {d1 t1 : Nat} (hL : zLY Z t u) (hd : zDy Z d1) (ht : zTx Z t1) (hS : zSx I) (hd5 : d1 < 300) (hW : zTW τ Λ) (hT : zCT I t1 τ Λ) (hC : zCD I d1 τ ρ) (hD : zDW τ ρ) {B : Nat → Nat} (hB : ∀ c, c < 144 → B c < 128 ∧ I 405 c = nI (B c)) {m : Nat} (hm : m < τ 0 0) :
    ∃ I', zE (d + 1) kX7_visit 0 [some (.ref 401), some (.ref t1), some (.ref d1), some (.int (nI m)), none, none, none] [] Z I J (none, Z, I', J) ∧ (∀ c, c < 144 → I' 405 c = nI (zor (B c) m (zvt τ ρ m c (ρ (14 + m))))) ∧ ∀ a, a ≠ 405 → I' a = I a := by
  have hH := hD.h hW
  have h7 := hH.1
  have h60 := hH.2 m hm
  have put : ∀ (c : Nat) (I0 : zI) (V : Nat → Nat), c < 144 → (∀ c, c < 144 → V c < 128 ∧ I0 405 c = nI (V c)) → zpt I0 405 144 (nI c) ((zat I0 405 144 (nI c)) ||| ((1 : Int32) <<< (nI m &&& 31))) = zu I0 405 c (nI (V c ||| 2 ^ m)) := by
    intro c I0 V hc hV
    rw [zptI hc (by decide), zatI hc (by decide), (hV c hc).2, zb_set (hV c hc).1 (by omega)]
  have upd : ∀ (c : Nat) (I0 : zI) (V : Nat → Nat), c < 144 → (∀ c, c < 144 → V c < 128 ∧ I0 405 c = nI (V c)) → ∀ c', c' < 144 → zor (V c') m (decide (c = c')) < 128 ∧ zu I0 405 c (nI (V c ||| 2 ^ m)) 405 c' = nI (zor (V c') m (decide (c = c'))) := by
    intro c I0 V hc hV c' hc'
    refine ⟨zor_lt (hV c' hc').1 (by omega), ?_⟩
    unfold zor
    by_cases e : c = c'
    · subst e; rw [zu_eq, if_pos (by simp)]
    · rw [zu_k (fun z => e z.symm), if_neg (by simpa using e)]; exact (hV c' hc').2
  have loop : ∀ i, i ≤ ρ (14 + m) → ∀ I0 : zI, (∀ a, a ≠ 405 → I0 a = I a) → (∀ c, c < 144 → I0 405 c = nI (zor (B c) m (zvt τ ρ m c i))) → ∃ I', zE (d + 1) kX7_visit 47 [some (.ref 401), none, some (.ref d1), some (.int (nI m)), some (.int (nI (zcr τ ρ m i))), some (.int (nI i)), none] [] Z I0 J (none, Z, I', J) ∧ (∀ c, c < 144 → I' 405 c = nI (zor (B c) m (zvt τ ρ m c (ρ (14 + m))))) ∧ ∀ a, a ≠ 405 → I' a = I a := by
    refine zloop _ _ ?_ ?_
    · intro I0 h1 h2
      have a3 : zat I0 (d1 + 3) 7 (nI m) = nI (ρ (14 + m)) := by rw [zatI (by omega) (by decide), h1 _ (by omega), (hC.2.1 m hm).2.2.1]
      exact ⟨I0, BX7_visit_47 _ _ _ hL hd ⟨fun _ => rfl, fun q => absurd (by rw [a3]; exact Int32.le_refl _) q⟩, h2, h1⟩
    · intro i hi ih I0 h1 h2
      have a3 : zat I0 (d1 + 3) 7 (nI m) = nI (ρ (14 + m)) := by rw [zatI (by omega) (by decide), h1 _ (by omega), (hC.2.1 m hm).2.2.1]
      have hv := zlive_mk (ρ := ρ) hH hm hi
      have hq := zlive_lt hH hv
      obtain ⟨e5, -⟩ := hC.2.2.1 _ hv
      have y1e : zat I0 (d1 + 5) 421 (zpc (nI m) (nI i)) = nI (ρ (30 + (60 * m + i))) := by rw [zpcI, zatI (by omega) (by decide), h1 _ (by omega), e5]
      have hw := zlive_w hD hv
      have hS0 : zSx I0 := hS.same (h1 _ (by decide)) (h1 _ (by decide))
      have hc1 := (zcr_in hW hD hm (i := i + 1) hi).2.2
      have hV : ∀ c, c < 144 → zor (B c) m (zvt τ ρ m c i) < 128 ∧ I0 405 c = nI (zor (B c) m (zvt τ ρ m c i)) := fun c hc => ⟨zor_lt (hB c hc).1 (by omega), h2 c hc⟩
      obtain ⟨I', g1, g2, g3⟩ := ih (zu I0 405 (zcr τ ρ m (i + 1)) (nI (zor (B (zcr τ ρ m (i + 1))) m (zvt τ ρ m (zcr τ ρ m (i + 1)) i) ||| 2 ^ m))) (fun a ha => by rw [zu_ne ha]; exact h1 a ha) (fun c hc => by
        rw [(upd _ I0 (fun c => zor (B c) m (zvt τ ρ m c i)) hc1 hV c hc).2, zor_or]; rfl)
      refine ⟨I', BX7_visit_47 _ _ _ hL hd ⟨fun q => ?_, fun _ y1 ey1 => ⟨Int32.ofInt (zdj (ρ (30 + (60 * m + i)))), ?_, Int32.ofInt (zdi (ρ (30 + (60 * m + i)))), ?_, fun I4 e4 => ?_⟩⟩, g2, g3⟩
      · exfalso; rw [a3, zle' (by omega) (by omega)] at q; omega
      · rw [ey1, y1e]; exact S_stepY hL hS0 (by omega)
      · rw [ey1, y1e]; exact S_stepX hL hS0 (by omega)
      · rw [zcrI hW hD hm hi, put _ I0 (fun c => zor (B c) m (zvt τ ρ m c i)) hc1 hV] at e4
        rw [zcrI hW hD hm hi, zadd1, e4]; exact g1
  have hc0 := zcr_in hW hD hm (i := 0) (Nat.zero_le _)
  have hdo := hT.2.1 m hm
  have ex : zpX τ ρ m 0 = (τ 1 m : Int) := rfl
  have ey : zpY τ ρ m 0 = (τ 2 m : Int) := rfl
  have e0 : zcr τ ρ m 0 = τ 2 m * 12 + τ 1 m := by unfold zcr; rw [ex, ey]; rfl
  obtain ⟨I', g1, g2, g3⟩ := loop 0 (Nat.zero_le _) (zu I 405 (zcr τ ρ m 0) (nI (B (zcr τ ρ m 0) ||| 2 ^ m))) (fun a ha => zu_ne ha) (fun c hc => (upd _ I B hc0.2.2 hB c hc).2)
  refine ⟨I', BX7_visit_0 _ hL ht hd (fun y1 ey1 I2 e2 => ?_), g2, g3⟩
  have : y1 = nI (zcr τ ρ m 0) := by
    rw [ey1, zatI (by omega) (by decide), zatI (by omega) (by decide), hdo.1, hdo.2.1, e0, show (12 : Int32) = nI 12 from rfl, zmul, zadd]
  rw [this, put _ I B hc0.2.2 hB] at e2
  rw [this, e2]; exact g1
end

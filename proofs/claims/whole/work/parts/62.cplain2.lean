/-! A PLAIN DAY chosen, class -/
section
variable {d : Nat} {Z : zZ} {J : zJ} {I I' : zI} {t u v b : Nat} {τ : Nat → Nat → Nat} {Λ : Nat → Option zLaw} {ρ : Nat → Nat}
theorem zbp_in {E : Nat → Nat × Nat} : ∀ (f S x y a : Nat), a ∈ (zbp E f S x y).2 → S.testBit a = true := by
  intro f
  induction f with
  | zero => intro S x y a h; exact absurd h (by simp [zbp])
  | succ f ih =>
    intro S x y a h
    rw [zbp_s] at h
    cases hz : zbf (zch E f S x y) 6 with
    | none => rw [hz] at h; exact absurd h (by simp)
    | some p =>
      rw [hz] at h
      obtain ⟨i, hi, e⟩ := zbf_some 6 hz
      unfold zch at e
      by_cases g : S.testBit i = true
      · rw [if_pos g] at e
        obtain rfl : _ = p := by simpa using e
        have h' : a ∈ i :: (zbp E f (zrm S i) (E i).1 (E i).2).2 := h
        rcases List.mem_cons.mp h' with rfl | h2
        · exact g
        · have := ih _ _ _ _ h2
          rw [Nat.testBit_and] at this
          simp only [Bool.and_eq_true] at this
          exact this.1
      · rw [if_neg g] at e; exact absurd e (by simp)
/-- the order of a man's errands -/
def zLo (τ : Nat → Nat → Nat) (m : Nat) : List Nat := (zbp (zer τ m) (τ 4 m) (2 ^ τ 4 m - 1) (τ 1 m) (τ 2 m)).2
theorem zLo_len (hW : zTW τ Λ) {m : Nat} (hm : m < τ 0 0) : (zLo τ m).length = τ 4 m := by
  have h4 := (hW.2.1 m hm).2.2.2.1
  have h64 := zp2 _ h4
  have h1p : 1 ≤ 2 ^ τ 4 m := Nat.one_le_two_pow
  have hcd := zp2cd _ h4
  unfold zLo
  rw [zbp_len _ _ _ _ (by omega) (by omega), hcd]
theorem zLo_in (hW : zTW τ Λ) {m : Nat} (hm : m < τ 0 0) : ∀ i, i < τ 4 m → zga2 (zLo τ m) i < τ 4 m := by
  intro i hi
  have h1p : 1 ≤ 2 ^ τ 4 m := Nat.one_le_two_pow
  have hl := zLo_len hW hm
  have hmem : zga2 (zLo τ m) i ∈ zLo τ m := by
    have e : zga2 (zLo τ m) i = (zLo τ m)[i]'(by omega) := by simp [zga2, List.getD, show i < (zLo τ m).length by omega]
    rw [e]; exact List.getElem_mem _
  exact zbit_k (by omega) (zbp_in _ _ _ _ _ hmem)
def zPt (τ : Nat → Nat → Nat) (r s : Nat) : Nat := zwl (zer τ (r / 2)) (r % 2) (zLo τ (r / 2)) (τ 1 (r / 2)) (τ 2 (r / 2)) s
theorem zPt_le (hW : zTW τ Λ) {r s : Nat} (hr : r < 2 * τ 0 0) : zPt τ r s ≤ 12 := by
  have h4 := (hW.2.1 (r / 2) (by omega)).2.2.2.1
  have := zwl_le (E := zer τ (r / 2)) (c := r % 2) (zLo τ (r / 2)) (τ 1 (r / 2)) (τ 2 (r / 2)) s
  rw [zLo_len hW (by omega)] at this
  unfold zPt; omega
/-- how many times PIECES of two walks lie on one another -/
def zPm (τ : Nat → Nat → Nat) (a c : Nat) : Nat := zsum (fun s => zPt τ a s * zPt τ c s) 0 288
theorem zPm_sw {a c : Nat} : zPm τ a c = zPm τ c a := zsum_congr fun s _ _ => Nat.mul_comm _ _
theorem zPm_le (hW : zTW τ Λ) {a c : Nat} (ha : a < 2 * τ 0 0) (hc : c < 2 * τ 0 0) : zPm τ a c ≤ 41472 := by
  have := zsum_le (f := fun s => zPt τ a s * zPt τ c s) (b := 144) (i := 0) (k := 288) (fun s _ _ => by
    have := Nat.mul_le_mul (zPt_le hW (s := s) ha) (zPt_le hW (s := s) hc)
    omega)
  unfold zPm; omega
def zprw (S m : Nat) : Nat := 2 * m + (S.testBit m).toNat
theorem zprw_lt {S m n : Nat} (h : m < n) : zprw S m < 2 * n := by unfold zprw; cases S.testBit m <;> simp <;> omega
def zpcc (τ : Nat → Nat → Nat) (S n : Nat) : Nat := zsum (fun m => zsum (fun o => zPm τ (zprw S m) (zprw S o)) 0 m) 0 n
theorem zpcc_le (hW : zTW τ Λ) {S : Nat} : zpcc τ S (τ 0 0) < 1000000 := by
  have h7 := hW.1.1
  have h1 : zpcc τ S (τ 0 0) ≤ zsum (fun m => 41472 * m) 0 (τ 0 0) := zsum_mono fun m _ hm => by
    exact zsum_le fun o _ ho => zPm_le hW (zprw_lt (by omega)) (zprw_lt (by omega))
  have h2 := zsum_split (f := fun m => 41472 * m) (i := 0) (a := τ 0 0) (b := 7 - τ 0 0)
  rw [show τ 0 0 + (7 - τ 0 0) = 7 by omega] at h2
  have h3 : zsum (fun m => 41472 * m) 0 7 = 870912 := by decide
  omega
/-- the choices with the fewest, the least first -/
def zPb (c : Nat → Nat) : Nat → Option (Nat × Nat)
  | 0 => none
  | k + 1 => match zPb c k with
    | none => some (c k, k)
    | some p => if c k < p.1 then some (c k, k) else some p
theorem zPb_b {c : Nat → Nat} {B : Nat} (h : ∀ k, c k < B) : ∀ k p, zPb c k = some p → p.1 < B ∧ p.2 < k := by
  intro k
  induction k with
  | zero => intro p e; exact absurd e (by simp [zPb])
  | succ k ih =>
    intro p e
    simp only [zPb] at e
    cases hz : zPb c k with
    | none => rw [hz] at e; obtain rfl : _ = p := by simpa using e
              exact ⟨h k, by simp⟩
    | some q =>
      rw [hz] at e
      by_cases g : c k < q.1
      · simp only [if_pos g] at e; obtain rfl : _ = p := by simpa using e
        exact ⟨h k, by simp⟩
      · simp only [if_neg g] at e; obtain rfl : q = p := by simpa using e
        have := ih q hz; exact ⟨this.1, by omega⟩
theorem zPb_s {c : Nat → Nat} {k : Nat} : zPb c (k + 1) = match zPb c k with
    | none => some (c k, k)
    | some p => if c k < p.1 then some (c k, k) else some p := rfl
theorem zPb_some {c : Nat → Nat} {k : Nat} (hk : 1 ≤ k) : ∃ p, zPb c k = some p := by
  obtain ⟨n, rfl⟩ : ∃ n, k = n + 1 := ⟨k - 1, by omega⟩
  rw [zPb_s]
  cases zPb c n with
  | none => exact ⟨_, rfl⟩
  | some q => dsimp only; split <;> exact ⟨_, rfl⟩
/-- the table behind the first m men -/
def zPa (τ : Nat → Nat → Nat) (m : Nat) : Nat → Nat → Nat := fun r s => if r < 2 * m then zPt τ r s else 0
theorem zlC.congr {T T' : Nat → Nat → Nat} (h : zlC I T) (e : ∀ r s, r < 14 → s < 288 → T' r s = T r s) : zlC I T' := fun r s hr hs => by rw [e r s hr hs]; exact h r s hr hs
theorem C_walks (hL : zLY Z t u) {t1 : Nat} (ht : zTx Z t1) (ht5 : t1 < 300) (hW : zTW τ Λ) (hT : zCT I t1 τ Λ) : ∀ m, m ≤ τ 0 0 → ∀ I0 : zI, (∀ a, a ≠ 408 → a ≠ 409 → a ≠ 411 → I0 a = I a) → zlC I0 (zPa τ m) →
    ∃ I1, (∀ a, a ≠ 408 → a ≠ 409 → a ≠ 411 → I1 a = I a) ∧ zlC I1 (zPa τ (τ 0 0)) ∧ ∀ o : zO, zE (d + 6) kX4_choose 54 [some (.ref 410), some (.ref t1), none, some (.int 0), none] [] Z I1 J o → zE (d + 6) kX4_choose 10 [some (.ref 410), some (.ref t1), some (.ref 407), some (.int (nI m)), none] [] Z I0 J o := by
  have h7 := hW.1.1
  refine zloop _ _ ?_ ?_
  · intro I0 hf hl
    have hn : I0 t1 2 = nI (τ 0 0) := by rw [hf _ (by omega) (by omega) (by omega), hT.1.1]
    exact ⟨I0, hf, hl, fun o K => BX4_choose_10 _ hL ht ⟨fun _ => K, fun q => absurd (by rw [hn]; exact Int32.le_refl _) q⟩⟩
  · intro m hm ih I0 hf hl
    have hn : I0 t1 2 = nI (τ 0 0) := by rw [hf _ (by omega) (by omega) (by omega), hT.1.1]
    have hT0 : zCT I0 t1 τ Λ := hT.same (fun a _ _ _ _ => hf a (by omega) (by omega) (by omega))
    obtain ⟨I1, a1, a2, a3⟩ := C_prepare (d := d) (J := J) hL ht ht5 hW hT0 hm
    have hT1 : zCT I1 t1 τ Λ := hT0.same (fun a _ _ _ _ => a3 a (by omega))
    obtain ⟨I2, b1, b2, b3⟩ := C_findOrder2 (d := d + 1) (J := J) hL ht ht5 hW hT1 hm a2
    have hT2 : zCT I2 t1 τ Λ := hT1.same (fun a _ _ _ _ => b3 a (by omega))
    have hl2 : zlC I2 (zPa τ m) := fun r s hr hs => by rw [b3 411 (by decide), a3 411 (by decide)]; exact hl r s hr hs
    obtain ⟨I3, c1, c2, c3⟩ := C_walk (d := d + 3) (J := J) (c := 0) hL ht ht5 hW hT2 hm (by decide) (zLo_len hW hm) (zLo_in hW hm) b2 hl2
    have hT3 : zCT I3 t1 τ Λ := hT2.same (fun a _ _ _ _ => c3 a (by omega))
    obtain ⟨I4, e1, e2, e3⟩ := C_walk (d := d + 3) (J := J) (c := 1) hL ht ht5 hW hT3 hm (by decide) (zLo_len hW hm) (zLo_in hW hm) (fun i hi => by rw [c3 408 (by decide)]; exact b2 i hi) c2
    obtain ⟨I5, g1, g2, g3⟩ := ih I4 (fun a h1 h2 h3 => by rw [e3 a h3, c3 a h3, b3 a h1, a3 a h2, hf a h1 h2 h3]) (e2.congr fun r s hr hs => by
      unfold zbm zPa zPt
      by_cases q1 : r = 2 * m + 1
      · subst q1
        rw [if_pos (by omega), if_pos rfl, if_neg (by omega), if_neg (by omega), Nat.zero_add, show (2 * m + 1) / 2 = m by omega, show (2 * m + 1) % 2 = 1 by omega]
      · rw [if_neg q1]
        by_cases q2 : r = 2 * m + 0
        · subst q2
          rw [if_pos (by omega), if_pos rfl, if_neg (by omega), Nat.zero_add, show (2 * m + 0) / 2 = m by omega, show (2 * m + 0) % 2 = 0 by omega]
        · rw [if_neg q2]
          by_cases q3 : r < 2 * m
          · rw [if_pos q3, if_pos (by omega)]
          · rw [if_neg q3, if_neg (by omega)])
    refine ⟨I5, g1, g2, fun o K => BX4_choose_10 _ hL ht ⟨fun q => ?_, fun _ => ⟨I1, a1, I2, b1, I3, c1, I4, e1, by rw [zadd1]; exact g3 o K⟩⟩⟩
    rw [hn, zle' (by omega) (by omega)] at q; omega
def zdc (e : Nat) : Nat := if e % 2 = 0 then e / 2 else 144 + e / 2
theorem zdc_enc {s : Nat} (hs : s < 288) : zdc (zenc s) = s := by unfold zdc zenc; split <;> split <;> omega
theorem zenc_dc {e : Nat} (he : e < 288) : zdc e < 288 ∧ zenc (zdc e) = e := by unfold zdc zenc; split <;> split <;> omega
theorem C_countMeetings (hL : zLY Z t u) (hW : zTW τ Λ) {T : Nat → Nat → Nat} (hl : zlC I T) {a c : Nat} (ha : a < 14) (hc : c < 14) : zE (d + 1) kX4_countMeetings 0 [some (.ref 410), some (.int (nI a)), some (.int (nI c)), none, none] [] Z I J (some (.int (nI (zsum (fun s => T a s * T c s) 0 288))), Z, I, J) := by
  have rd : ∀ r, r < 14 → ∀ e, e < 288 → zat I 411 4032 ((nI r * 288) + nI e) = nI (T r (zdc e)) := by
    intro r hr e he
    have hd := zenc_dc he
    rw [show (288 : Int32) = nI 288 from rfl, zmul, zadd, zatI (by omega) (by decide)]
    have := hl r (zdc e) hr hd.1
    rw [hd.2] at this
    rw [Nat.mul_comm r 288]; exact this
  have hs : zsum (fun s => T a s * T c s) 0 288 = zsum (fun e => T a (zdc e) * T c (zdc e)) 0 288 := by
    rw [← zsum_enc (g := fun e => T a (zdc e) * T c (zdc e))]
    exact zsum_congr fun s _ h => by rw [zdc_enc (by omega)]
  have loop : ∀ e, e ≤ 288 → ∀ acc, zE (d + 1) kX4_countMeetings 5 [some (.ref 410), some (.int (nI a)), some (.int (nI c)), some (.int (nI acc)), some (.int (nI e))] [] Z I J (some (.int (nI (acc + zsum (fun e => T a (zdc e) * T c (zdc e)) e (288 - e)))), Z, I, J) := by
    refine zloop _ _ ?_ ?_
    · intro acc
      exact BX4_countMeetings_5 _ _ _ _ hL ⟨fun _ => by rw [zsum_end]; rfl, fun q => absurd (by decide) q⟩
    · intro e he ih acc
      rw [zsum_lt he, ← Nat.add_assoc]
      refine BX4_countMeetings_5 _ _ _ _ hL ⟨fun q => ?_, fun _ y1 ey1 => ?_⟩
      · exfalso; rw [show (288 : Int32) = nI 288 from rfl, zle' (by omega) (by omega)] at q; omega
      · rw [rd a ha e he, rd c hc e he, zmul, zadd] at ey1
        rw [ey1, zadd1]; exact ih _
  have := loop 0 (Nat.zero_le _) 0
  rw [Nat.zero_add, Nat.sub_zero, ← hs] at this
  exact BX4_countMeetings_0 _ _ hL this
/-- the class's meetings -/
def zlM (I : zI) (τ : Nat → Nat → Nat) (n : Nat) : Prop := ∀ a c, a < n → c < a → I 412 (14 * a + c) = nI (zPm τ a c)
theorem C_meets (hL : zLY Z t u) {t1 : Nat} (ht : zTx Z t1) (ht5 : t1 < 300) (hW : zTW τ Λ) (hT : zCT I t1 τ Λ) (hl : zlC I (zPa τ (τ 0 0))) : ∀ a, a ≤ 2 * τ 0 0 → ∀ I0 : zI, (∀ a, a ≠ 412 → I0 a = I a) → zlM I0 τ a →
    ∃ I1, (∀ a, a ≠ 412 → a ≠ 410 → I1 a = I a) ∧ zlM I1 τ (2 * τ 0 0) ∧ I1 410 0 = 1000000 ∧ ∀ o : zO, zE (d + 6) kX4_choose 116 [some (.ref 410), some (.ref t1), none, some (.int 0), none] [] Z I1 J o → zE (d + 6) kX4_choose 54 [some (.ref 410), some (.ref t1), none, some (.int (nI a)), none] [] Z I0 J o := by
  have h7 := hW.1.1
  have e2 : ∀ I0 : zI, (∀ a, a ≠ 412 → I0 a = I a) → (2 : Int32) * I0 t1 2 = nI (2 * τ 0 0) := fun I0 h => by rw [h _ (by omega), hT.1.1, show (2 : Int32) = nI 2 from rfl, zmul]
  refine zloop _ _ ?_ ?_
  · intro I0 hf hM
    refine ⟨zu I0 410 0 1000000, fun a h1 h2 => by rw [zu_ne h2]; exact hf a h1, fun a c ha hc => by rw [zu_ne (by decide)]; exact hM a c ha hc, zu_eq, fun o K => BX4_choose_54 _ hL ht ⟨fun _ I1 e1 => by rw [e1]; exact K, fun q => absurd (by rw [e2 I0 hf]; exact Int32.le_refl _) q⟩⟩
  · intro a ha ih I0 hf hM
    have inner : ∀ c, c ≤ a → ∀ I0 : zI, (∀ a, a ≠ 412 → I0 a = I a) → zlM I0 τ a → (∀ c', c' < c → I0 412 (14 * a + c') = nI (zPm τ a c')) →
        ∃ I1, (∀ a, a ≠ 412 → a ≠ 410 → I1 a = I a) ∧ zlM I1 τ (2 * τ 0 0) ∧ I1 410 0 = 1000000 ∧ ∀ o : zO, zE (d + 6) kX4_choose 116 [some (.ref 410), some (.ref t1), none, some (.int 0), none] [] Z I1 J o → zE (d + 6) kX4_choose 67 [some (.ref 410), some (.ref t1), none, some (.int (nI a)), some (.int (nI c))] [] Z I0 J o := by
      refine zloop _ _ ?_ ?_
      · intro I0 hf hM hr
        obtain ⟨I1, k1, k2, k3, k4⟩ := ih I0 hf (fun a' c' h1 h2 => by
          by_cases e : a' = a
          · subst e; exact hr c' h2
          · exact hM a' c' (by omega) h2)
        exact ⟨I1, k1, k2, k3, fun o K => BX4_choose_67 _ _ hL ht ⟨fun _ => by rw [zadd1]; exact k4 o K, fun q => absurd (Int32.le_refl _) q⟩⟩
      · intro c hc ihc I0 hf hM hr
        have cm := C_countMeetings (d := d + 4) (J := J) hL hW (I := I0) (T := zPa τ (τ 0 0)) (fun r s h1 h2 => by rw [hf 411 (by decide)]; exact hl r s h1 h2) (a := a) (c := c) (by omega) (by omega)
        have ez : zsum (fun s => zPa τ (τ 0 0) a s * zPa τ (τ 0 0) c s) 0 288 = zPm τ a c := zsum_congr fun s _ _ => by unfold zPa; rw [if_pos (by omega), if_pos (by omega)]
        rw [ez] at cm
        obtain ⟨I1, k1, k2, k3, k4⟩ := ihc (zu I0 412 (14 * a + c) (nI (zPm τ a c))) (fun a ha => by rw [zu_ne ha]; exact hf a ha) (fun a' c' h1 h2 => by rw [zu_k (by omega)]; exact hM a' c' h1 h2) (fun c' h' => by
          by_cases e : c' = c
          · subst e; rw [zu_eq]
          · rw [zu_k (by omega)]; exact hr c' (by omega))
        refine ⟨I1, k1, k2, k3, fun o K => BX4_choose_67 _ _ hL ht ⟨fun q => ?_, fun _ => ⟨_, cm, fun I2 ei => ?_⟩⟩⟩
        · rw [zle' (by omega) (by omega)] at q; omega
        · rw [show (nI a * 2) * 7 + nI c = nI (14 * a + c) by
            rw [show (2 : Int32) = nI 2 from rfl, show (7 : Int32) = nI 7 from rfl, zmul, zmul, zadd, show a * 2 * 7 + c = 14 * a + c by omega], zptI (by omega) (by decide)] at ei
          rw [ei, zadd1]; exact k4 o K
    obtain ⟨I1, k1, k2, k3, k4⟩ := inner 0 (Nat.zero_le _) I0 hf hM (fun c' h => absurd h (by omega))
    refine ⟨I1, k1, k2, k3, fun o K => BX4_choose_54 _ hL ht ⟨fun q => ?_, fun _ => k4 o K⟩⟩
    rw [e2 I0 hf, zle' (by omega) (by omega)] at q; omega
end

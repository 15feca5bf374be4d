/-! a day's WIND, HOME, CUT; what he wants; a minute -/
section
variable {d : Nat} {Z : zZ} {J : zJ} {t u : Nat} {τ : Nat → Nat → Nat} {Λ : Nat → Option zLaw} {ρ : Nat → Nat}
theorem zSx.put {I : zI} (h : zSx I) {a k : Nat} {v : Int32} (ha : a < 1000001) : zSx (zu I a k v) := fun w hw => by
  rw [zu_a (by omega), zu_a (by omega)]; exact h w hw
theorem zSx.same {I I' : zI} (h : zSx I) (h1 : I' 1000001 = I 1000001) (h2 : I' 1000002 = I 1000002) : zSx I' := fun w hw => by
  rw [h1, h2]; exact h w hw
theorem zSx.fd {I I' : zI} (h : zSx I) {d1 : Nat} (hx : d1 + 9 < 1000001) (hf : zfd d1 I I') : zSx I' := h.same (hf.1 _ (by omega)) (hf.1 _ (by omega))
theorem C_lastOf {d1 : Nat} (hd : zDy Z d1) {I : zI} (hH : zH τ ρ) (hC : zCD I d1 τ ρ) {m : Nat} (hm : m < τ 0 0) : zE (d + 1) kX0_lastOf 0 [some (.ref d1), some (.int (nI m)), none] [] Z I J (some (.int (nI (if ρ (14 + m) = 0 then 0 else 60 * m + (ρ (14 + m) - 1) + 1))), Z, I, J) := by
  have h7 := hH.1
  have h60 := hH.2 m hm
  have a3 : zat I (d1 + 3) 7 (nI m) = nI (ρ (14 + m)) := by rw [zatI (by omega) (by decide), (hC.2.1 m hm).2.2.1]
  refine BX0_lastOf_0 _ hd ⟨fun q => ?_, fun q => ?_⟩
  · rw [a3, show (0 : Int32) = nI 0 from rfl, zle' (by omega) (by decide)] at q
    rw [if_pos (by omega)]; rfl
  · rw [a3, show (0 : Int32) = nI 0 from rfl, zle' (by omega) (by decide)] at q
    obtain ⟨k, hk⟩ : ∃ k, ρ (14 + m) = k + 1 := ⟨ρ (14 + m) - 1, by omega⟩
    rw [if_neg (by omega), a3, hk, zsub1, zpcI]; rfl
theorem C_canTakeUp {d1 : Nat} (hd : zDy Z d1) {I : zI} (hW : zTW τ Λ) (hC : zCD I d1 τ ρ) (hD : zDW τ ρ) (hB : zRB ρ) {m : Nat} (hm : m < τ 0 0) : zE (d + 2) kX0_canTakeUp 0 [some (.ref d1), some (.int (nI m)), none] [] Z I J (some (.int (zbi (zcanW τ ρ m))), Z, I, J) := by
  have hH := hD.h hW
  have h7 := hH.1
  have h60 := hH.2 m hm
  have hl := C_lastOf (d := d) (J := J) hd hH hC hm
  obtain ⟨p1, p2, p3, p4, p5, p6⟩ := hD.man hm
  have a4 : zat I (d1 + 4) 7 (nI m) = nI (ρ (21 + m)) := by rw [zatI (by omega) (by decide), (hC.2.1 m hm).2.2.2]
  by_cases hn : ρ (14 + m) = 0
  · rw [if_pos hn] at hl
    refine BX0_canTakeUp_0 _ hd ⟨_, hl, fun q => ?_, fun q => absurd rfl q⟩
    rw [zbi_f]; rintro ⟨-, z, -⟩; exact z hn
  · rw [if_neg hn] at hl
    refine BX0_canTakeUp_0 _ hd ⟨_, hl, fun q => ?_, fun q => ⟨fun q2 => ?_, fun q2 => ?_⟩⟩
    · rw [zn0 (by omega)] at q; omega
    · rw [a4, zn0 (by omega)] at q2
      rw [zbi_f]; exact fun z => q2 z.1
    · rw [a4, zn0 (by omega)] at q2
      have hv := zlive_mk (ρ := ρ) hH hm (i := ρ (14 + m) - 1) (by omega)
      have hlt := zlive_lt hH hv
      have hs := zlive_s hW hD hv
      obtain ⟨v, e9, hb⟩ := hC.2.2.2 _ hs
      obtain ⟨-, e6, -⟩ := hC.2.2.1 _ hv
      have ev := zbel_lt hH hb
      rw [zatI (by omega) (by decide), e6, zatI (zenc_lt hs) (by decide), e9, zeq (by omega) (by omega)]
      have := zbel_top hW hD hB hv hb
      refine ⟨fun z => ?_, fun z => ?_⟩
      · rw [zbi_f]; intro y; exact z (this.mpr y.2.2)
      · rw [zbi_t ⟨q2, hn, this.mp z⟩]
theorem zunl_hi {m k : Nat} (hm : m < 7) (hk : 21 ≤ k) : zunl ρ m k = ρ k := zunl_k (by omega) (by omega) (by omega)
set_option maxHeartbeats 2000000 in
theorem C_takeUp (hL : zLY Z t u) {d1 : Nat} (hd : zDy Z d1) {I : zI} (hS : zSx I) (hx : d1 + 9 < 1000001) (hW : zTW τ Λ) (hC : zCD I d1 τ ρ) (hD : zDW τ ρ) (hB : zRB ρ) {m : Nat} (hm : m < τ 0 0) :
    (zcanW τ ρ m → ∃ I', zE (d + 3) kX0_takeUp 0 [some (.ref d1), some (.int (nI m)), none, none] [] Z I J (some (.int 1), Z, I', J) ∧ zCD I' d1 τ (zunl ρ m) ∧ zfd d1 I I') ∧
    (¬ zcanW τ ρ m → zE (d + 3) kX0_takeUp 0 [some (.ref d1), some (.int (nI m)), none, none] [] Z I J (some (.int 0), Z, I, J)) := by
  have hH := hD.h hW
  have h7 := hH.1
  have h60 := hH.2 m hm
  have hcl := C_canTakeUp (d := d) (J := J) hd hW hC hD hB hm
  refine ⟨fun hc => ?_, fun hc => ?_⟩
  · rw [zbi_t hc] at hcl
    have hlo := C_lastOf (d := d + 1) (J := J) hd hH hC hm
    obtain ⟨c1, c2, c3⟩ := id hc
    rw [if_neg c2] at hlo
    obtain ⟨p1, p2, p3, p4, p5, p6⟩ := hD.man hm
    obtain ⟨p7, p8⟩ := p6 c1
    obtain ⟨g1, g2, g3, g4⟩ := hC.2.1 m hm
    have hv0 := zlive_mk (ρ := ρ) hH hm (i := ρ (14 + m) - 1) (by omega)
    have live0 := zlive_cut (ρ' := zunl ρ m) hH hm c2 (zunl_n (by omega)) (fun m' hm' hne => zunl_k (by omega) (by omega) (by omega))
    have kx := zunl_x (ρ := ρ) (m := m) (by omega)
    have ky := zunl_y (ρ := ρ) (m := m)
    have kn := zunl_n (ρ := ρ) (m := m) (by omega)
    have kk : ∀ k, 21 ≤ k → zunl ρ m k = ρ k := fun k hk => zunl_hi (by omega) hk
    obtain ⟨k, hk⟩ : ∃ k, ρ (14 + m) = k + 1 := ⟨ρ (14 + m) - 1, by omega⟩
    obtain ⟨q0, hQ⟩ : ∃ q0, q0 = 60 * m + (ρ (14 + m) - 1) := ⟨_, rfl⟩
    rw [← hQ] at hv0 c3 hlo kx ky
    have live : ∀ q, zlive τ (zunl ρ m) q ↔ zlive τ ρ q ∧ q ≠ q0 := fun q => by rw [hQ]; exact live0 q
    have hQk : q0 = 60 * m + k := by omega
    have hq0 := zlive_lt hH hv0
    obtain ⟨r5, r6, -, v0, r7, hb0⟩ := hC.2.2.1 q0 hv0
    have hs0 := zlive_s hW hD hv0
    obtain ⟨w1, w4⟩ := zlive_w hD hv0
    obtain ⟨vt, r9, hbt⟩ := hC.2.2.2 _ hs0
    obtain rfl : vt = q0 + 1 := (zbel_top hW hD hB hv0 hbt).mpr c3
    obtain ⟨-, -, -, ht4⟩ := zbel_q hbt
    obtain ⟨x1, x2, y1, y2⟩ := hD.2.1 m k hm (by omega)
    have bx : (ρ m : Int) - zdi (ρ (30 + q0)) = zpX τ ρ m k := by rw [p7, hk]; simp only [zpX]; rw [hQk]; omega
    have bY : (ρ (7 + m) : Int) - zdj (ρ (30 + q0)) = zpY τ ρ m k := by rw [p8, hk]; simp only [zpY]; rw [hQk]; omega
    have ax := zsubI (a := ρ m) (zdi_b (ρ (30 + q0))) (by omega)
    have ay := zsubI (a := ρ (7 + m)) (zdj_b (ρ (30 + q0))) (by omega)
    generalize hX : ((ρ m : Int) - zdi (ρ (30 + q0))).toNat = X at kx ax
    generalize hY : ((ρ (7 + m) : Int) - zdj (ρ (30 + q0))).toNat = Y at ky ay
    have hes := zenc_lt hs0
    have hv0l := zbel_lt hH hb0
    generalize hIf : zu (zu (zu (zu I (d1 + 9) (zenc (ρ (870 + q0))) (nI v0)) (d1 + 3) m (nI (ρ (14 + m) - 1))) (d1 + 1) m (nI X)) (d1 + 2) m (nI Y) = If
    have f10 : If d1 10 = I d1 10 := by rw [← hIf]; simp [zu_if]
    have f1 : ∀ j, If (d1 + 1) j = if j = m then nI X else I (d1 + 1) j := fun j => by rw [← hIf]; simp [zu_if]
    have f2 : ∀ j, If (d1 + 2) j = if j = m then nI Y else I (d1 + 2) j := fun j => by rw [← hIf]; simp [zu_if]
    have f3 : ∀ j, If (d1 + 3) j = if j = m then nI (ρ (14 + m) - 1) else I (d1 + 3) j := fun j => by rw [← hIf]; simp [zu_if]
    have f4 : ∀ j, If (d1 + 4) j = I (d1 + 4) j := fun j => by rw [← hIf]; simp [zu_if]
    have f5 : ∀ j, If (d1 + 5) j = I (d1 + 5) j := fun j => by rw [← hIf]; simp [zu_if]
    have f6 : ∀ j, If (d1 + 6) j = I (d1 + 6) j := fun j => by rw [← hIf]; simp [zu_if]
    have f7 : ∀ j, If (d1 + 7) j = I (d1 + 7) j := fun j => by rw [← hIf]; simp [zu_if]
    have f8 : ∀ j, If (d1 + 8) j = I (d1 + 8) j := fun j => by rw [← hIf]; simp [zu_if]
    have f9 : ∀ j, If (d1 + 9) j = if j = zenc (ρ (870 + q0)) then nI v0 else I (d1 + 9) j := fun j => by rw [← hIf]; simp [zu_if]
    have hfr : zfd d1 I If := by
      rw [← hIf]
      exact (((zfd.put (by omega) (by omega) (by omega)).tr (zfd.put (by omega) (by omega) (by omega))).tr (zfd.put (by omega) (by omega) (by omega))).tr (zfd.put (by omega) (by omega) (by omega))
    refine ⟨If, BX0_takeUp_0 _ hL hd ⟨1, hcl, fun _ => ⟨_, hlo, fun I3 e3 I4 e4 => ?_⟩, fun q => absurd q (by decide)⟩, ⟨?_, fun m' hm' => ?_, fun q hq => ?_, fun s hs' => ?_⟩, hfr⟩
    · rw [zatI (by omega) (by decide), zatI (by omega) (by decide), r6, r7, zptI hes (by decide)] at e3
      subst e3
      rw [zptI (by omega) (by decide), zatI (by omega) (by decide), zu_a (by omega), g3, hk, zsub1, show k = ρ (14 + m) - 1 by omega] at e4
      subst e4
      have ew : zat I (d1 + 5) 421 (nI (q0 + 1)) = nI (ρ (30 + q0)) := by rw [zatI (by omega) (by decide), r5]
      rw [ew]
      refine ⟨_, S_stepX hL ((hS.put (by omega)).put (by omega)) w4, fun I6 e6 => ?_⟩
      rw [zptI (by omega) (by decide), zatI (by omega) (by decide), zu_a (by omega), zu_a (by omega), g1, ax] at e6
      subst e6
      refine ⟨_, S_stepY hL (((hS.put (by omega)).put (by omega)).put (by omega)) w4, fun I8 e8 => ?_⟩
      rw [zptI (by omega) (by decide), zatI (by omega) (by decide), zu_a (by omega), zu_a (by omega), zu_a (by omega), g2, ay] at e8
      rw [e8, hIf]
    · rw [f10, kk 29 (by decide)]; exact hC.1
    · rw [f1, f2, f3, f4, kk (21 + m') (by omega)]
      by_cases e : m' = m
      · subst e
        rw [if_pos rfl, if_pos rfl, if_pos rfl, kx, ky, kn, g4]
        exact ⟨rfl, rfl, rfl, rfl⟩
      · rw [if_neg e, if_neg e, if_neg e, zunl_k (k := m') (by omega) (by omega) (by omega), zunl_k (k := 7 + m') (by omega) (by omega) (by omega), zunl_k (k := 14 + m') (by omega) (by omega) (by omega)]
        exact hC.2.1 m' hm'
    · obtain ⟨hq1, hq2⟩ := (live q).mp hq
      rw [f5, f6, f7, f8, kk _ (by omega), kk _ (by omega), kk _ (by omega)]
      obtain ⟨s1, s2, s3, v, s4, s5⟩ := hC.2.2.1 q hq1
      refine ⟨s1, s2, s3, v, s4, zbel_keep s5 (fun q _ => kk _ (by omega)) (fun q _ => kk _ (by omega)) live ?_⟩
      rintro rfl
      obtain ⟨-, z2, z3, -⟩ := zbel_q s5
      have := ht4 q hq1 (by omega) (zlive_t hD hq1)
      omega
    · rw [f9, kk 29 (by decide)]
      by_cases e : s = ρ (870 + q0)
      · subst e
        rw [if_pos rfl]
        exact ⟨v0, rfl, zbel_drop hD.2.2.2 hbt hb0 (fun q _ => kk _ (by omega)) (fun q _ => kk _ (by omega)) live⟩
      · rw [if_neg (fun z => e (zenc_inj z))]
        obtain ⟨v, z1, z2⟩ := hC.2.2.2 s hs'
        refine ⟨v, z1, zbel_keep z2 (fun q _ => kk _ (by omega)) (fun q _ => kk _ (by omega)) live ?_⟩
        rintro rfl
        exact e (zbel_q z2).2.1.symm
  · rw [zbi_f hc] at hcl
    exact BX0_takeUp_0 _ hL hd ⟨0, hcl, fun q => absurd rfl q, fun _ => rfl⟩
/-- how often he can WIND, at most f times; the day behind that -/
def zwa (τ : Nat → Nat → Nat) : Nat → (Nat → Nat) → Nat → Nat × (Nat → Nat)
  | 0, ρ, _ => (0, ρ)
  | f + 1, ρ, m => if zcanW τ ρ m then ((zwa τ f (zunl ρ m) m).1 + 1, (zwa τ f (zunl ρ m) m).2) else (0, ρ)
theorem zRB_unl (hB : zRB ρ) (hD : zDW τ ρ) (hW : zTW τ Λ) {m : Nat} (hm : m < τ 0 0) (h0 : ρ (21 + m) = 0) (hn : ρ (14 + m) ≠ 0) : zRB (zunl ρ m) := by
  have := (zDW_unl hW hD hm h0 hn).man hm
  have h7 := hW.1
  intro k hk
  by_cases e1 : k = 7 + m
  · subst e1; have := this.2.1; omega
  · by_cases e2 : k = m
    · subst e2; have := this.1; omega
    · by_cases e3 : k = 14 + m
      · subst e3; rw [zunl_n (by omega)]; have := hB (14 + m) (by omega); omega
      · rw [zunl_k e1 e2 e3]; exact hB k hk
theorem C_takeUpAll_loop (hL : zLY Z t u) {d1 : Nat} (hd : zDy Z d1) (hx : d1 + 9 < 1000001) (hW : zTW τ Λ) {m : Nat} (hm : m < τ 0 0) : ∀ (f i : Nat) (I : zI) (ρ : Nat → Nat), i + f = 60 → ρ (14 + m) ≤ f → zSx I → zCD I d1 τ ρ → zDW τ ρ → zRB ρ → ∀ n, n ≤ i →
    ∃ I', zE (d + 4) kX0_takeUpAll 4 [some (.ref d1), some (.int (nI m)), some (.int (nI n)), some (.int (nI i))] [] Z I J (some (.int (nI (n + (zwa τ f ρ m).1))), Z, I', J) ∧ zCD I' d1 τ (zwa τ f ρ m).2 ∧ zfd d1 I I' := by
  intro f
  induction f with
  | zero =>
    intro i I ρ hi hf hS hC hD hB n hn
    refine ⟨I, BX0_takeUpAll_4 _ _ _ hd ⟨fun _ => rfl, fun q => ?_⟩, hC, zfd.rf⟩
    exfalso
    rw [show (60 : Int32) = nI 60 from rfl, zle' (by decide) (by omega)] at q; omega
  | succ f ih =>
    intro i I ρ hi hf hS hC hD hB n hn
    have hq : ¬ (60 : Int32) ≤ nI i := by rw [show (60 : Int32) = nI 60 from rfl, zle' (by decide) (by omega)]; omega
    have ht := C_takeUp (d := d) (J := J) hL hd hS hx hW hC hD hB hm
    by_cases hc : zcanW τ ρ m
    · obtain ⟨I1, h1, h2, h3⟩ := ht.1 hc
      have h7 := hW.1.1
      obtain ⟨I', g1, g2, g3⟩ := ih (i + 1) I1 (zunl ρ m) (by omega) (by rw [zunl_n (by omega)]; omega) (hS.fd hx h3) h2 (zDW_unl hW hD hm hc.1 hc.2.1) (zRB_unl hB hD hW hm hc.1 hc.2.1) (n + 1) (by omega)
      simp only [zwa]
      rw [if_pos hc]
      refine ⟨I', BX0_takeUpAll_4 _ _ _ hd ⟨fun q => absurd q hq, fun _ => ⟨1, I1, h1, fun q => absurd q (by decide), fun _ => ?_⟩⟩, g2, h3.tr g3⟩
      rw [zadd1, zadd1, show n + ((zwa τ f (zunl ρ m) m).1 + 1) = n + 1 + (zwa τ f (zunl ρ m) m).1 by omega]
      exact g1
    · simp only [zwa]
      rw [if_neg hc]
      exact ⟨I, BX0_takeUpAll_4 _ _ _ hd ⟨fun q => absurd q hq, fun _ => ⟨0, I, ht.2 hc, fun _ => rfl, fun q => absurd rfl q⟩⟩, hC, zfd.rf⟩
theorem C_takeUpAll (hL : zLY Z t u) {d1 : Nat} (hd : zDy Z d1) (hx : d1 + 9 < 1000001) (hW : zTW τ Λ) {m : Nat} (hm : m < τ 0 0) {I : zI} (hS : zSx I) (hC : zCD I d1 τ ρ) (hD : zDW τ ρ) (hB : zRB ρ) :
    ∃ I', zE (d + 4) kX0_takeUpAll 0 [some (.ref d1), some (.int (nI m)), none, none] [] Z I J (some (.int (nI (zwa τ 60 ρ m).1)), Z, I', J) ∧ zCD I' d1 τ (zwa τ 60 ρ m).2 ∧ zfd d1 I I' := by
  obtain ⟨I', h1, h2, h3⟩ := C_takeUpAll_loop (d := d) (J := J) hL hd hx hW hm 60 0 I ρ rfl ((hD.h hW).2 m hm) hS hC hD hB 0 (Nat.le_refl _)
  rw [Nat.zero_add] at h1
  exact ⟨I', BX0_takeUpAll_0 _ hd h1, h2, h3⟩
end

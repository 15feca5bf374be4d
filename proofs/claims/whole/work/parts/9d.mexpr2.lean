/-! the reference's reader: an E, whole -/
theorem zkL_xr : ∀ k ∈ zkL, (31 ≤ zkr k ∧ zkr k ≤ 36 ↔ 139 ≤ k ∧ k ≤ 144) ∧ (139 ≤ k → k ≤ 144 → zkr k = 31 + (k - 139)) := by decide
section
variable {d : Nat} {Z : zZ} {I I' : zI} {J : zJ} {t u s c op t0 : Nat} {w : List Nat} {out : List zTok} {K P V W X : Nat → Nat} {r : zRt}
theorem M_unitE (hL : zLY Z t u) {e : Nat × Nat} (h : zMt I K P (.error e)) : zE (d + 2) kX12_unit 0 [some (.ref 420)] [] Z I J (none, Z, I, J) := by
  obtain ⟨n0, n1, n2⟩ := h.e0
  exact BX12_unit_0 hL ⟨0, BX12_is_0 _ hL ⟨fun _ => rfl, fun q => absurd q n0⟩, fun _ => ⟨fun _ => ⟨I, BX12_fail_0 _ hL ⟨fun q => absurd q n1, fun _ => rfl⟩, rfl⟩, fun q => absurd q n0⟩, fun q => absurd rfl q⟩
theorem M_isE (hL : zLY Z t u) {e : Nat × Nat} (h : zMt I K P (.error e)) {x : Int32} : zE d kX12_is 0 [some (.ref 420), some (.int x)] [] Z I J (some (.int 0), Z, I, J) := BX12_is_0 _ hL ⟨fun _ => rfl, fun q => absurd q h.e0.1⟩
theorem M_failE (hL : zLY Z t u) {e : Nat × Nat} (h : zMt I K P (.error e)) {x : Int32} : zE d kX12_fail 0 [some (.ref 420), some (.int x)] [] Z I J (none, Z, I, J) := BX12_fail_0 _ hL ⟨fun q => absurd q h.e0.2.1, fun _ => rfl⟩
/-- the next unit -/
def zun (K V : Nat → Nat) (t0 : Nat) (out : List zTok) : zRt × List zTok := if K t0 = 3 then (zgn t0, out ++ [(0, nI (V t0))]) else if 139 ≤ K t0 ∧ K t0 ≤ 144 then (zgn t0, out ++ [(1, nI (K t0 - 139))]) else (.error (1, t0), out)
theorem M_unit (hL : zLY Z t u) (hT : zTM I J K P V X) (hB : zMB K P V W X) (hs : s < 2) (h : zMt I K P (.ok t0)) (hx : zMx I s c op w out) (hc : c + out.length < 420) : ∃ I', zE (d + 2) kX12_unit 0 [some (.ref 420)] [] Z I J (none, Z, I', J) ∧ zMt I' K P (zun K V t0 out).1 ∧ zMx I' s c op w (zun K V t0 out).2 ∧ zfX s c zFX I I' := by
  obtain ⟨⟨p1, p2⟩, p3, p4⟩ := h
  obtain ⟨⟨a1, a2⟩, a3, -⟩ := hT t0 (by omega) p2
  have hk := hB.1 t0
  have hk100 := (zkL_lt _ hk).2
  obtain ⟨x1, x2⟩ := zkL_xr _ hk
  have hv : vp_in (I 420 11) 403 := by rw [p4]; exact zvin (by omega) (by decide)
  have e3 : I 423 (I 420 11).toNatClampNeg = nI (zkr (K t0)) := by rw [p4, zclm (by omega), a1]
  obtain ⟨v, v1, v2⟩ := M_is (d := d + 1) (r := .ok t0) hL hT hB ⟨⟨p1, p2⟩, p3, p4⟩ (k := 3) (by decide)
  unfold zun
  by_cases c3 : K t0 = 3
  · rw [if_pos c3]
    have nv : ¬ v = 0 := v2.mpr ⟨t0, rfl, c3⟩
    have e5 : I 425 (I 420 11).toNatClampNeg = nI (V t0) := by rw [p4, zclm (by omega), a3 c3]
    obtain ⟨I2, b1, b2, b3⟩ := M_emit (d := d + 1) (J := J) hL hx hs hc 0 (nI (V t0))
    obtain ⟨I3, d1, d2, d3⟩ := M_goesOn (d := d) hL (hT.fx b3) (zMt.fx (r := .ok t0) ⟨⟨p1, p2⟩, p3, p4⟩ b3 (by decide) (by decide) (by decide)) (fun t1 q => by cases q; rw [c3]; decide)
    exact ⟨I3, BX12_unit_0 hL ⟨v, v1, fun q => absurd q nv, fun _ => ⟨hv, I2, by rw [e5]; exact b1, I3, d1, rfl⟩⟩, d2, b2.f4 d3 (by decide) (by decide) (by decide), (b3.mono (by decide)).tr (d3.X.mono (by decide))⟩
  · rw [if_neg c3]
    have nv : v = 0 := Classical.not_not.mp fun q => by
      obtain ⟨t1, q1, q2⟩ := v2.mp q
      cases q1; exact c3 q2
    by_cases cx : 139 ≤ K t0 ∧ K t0 ≤ 144
    · rw [if_pos cx]
      obtain ⟨y1, y2⟩ := x1.mpr cx
      have n31 : ¬ I 423 (I 420 11).toNatClampNeg < 31 := by rw [e3, show (31 : Int32) = nI 31 from rfl, zlt (by omega) (by decide)]; omega
      have n36 : ¬ 36 < I 423 (I 420 11).toNatClampNeg := by rw [e3, show (36 : Int32) = nI 36 from rfl, zlt (by decide) (by omega)]; omega
      have ek : I 423 (I 420 11).toNatClampNeg - 31 = nI (K t0 - 139) := by
        rw [e3, x2 cx.1 cx.2, show (31 : Int32) = nI 31 from rfl, zsub (by omega)]
        rw [show 31 + (K t0 - 139) - 31 = K t0 - 139 by omega]
      obtain ⟨I2, b1, b2, b3⟩ := M_emit (d := d + 1) (J := J) hL hx hs hc 1 (nI (K t0 - 139))
      obtain ⟨I3, d1, d2, d3⟩ := M_goesOn (d := d) hL (hT.fx b3) (zMt.fx (r := .ok t0) ⟨⟨p1, p2⟩, p3, p4⟩ b3 (by decide) (by decide) (by decide)) (fun t1 q => by cases q; omega)
      exact ⟨I3, BX12_unit_0 hL ⟨v, v1, fun _ => ⟨fun q => absurd p3 q, fun _ => ⟨hv, fun q => absurd q n31, fun _ => ⟨hv, fun q => absurd q n36, fun _ => ⟨hv, I2, by rw [ek]; exact b1, I3, d1, rfl⟩⟩⟩⟩, fun q => absurd nv q⟩, d2, b2.f4 d3 (by decide) (by decide) (by decide), (b3.mono (by decide)).tr (d3.X.mono (by decide))⟩
    · rw [if_neg cx]
      obtain ⟨I2, g1, g2, g3⟩ := M_fail (d := d + 1) hL hT (r := .ok t0) ⟨⟨p1, p2⟩, p3, p4⟩ (k := 1) (by decide)
      refine ⟨I2, BX12_unit_0 hL ⟨v, v1, fun _ => ⟨fun q => absurd p3 q, fun _ => ⟨hv, fun _ => ⟨I2, g1, rfl⟩, fun q1 => ⟨hv, fun _ => ⟨I2, g1, rfl⟩, fun q2 => ?_⟩⟩⟩, fun q => absurd nv q⟩, g2, hx.f4 g3 (by decide) (by decide) (by decide), g3.X.mono (by decide)⟩
      exfalso
      rw [e3, show (31 : Int32) = nI 31 from rfl, zlt (by omega) (by decide)] at q1
      rw [e3, show (36 : Int32) = nI 36 from rfl, zlt (by decide) (by omega)] at q2
      exact cx (x1.mp ⟨by omega, by omega⟩)
theorem M_ex23E (hL : zLY Z t u) {e : Nat × Nat} (h : zMt I K P (.error e)) {x : Int32} : zE (d + 3) kX12_expression 23 [some (.ref 420), some (.int x), none] [] Z I J (none, Z, I, J) :=
  BX12_expression_23 _ hL ⟨0, M_isE hL h, fun _ => ⟨I, M_unitE hL h, fun q => absurd q h.e0.2.1, fun _ => rfl⟩, fun q => absurd rfl q⟩
theorem M_ex96E (hL : zLY Z t u) (hs : s < 2) {e : Nat × Nat} (h : zMt I K P (.error e)) (hx : zMx I s c op w out) (hw : zwk op w) (hop : op ≤ 6) (hc : c + out.length + znop w < 420) {x : Int32} : ∃ I', zE (d + 3) kX12_expression 96 [some (.ref 420), some (.int x), none] [] Z I J (none, Z, I', J) ∧ zMt I' K P (.error e) ∧ zfX s c zFX I I' := by
  obtain ⟨I2, b1, b2, b3⟩ := M_comesOut (d := d + 1) (J := J) (c := c) (op := op) hL hs (b := 1) (Or.inl rfl) w out I (zwk_mem _ _ hw) hx hc (by have := (zwk_len _ _ hw).1; omega)
  have k := BX12_expression_204 (o := (none, Z, I2, J)) hL ⟨I2, b1, rfl⟩
  refine ⟨I2, BX12_expression_96 _ hL ⟨0, M_isE hL h, fun _ => BX12_expression_145 _ hL ⟨0, M_isE hL h, fun q => absurd rfl q, fun _ => ⟨0, M_isE hL h, fun q => absurd rfl q, fun _ => ⟨0, M_isE hL h, fun q => absurd rfl q, fun _ => ⟨0, M_isE hL h, fun _ => ⟨fun _ => k, fun _ => ⟨I, M_failE hL h, k⟩⟩, fun q => absurd rfl q⟩⟩⟩⟩, fun q => absurd rfl q⟩, h.fx b3 (by decide) (by decide) (by decide), b3.mono (by decide)⟩
/-- what an E leaves -/
def zXo (I I' : zI) (K P : Nat → Nat) (s c t0 : Nat) (res : Except (Nat × Nat) (Nat × List zTok)) : Prop := zfX s c zFX I I' ∧ match res with
  | .error e => zMt I' K P (.error e)
  | .ok q => zMt I' K P (.ok q.1) ∧ I' 420 47 = nI (420 * s + c + q.2.length) ∧ zseg (I' 452) (I' 453) (420 * s + c) q.2 ∧ I' 420 12 = 0 ∧ zpw q.2 0 ∧ c + q.2.length ≤ q.1 ∧ t0 ≤ q.1
theorem zXo.tr {I1 : zI} {t1 : Nat} {res : Except (Nat × Nat) (Nat × List zTok)} (h1 : zfX s c zFX I I1) (h2 : zXo I1 I' K P s c t1 res) (ht : t0 ≤ t1) : zXo I I' K P s c t0 res := by
  refine ⟨h1.tr h2.1, ?_⟩
  have h := h2.2
  cases res with
  | error e => exact h
  | ok q => exact ⟨h.1, h.2.1, h.2.2.1, h.2.2.2.1, h.2.2.2.2.1, h.2.2.2.2.2.1, by have := h.2.2.2.2.2.2; omega⟩
theorem M_ex (hL : zLY Z t u) (hB : zMB K P V W X) (hs : s < 2) : ∀ (f : Nat) (due : Bool) (t0 op : Nat) (w : List Nat) (out : List zTok) (I : zI), zTM I J K P V X → zMt I K P (.ok t0) → zMx I s c op w out → zxi due c t0 op w out → f + t0 = 402 →
    ∃ I', zE (d + 3) kX12_expression (if due = true then 23 else 96) [some (.ref 420), some (.int 0), none] [] Z I J (none, Z, I', J) ∧ zXo I I' K P s c t0 (zex K V f due t0 op w out) := by
  intro f
  induction f with
  | zero => intro due t0 op w out I _ h _ _ hf; exfalso; have := h.1.1; omega
  | succ f ih =>
    intro due t0 op w out I hT h hx hi hf
    obtain ⟨⟨p1, p2⟩, p3, p4⟩ := h
    have hM : zMt I K P (.ok t0) := ⟨⟨p1, p2⟩, p3, p4⟩
    have hop := hi.2.1
    have hlen := hi.2.2.2
    have hwl := zxi_len hi
    have e12 : I 420 12 = nI op := hx.2.2.2.2
    have is := fun (k : Nat) (hk : k ∈ zkL) => M_is (d := d + 2) hL hT hB hM hk
    cases due with
    | true =>
      rw [if_pos rfl]
      obtain ⟨v, v1, v2⟩ := is 40 (by decide)
      simp only [zex]
      by_cases c40 : K t0 = 40
      · have nv : ¬ v = 0 := v2.mpr ⟨t0, rfl, c40⟩
        rw [if_neg (by omega), if_neg (by omega), if_pos c40]
        -- from the opening sign on
        have fw : ∀ (I1 : zI) (r : zRt), zTM I1 J K P V X → zMt I1 K P r → zMx I1 s c op w out → (∀ t1, r = .ok t1 → K t1 ≠ 0) → ∃ I5, zMt I5 K P (zgr r) ∧ zMx I5 s c (op + 1) (40 :: w) out ∧ zfX s c zFX I1 I5 ∧ ∀ o : zO, zE (d + 3) kX12_expression 23 [some (.ref 420), some (.int 0), none] [] Z I5 J o → zE (d + 3) kX12_expression 46 [some (.ref 420), some (.int 0), none] [] Z I1 J o := by
          intro I1 r hT1 h1 hx1 hk1
          obtain ⟨I2, e2⟩ : ∃ I2 : zI, I2 = zu I1 420 12 (nI (op + 1)) := ⟨_, rfl⟩
          have f2 : zf4 [12] I1 I2 := by rw [e2]; exact zf4.put (by decide)
          obtain ⟨I3, a1, a2, a3⟩ := M_goesOn (d := d + 1) hL (hT1.f4 f2) (h1.f4 f2 (by decide) (by decide) (by decide)) hk1
          obtain ⟨g1, g2, g3, g4, g5⟩ := hx1
          have h51 : I3 420 51 = nI w.length := by rw [a3.2 51 (by decide), f2.2 51 (by decide)]; exact g3
          obtain ⟨I4, e4⟩ : ∃ I4 : zI, I4 = zu I3 454 w.length 6 := ⟨_, rfl⟩
          obtain ⟨I5, e5⟩ : ∃ I5 : zI, I5 = zu I4 420 51 (nI (w.length + 1)) := ⟨_, rfl⟩
          have f5 : zf4 [51] I4 I5 := by rw [e5]; exact zf4.put (by decide)
          have f4 : zfX s c [] I3 I4 := by rw [e4]; exact ⟨fun a _ _ _ p => zu_ne p, fun k _ => by rw [zu_ne (by decide)], fun j _ => ⟨by rw [zu_ne (by decide)], by rw [zu_ne (by decide)]⟩⟩
          have r5 : ∀ a, a ≠ 420 → a ≠ 454 → I5 a = I1 a := fun a q1 q2 => by rw [f5.1 a q1, e4, zu_ne q2, a3.1 a q1, f2.1 a q1]
          have k5 : ∀ k, k ≠ 51 → I5 420 k = I3 420 k := fun k q => by rw [f5.2 k (by simp; exact q), e4, zu_ne (by decide)]
          refine ⟨I5, ?_, ⟨?_, ?_, ?_, ?_, ?_⟩, ((f2.X.mono (by decide)).tr (a3.X.mono (by decide))).tr ((f4.mono (by decide)).tr (f5.X.mono (by decide))), fun o ho => BX12_expression_46 _ hL (fun y1 ey1 => ?_)⟩
          · exact (a2.fx f4 (by decide) (by decide) (by decide)).f4 f5 (by decide) (by decide) (by decide)
          · rw [k5 47 (by decide), a3.2 47 (by decide), f2.2 47 (by decide)]; exact g1
          · rw [r5 452 (by decide) (by decide), r5 453 (by decide) (by decide)]; exact g2
          · rw [e5, zu_eq]; rfl
          · rw [f5.1 454 (by decide), e4]
            refine ⟨by rw [List.length_map, zu_eq]; rfl, zpile_upd ?_ (by rw [List.length_map]; exact Nat.le_refl _)⟩
            rw [a3.1 454 (by decide), f2.1 454 (by decide)]; exact g4
          · rw [k5 12 (by decide), a3.2 12 (by decide), e2, zu_eq]
          · rw [g5, zadd1, ← e2] at ey1
            rw [ey1]
            refine ⟨I3, a1, by rw [h51]; exact zvin (by omega) (by decide), fun y3 ey3 y4 ey4 => ?_⟩
            rw [h51, zclm (by omega), ← e4] at ey3
            have : y3 420 51 = nI w.length := by rw [ey3, e4, zu_ne (by decide)]; exact h51
            rw [this, zadd1, ey3, ← e5] at ey4
            rw [ey4]; exact ho
        by_cases c6 : 6 ≤ op
        · rw [if_pos c6]
          have o6 : I 420 12 = 6 := by rw [e12, show op = 6 by omega]; rfl
          obtain ⟨I1, a1, a2, a3⟩ := M_fail (d := d + 2) hL hT hM (k := 2) (by decide)
          obtain ⟨I5, b1, b2, b3, b4⟩ := fw I1 _ (hT.f4 a3) a2 (hx.f4 a3 (by decide) (by decide) (by decide)) (fun t1 q => absurd q (by simp [zflr]))
          exact ⟨I5, BX12_expression_23 _ hL ⟨v, v1, fun q => absurd q nv, fun _ => ⟨fun q => absurd o6 q, fun _ => ⟨I1, a1, b4 _ (M_ex23E hL b1)⟩⟩⟩, (a3.X.mono (by decide)).tr b3, b1⟩
        · rw [if_neg c6]
          have o6 : ¬ I 420 12 = 6 := by rw [e12, show (6 : Int32) = nI 6 from rfl, zeq (by omega) (by decide)]; omega
          obtain ⟨I5, b1, b2, b3, b4⟩ := fw I _ hT hM hx (fun t1 q => by cases q; rw [c40]; decide)
          have hb1 : zMt I5 K P (zgn t0) := b1
          by_cases c400 : t0 = 400
          · rw [if_pos c400]
            have er : zgn t0 = .error (2, t0) := by unfold zgn; rw [if_pos c400]
            rw [er] at hb1
            exact ⟨I5, BX12_expression_23 _ hL ⟨v, v1, fun q => absurd q nv, fun _ => ⟨fun _ => b4 _ (M_ex23E hL hb1), fun q => absurd q o6⟩⟩, b3, hb1⟩
          · rw [if_neg c400]
            have er : zgn t0 = .ok (t0 + 1) := by unfold zgn; rw [if_neg c400]
            rw [er] at hb1
            obtain ⟨I6, d1, d2⟩ := ih true (t0 + 1) (op + 1) (40 :: w) out I5 (hT.fx b3) hb1 b2 (zxi_opens hi c6) (by omega)
            rw [if_pos rfl] at d1
            exact ⟨I6, BX12_expression_23 _ hL ⟨v, v1, fun q => absurd q nv, fun _ => ⟨fun _ => b4 _ d1, fun q => absurd q o6⟩⟩, zXo.tr b3 d2 (by omega)⟩
      · have nv : v = 0 := Classical.not_not.mp fun q => by
          obtain ⟨t1, q1, q2⟩ := v2.mp q
          cases q1; exact c40 q2
        obtain ⟨I2, a1, a2, a3, a4⟩ := M_unit (d := d) hL hT hB hs hM hx (by omega)
        have go : ∀ (q : zTok), zun K V t0 out = (zgn t0, out ++ [q]) → (q.1 = 0 ∨ q.1 = 1 ∧ ∃ i, i < 6 ∧ q.2 = nI i) → ∃ I', zE (d + 3) kX12_expression 23 [some (.ref 420), some (.int 0), none] [] Z I J (none, Z, I', J) ∧ zXo I I' K P s c t0 (if t0 = 400 then .error (2, t0) else zex K V f false (t0 + 1) op w (out ++ [q])) := by
          intro q hq hq2
          rw [hq] at a2 a3
          by_cases c400 : t0 = 400
          · have er : zgn t0 = .error (2, t0) := by unfold zgn; rw [if_pos c400]
            have a2' : zMt I2 K P (.error (2, t0)) := by rw [← er]; exact a2
            rw [if_pos c400]
            exact ⟨I2, BX12_expression_23 _ hL ⟨v, v1, fun _ => ⟨I2, a1, fun z => absurd z a2'.e0.2.1, fun _ => rfl⟩, fun z => absurd nv z⟩, a4, a2'⟩
          · have er : zgn t0 = .ok (t0 + 1) := by unfold zgn; rw [if_neg c400]
            have a2' : zMt I2 K P (.ok (t0 + 1)) := by rw [← er]; exact a2
            rw [if_neg c400]
            obtain ⟨I6, d1, d2⟩ := ih false (t0 + 1) op w (out ++ [q]) I2 (hT.fx a4) a2' a3 (zxi_unit hi hq2) (by omega)
            rw [if_neg (by decide)] at d1
            exact ⟨I6, BX12_expression_23 _ hL ⟨v, v1, fun _ => ⟨I2, a1, fun _ => d1, fun z => absurd (by rw [a2'.2.1]; decide) z⟩, fun z => absurd nv z⟩, zXo.tr a4 d2 (by omega)⟩
        by_cases c3 : K t0 = 3
        · rw [if_pos c3]
          exact go _ (by unfold zun; rw [if_pos c3]) (Or.inl rfl)
        · rw [if_neg c3]
          by_cases cx : 139 ≤ K t0 ∧ K t0 ≤ 144
          · rw [if_pos cx]
            exact go _ (by unfold zun; rw [if_neg c3, if_pos cx]) (Or.inr ⟨rfl, K t0 - 139, by omega, rfl⟩)
          · rw [if_neg cx, if_neg c40]
            have eu : zun K V t0 out = (.error (1, t0), out) := by unfold zun; rw [if_neg c3, if_neg cx]
            rw [eu] at a2
            exact ⟨I2, BX12_expression_23 _ hL ⟨v, v1, fun _ => ⟨I2, a1, fun z => absurd z a2.e0.2.1, fun _ => rfl⟩, fun z => absurd nv z⟩, a4, a2⟩
    | false =>
      rw [if_neg (by decide)]
      obtain ⟨hwk, -, hpx, -⟩ := hi
      have hi : zxi false c t0 op w out := ⟨hwk, hop, hpx, hlen⟩
      have hmem := zwk_mem _ _ hwk
      obtain ⟨v, v1, v2⟩ := is 41 (by decide)
      obtain ⟨v8, a8, b8⟩ := is 43 (by decide)
      obtain ⟨v9, a9, b9⟩ := is 45 (by decide)
      obtain ⟨v10, a10, b10⟩ := is 42 (by decide)
      obtain ⟨v15, a15, b15⟩ := is 47 (by decide)
      have no : ∀ {v : Int32} {k : Nat}, (¬ v = 0 ↔ ∃ t1, (Except.ok t0 : zRt) = .ok t1 ∧ K t1 = k) → K t0 ≠ k → v = 0 := fun hv hk => Classical.not_not.mp fun q => by
        obtain ⟨t1, q1, q2⟩ := hv.mp q
        cases q1; exact hk q2
      have ye : ∀ {v : Int32} {k : Nat}, (¬ v = 0 ↔ ∃ t1, (Except.ok t0 : zRt) = .ok t1 ∧ K t1 = k) → K t0 = k → ¬ v = 0 := fun hv hk => hv.mpr ⟨t0, rfl, hk⟩
      simp only [zex]
      by_cases cb : 0 < zbn (K t0)
      · rw [if_pos cb]
        have hz := zbn_mem cb
        have k40 : K t0 ≠ 40 := fun q => by rw [q] at cb; exact absurd cb (by decide)
        have hkk : K t0 = 43 ∨ K t0 = 45 ∨ K t0 = 42 ∨ K t0 = 47 := by
          have : ∀ y ∈ zwL, y ≠ 40 → y = 43 ∨ y = 45 ∨ y = 42 ∨ y = 47 := by decide
          exact this _ hz k40
        have hbb : zbn (K t0) = 1 ∨ zbn (K t0) = 2 := by
          rcases hkk with e | e | e | e <;> rw [e] <;> decide
        have hb2 : zbn (K t0) = 2 ↔ K t0 = 42 ∨ K t0 = 47 := by
          rcases hkk with e | e | e | e <;> rw [e] <;> decide
        obtain ⟨I2, c1, c2, c3⟩ := M_comesOut (d := d + 1) (J := J) (c := c) (op := op) hL hs hbb w out I hmem hx (by omega) (by omega)
        obtain ⟨r1, r2, r3⟩ := zrel_px (b := zbn (K t0)) cb w
        obtain ⟨w1, ew⟩ : ∃ w1, w1 = (zrel (zbn (K t0)) w).2 := ⟨_, rfl⟩
        obtain ⟨o1, eo⟩ : ∃ o1, o1 = out ++ (zrel (zbn (K t0)) w).1 := ⟨_, rfl⟩
        rw [← ew] at c2 r3
        rw [← eo] at c2
        obtain ⟨g1, g2, g3, g4, g5⟩ := c2
        have e11 : I2 420 11 = nI t0 := by rw [c3.2.1 11 (by decide)]; exact p4
        have ek : I2 423 t0 = nI (zkr (K t0)) := by rw [c3.1 423 (by decide) (by decide) (by decide) (by decide)]; exact (hT t0 (by omega) p2).1.1
        obtain ⟨I3, e3⟩ : ∃ I3 : zI, I3 = zu I2 454 w1.length (nI (zkr (K t0))) := ⟨_, rfl⟩
        obtain ⟨I4, e4⟩ : ∃ I4 : zI, I4 = zu I3 420 51 (nI (w1.length + 1)) := ⟨_, rfl⟩
        have f4 : zf4 [51] I3 I4 := by rw [e4]; exact zf4.put (by decide)
        have f3 : zfX s c zFX I2 I3 := by rw [e3]; exact ⟨fun a _ _ _ p => zu_ne p, fun k _ => by rw [zu_ne (by decide)], fun j _ => ⟨by rw [zu_ne (by decide)], by rw [zu_ne (by decide)]⟩⟩
        have fall : zfX s c zFX I I4 := (c3.mono (by decide)).tr (f3.tr (f4.X.mono (by decide)))
        have hM4 : zMt I4 K P (.ok t0) := ((hM.fx c3 (by decide) (by decide) (by decide)) |> fun h => by
          have h3 : zMt I3 K P (.ok t0) := ⟨h.1, by rw [e3, zu_ne (by decide)]; exact h.2.1, by rw [e3, zu_ne (by decide)]; exact h.2.2⟩
          exact h3.f4 f4 (by decide) (by decide) (by decide))
        have hx4 : zMx I4 s c op (K t0 :: w1) o1 := by
          refine ⟨?_, ?_, ?_, ?_, ?_⟩
          · rw [f4.2 47 (by decide), e3, zu_ne (by decide)]; exact g1
          · rw [f4.1 452 (by decide), f4.1 453 (by decide), e3, zu_ne (by decide), zu_ne (by decide)]; exact g2
          · rw [e4, zu_eq]; rfl
          · rw [f4.1 454 (by decide), e3]
            exact ⟨by rw [List.length_map, zu_eq], zpile_upd g4 (by rw [List.length_map]; exact Nat.le_refl _)⟩
          · rw [f4.2 12 (by decide), e3, zu_ne (by decide)]; exact g5
        obtain ⟨I5, k1, k2, k3⟩ := M_goesOn (d := d + 1) hL (hT.fx fall) hM4 (fun t1 q => by cases q; intro q0; rw [q0] at cb; exact absurd cb (by decide))
        have push : ∀ o : zO, zE (d + 3) kX12_expression 12 [some (.ref 420), some (.int 0), some (.int 1)] [] Z I5 J o → (vp_in (I2 420 11) 403 ∧ (vp_in (I2 420 51) 64 ∧ (∀ I3 : zI, I3 = zu I2 454 (I2 420 51).toNatClampNeg (I2 423 (I2 420 11).toNatClampNeg) → (∀ I4 : zI, I4 = zu I3 420 51 ((I3 420 51) + 1) → (∃ (I5 : zI), zE (d + 2) kX12_goesOn 0 [some (.ref 420)] [] Z I4 J (none, Z, I5, J) ∧ zE (d + 3) kX12_expression 12 [some (.ref 420), some (.int 0), some (.int 1)] [] Z I5 J o))))) := by
          intro o ho
          have h51 : I2 420 51 = nI w1.length := g3
          refine ⟨by rw [e11]; exact zvin (by omega) (by decide), by rw [h51]; exact zvin (by omega) (by decide), fun y3 ey3 y4 ey4 => ⟨I5, ?_, ho⟩⟩
          rw [h51, zclm (by omega), e11, zclm (by omega), ek, ← e3] at ey3
          have : y3 420 51 = nI w1.length := by rw [ey3, e3, zu_ne (by decide)]; exact h51
          rw [this, zadd1, ey3, ← e4] at ey4
          rw [ey4]; exact k1
        have pre : ∀ o : zO, zE (d + 3) kX12_expression 12 [some (.ref 420), some (.int 0), some (.int 1)] [] Z I5 J o → zE (d + 3) kX12_expression 96 [some (.ref 420), some (.int 0), none] [] Z I J o := by
          intro o ho
          have at181 : zE (d + 3) kX12_expression 181 [some (.ref 420), some (.int 0), none] [] Z I J o := by
            by_cases c42 : K t0 = 42
            · have q2 : (if zbn (K t0) = 2 then (1 : Int32) else 0) = 1 := if_pos (hb2.mpr (Or.inl c42))
              rw [q2] at c1
              exact BX12_expression_181 _ hL ⟨v10, a10, fun _ => ⟨I2, c1, push o ho⟩, fun q => absurd q (ye b10 c42)⟩
            · by_cases c47 : K t0 = 47
              · have q2 : (if zbn (K t0) = 2 then (1 : Int32) else 0) = 1 := if_pos (hb2.mpr (Or.inr c47))
                rw [q2] at c1
                exact BX12_expression_181 _ hL ⟨v10, a10, fun q => absurd (no b10 c42) q, fun _ => ⟨v15, a15, fun q => absurd q (ye b15 c47), fun _ => ⟨I2, c1, push o ho⟩⟩⟩
              · have q2 : (if zbn (K t0) = 2 then (1 : Int32) else 0) = 0 := if_neg (fun q => by rcases hb2.mp q with e | e; exact c42 e; exact c47 e)
                rw [q2] at c1
                exact BX12_expression_181 _ hL ⟨v10, a10, fun q => absurd (no b10 c42) q, fun _ => ⟨v15, a15, fun _ => ⟨I2, c1, push o ho⟩, fun q => absurd (no b15 c47) q⟩⟩
          refine BX12_expression_96 _ hL ⟨v, v1, fun _ => BX12_expression_145 _ hL ⟨v8, a8, fun _ => at181, fun z8 => ⟨v9, a9, fun _ => at181, fun z9 => ⟨v10, a10, fun _ => at181, fun z10 => ⟨v15, a15, fun z15 => ?_, fun _ => at181⟩⟩⟩⟩, fun q => absurd (no v2 (by omega)) q⟩
          exfalso
          rcases hkk with e | e | e | e
          · exact ye b8 e z8
          · exact ye b9 e z9
          · exact ye b10 e z10
          · exact ye b15 e z15
        have k2' : zMt I5 K P (zgn t0) := k2
        by_cases c400 : t0 = 400
        · rw [if_pos c400]
          have er : zgn t0 = .error (2, t0) := by unfold zgn; rw [if_pos c400]
          rw [er] at k2'
          exact ⟨I5, pre _ (BX12_expression_12 _ _ hL ⟨fun q => absurd q (by decide), fun _ => ⟨fun _ => rfl, fun q => absurd q k2'.e0.1⟩⟩), fall.tr (k3.X.mono (by decide)), k2'⟩
        · rw [if_neg c400]
          have er : zgn t0 = .ok (t0 + 1) := by unfold zgn; rw [if_neg c400]
          rw [er] at k2'
          have hi5 := zxi_oper hi cb
          rw [← ew, ← eo] at hi5
          obtain ⟨I6, d1, d2⟩ := ih true (t0 + 1) op (K t0 :: w1) o1 I5 ((hT.fx fall).f4 k3) k2' (hx4.f4 k3 (by decide) (by decide) (by decide)) hi5 (by omega)
          rw [if_pos rfl] at d1
          rw [← ew, ← eo]
          exact ⟨I6, pre _ (BX12_expression_12 _ _ hL ⟨fun q => absurd q (by decide), fun _ => ⟨fun q => absurd k2'.2.1 q, fun _ => d1⟩⟩), zXo.tr (fall.tr (k3.X.mono (by decide))) d2 (by omega)⟩
      · rw [if_neg cb]
        have z0 : ∀ k, zbn k = 0 ∨ K t0 ≠ k := fun k => by
          by_cases e : K t0 = k
          · left; rw [← e]; omega
          · right; exact e
        have n43 : K t0 ≠ 43 := (z0 43).resolve_left (by decide)
        have n45 : K t0 ≠ 45 := (z0 45).resolve_left (by decide)
        have n42 : K t0 ≠ 42 := (z0 42).resolve_left (by decide)
        have n47 : K t0 ≠ 47 := (z0 47).resolve_left (by decide)
        by_cases c0 : 0 < op
        · rw [if_pos c0]
          have nle : ¬ I 420 12 ≤ 0 := by rw [e12, show (0 : Int32) = nI 0 from rfl, zle' (by omega) (by decide)]; omega
          by_cases c41 : K t0 = 41
          · rw [if_pos c41]
            obtain ⟨op', rfl⟩ : ∃ op', op = op' + 1 := ⟨op - 1, by omega⟩
            obtain ⟨I2, c1, c2, c3⟩ := M_comesOut (d := d + 1) (J := J) (c := c) (op := op' + 1) hL hs (b := 1) (Or.inl rfl) w out I hmem hx (by omega) (by omega)
            obtain ⟨rr, er, hi5⟩ := zxi_closes hi
            rw [er] at c2
            obtain ⟨o1, eo⟩ : ∃ o1, o1 = out ++ (zrel 1 w).1 := ⟨_, rfl⟩
            rw [← eo] at c2 hi5
            obtain ⟨g1, g2, g3, g4, g5⟩ := c2
            obtain ⟨I3, e3⟩ : ∃ I3 : zI, I3 = zu I2 420 51 (nI rr.length) := ⟨_, rfl⟩
            obtain ⟨I4, e4⟩ : ∃ I4 : zI, I4 = zu I3 420 12 (nI op') := ⟨_, rfl⟩
            have f3 : zf4 [51] I2 I3 := by rw [e3]; exact zf4.put (by decide)
            have f4 : zf4 [12] I3 I4 := by rw [e4]; exact zf4.put (by decide)
            have f34 : zf4 [12, 51] I2 I4 := (f3.mono (by decide)).tr (f4.mono (by decide))
            have fall : zfX s c zFX I I4 := (c3.mono (by decide)).tr (f34.X.mono (by decide))
            have hM4 : zMt I4 K P (.ok t0) := (hM.fx c3 (by decide) (by decide) (by decide)).f4 f34 (by decide) (by decide) (by decide)
            have hx4 : zMx I4 s c op' rr o1 := ⟨(f34.2 47 (by decide)).trans g1, by rw [f34.1 452 (by decide), f34.1 453 (by decide)]; exact g2, by rw [f4.2 51 (by decide), e3, zu_eq], by rw [f34.1 454 (by decide)]; exact g4.2, by rw [e4, zu_eq]⟩
            obtain ⟨I5, k1, k2, k3⟩ := M_goesOn (d := d + 1) hL (hT.fx fall) hM4 (fun t1 q => by cases q; omega)
            have pre : ∀ o : zO, zE (d + 3) kX12_expression 96 [some (.ref 420), some (.int 0), none] [] Z I5 J o → zE (d + 3) kX12_expression 96 [some (.ref 420), some (.int 0), none] [] Z I J o := by
              intro o ho
              refine BX12_expression_96 _ hL ⟨v, v1, fun q => absurd q (ye v2 c41), fun _ => ⟨fun q => absurd q nle, fun _ => ⟨I2, c1, fun y3 ey3 y4 ey4 => ⟨I5, ?_, ho⟩⟩⟩⟩
              have h51 : I2 420 51 = nI (rr.length + 1) := g3
              rw [h51, zsub1, ← e3] at ey3
              have : y3 420 12 = nI (op' + 1) := by rw [ey3, f3.2 12 (by decide)]; exact g5
              rw [this, zsub1, ey3, ← e4] at ey4
              rw [ey4]; exact k1
            have k2' : zMt I5 K P (zgn t0) := k2
            by_cases c400 : t0 = 400
            · rw [if_pos c400]
              have er : zgn t0 = .error (2, t0) := by unfold zgn; rw [if_pos c400]
              rw [er] at k2'
              obtain ⟨I6, m1, m2, m3⟩ := M_ex96E (d := d) (J := J) (x := 0) hL hs k2' (hx4.f4 k3 (by decide) (by decide) (by decide)) hi5.1 (by omega) (by have := hi5.2.2.2; omega)
              exact ⟨I6, pre _ m1, (fall.tr (k3.X.mono (by decide))).tr m3, m2⟩
            · rw [if_neg c400]
              have er2 : zgn t0 = .ok (t0 + 1) := by unfold zgn; rw [if_neg c400]
              rw [er2] at k2'
              obtain ⟨I6, d1, d2⟩ := ih false (t0 + 1) op' rr o1 I5 ((hT.fx fall).f4 k3) k2' (hx4.f4 k3 (by decide) (by decide) (by decide)) hi5 (by omega)
              rw [if_neg (by decide)] at d1
              rw [er, ← eo, Nat.add_sub_cancel]
              exact ⟨I6, pre _ d1, zXo.tr (fall.tr (k3.X.mono (by decide))) d2 (by omega)⟩
          · rw [if_neg c41]
            obtain ⟨I1, m1, m2, m3⟩ := M_fail (d := d + 2) hL hT hM (k := 1) (by decide)
            obtain ⟨I2, c1, c2, c3⟩ := M_comesOut (d := d + 1) (J := J) (c := c) (op := op) hL hs (b := 1) (Or.inl rfl) w out I1 hmem (hx.f4 m3 (by decide) (by decide) (by decide)) (by omega) (by omega)
            exact ⟨I2, BX12_expression_96 _ hL ⟨v, v1, fun _ => BX12_expression_145 _ hL ⟨v8, a8, fun q => absurd (no b8 n43) q, fun _ => ⟨v9, a9, fun q => absurd (no b9 n45) q, fun _ => ⟨v10, a10, fun q => absurd (no b10 n42) q, fun _ => ⟨v15, a15, fun _ => ⟨fun q => absurd q nle, fun _ => ⟨I1, m1, BX12_expression_204 hL ⟨I2, c1, rfl⟩⟩⟩, fun q => absurd (no b15 n47) q⟩⟩⟩⟩, fun q => absurd (no v2 c41) q⟩, (m3.X.mono (by decide)).tr (c3.mono (by decide)), m2.fx c3 (by decide) (by decide) (by decide)⟩
        · rw [if_neg c0]
          obtain rfl : op = 0 := by omega
          have le : I 420 12 ≤ 0 := by rw [e12]; decide
          obtain ⟨I2, c1, c2, c3⟩ := M_comesOut (d := d + 1) (J := J) (c := c) (op := 0) hL hs (b := 1) (Or.inl rfl) w out I hmem hx (by omega) (by omega)
          obtain ⟨y1, y2⟩ := zxi_end hi
          have at145 := BX12_expression_145 (o := (none, Z, I2, J)) 0 hL ⟨v8, a8, fun q => absurd (no b8 n43) q, fun _ => ⟨v9, a9, fun q => absurd (no b9 n45) q, fun _ => ⟨v10, a10, fun q => absurd (no b10 n42) q, fun _ => ⟨v15, a15, fun _ => ⟨fun _ => BX12_expression_204 hL ⟨I2, c1, rfl⟩, fun q => absurd le q⟩, fun q => absurd (no b15 n47) q⟩⟩⟩⟩
          exact ⟨I2, BX12_expression_96 _ hL ⟨v, v1, fun _ => at145, fun _ => ⟨fun _ => at145, fun q => absurd le q⟩⟩, c3.mono (by decide), hM.fx c3 (by decide) (by decide) (by decide), c2.1, c2.2.1, c2.2.2.2.2, y1, y2, Nat.le_refl _⟩
end

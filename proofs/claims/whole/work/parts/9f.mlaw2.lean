/-! the reference's reader: a LAW -/
section
variable {d : Nat} {Z : zZ} {I I' : zI} {J : zJ} {t u s c b t0 : Nat} {K P V W X : Nat → Nat} {r : zRt} {o : zO}
theorem zxa_ok {q : Nat × List zTok} {E : Except (Nat × Nat) (Nat × List zTok)} (h : E = .ok q) : zxa E = q.2 := by rw [h]; rfl
theorem zrt_okq {E : Except (Nat × Nat) (Nat × List zTok)} {t1 : Nat} (h : zrt E = .ok t1) : ∃ q, E = .ok q ∧ q.1 = t1 := by
  obtain ⟨a, e⟩ := zrt_ok h
  exact ⟨_, e, rfl⟩
theorem M_exprI (hL : zLY Z t u) (hT : zTM I J K P V X) (hB : zMB K P V W X) (hs : s < 2) (h : zMt I K P r) (hc : ∀ t0, r = .ok t0 → c ≤ t0 ∧ I 420 47 = nI (420 * s + c) ∧ I 420 12 = 0) {H : zI → Prop} (hH : ∀ I7, zE (d + 3) kX12_expression 0 [some (.ref 420), none, none] [] Z I J (none, Z, I7, J) → H I7) : ∃ I7, ((¬ I 420 13 = 0 → I7 = I) ∧ (I 420 13 = 0 → H I7)) ∧ zMt I7 K P (zrt (zxR K V r)) ∧ zfX s c zFX I I7 ∧ ∀ q, zxR K V r = .ok q → I7 420 47 = nI (420 * s + c + q.2.length) ∧ zseg (I7 452) (I7 453) (420 * s + c) q.2 ∧ I7 420 12 = 0 ∧ zpw q.2 0 ∧ c + q.2.length ≤ q.1 := by
  cases r with
  | error e => exact ⟨I, ⟨fun _ => rfl, fun q => absurd q h.e0.1⟩, h, zfX.rf, fun q hq => absurd hq (by simp [zxR])⟩
  | ok t0 =>
    obtain ⟨I7, g1, g2, g3, g4⟩ := M_exprR (d := d) (c := c) hL hT hB hs h hc
    exact ⟨I7, ⟨fun q => absurd h.2.1 q, fun _ => hH I7 g1⟩, g2, g3, g4⟩
/-- an IF of a LAW -/
theorem M_lif (hL : zLY Z t u) (hT : zTM I J K P V X) (hB : zMB K P V W X) (hs : s < 2) (hb : b < 130) (h41 : I 420 41 = nI (130 * s + b)) (h : zMt I K P (.ok t0)) (hc : c ≤ t0 ∧ I 420 47 = nI (420 * s + c) ∧ I 420 12 = 0) (hk : K t0 = 136) (x1 x2 x3 : Int32) :
    ∃ I9, (∀ o, zE (d + 5) kX12_tellLaw 12 [some (.ref 420), some (.int x1), some (.int x2), some (.int (x3 + 1))] [] Z I9 J o → zE (d + 5) kX12_tellLaw 38 [some (.ref 420), some (.int x1), some (.int x2), some (.int x3)] [] Z I J o) ∧ zMt I9 K P (zlif K V (zgn t0)).1 ∧ zfL s b c I I9 ∧ I9 420 41 = nI (130 * s + (b + 1)) ∧
      ∀ t4, (zlif K V (zgn t0)).1 = .ok t4 → ∀ a1 a2 a3, (zlif K V (zgn t0)).2 = (a1, a2, a3) → (I9 447 (130 * s + b) = 1 ∧ I9 448 (130 * s + b) = nI (420 * s + c) ∧ I9 449 (130 * s + b) = nI (420 * s + c + a1.length) ∧ I9 450 (130 * s + b) = nI (420 * s + c + a1.length + a2.length) ∧ I9 451 (130 * s + b) = nI (420 * s + c + a1.length + a2.length + a3.length)) ∧ (zseg (I9 452) (I9 453) (420 * s + c) a1 ∧ zseg (I9 452) (I9 453) (420 * s + c + a1.length) a2 ∧ zseg (I9 452) (I9 453) (420 * s + c + a1.length + a2.length) a3) ∧ (zpw a1 0 ∧ zpw a2 0 ∧ zpw a3 0) ∧ I9 420 47 = nI (420 * s + (c + a1.length + a2.length + a3.length)) ∧ I9 420 12 = 0 ∧ c + a1.length + a2.length + a3.length ≤ t4 ∧ t0 + 4 ≤ t4 := by
  obtain ⟨B, eB⟩ : ∃ B, B = 130 * s + b := ⟨_, rfl⟩
  have hB2 : B < 260 := by omega
  have hvB : vp_in (nI B) 260 := zvin hB2 (by decide)
  obtain ⟨r1, e1⟩ : ∃ r1, r1 = zgn t0 := ⟨_, rfl⟩
  obtain ⟨E1, eE1⟩ : ∃ E1, E1 = zxR K V r1 := ⟨_, rfl⟩
  obtain ⟨r3, e3⟩ : ∃ r3, r3 = ztk K 60 (zrt E1) := ⟨_, rfl⟩
  obtain ⟨E2, eE2⟩ : ∃ E2, E2 = zxR K V r3 := ⟨_, rfl⟩
  obtain ⟨r5, e5⟩ : ∃ r5, r5 = ztk K 137 (zrt E2) := ⟨_, rfl⟩
  obtain ⟨E3, eE3⟩ : ∃ E3, E3 = zxR K V r5 := ⟨_, rfl⟩
  have ez : zlif K V (zgn t0) = (ztk K 138 (zrt E3), zxa E1, zxa E2, zxa E3) := by
    unfold zlif
    rw [← e1, ← eE1, ← e3, ← eE2, ← e5, ← eE3]
  rw [ez]
  rw [← eB] at h41
  have g0 : I 420 13 ≤ 0 := by rw [h.2.1]; decide
  -- the word IF
  obtain ⟨I1, a1, m1, f1⟩ := M_goesOn (d := d + 3) hL hT h (fun t1 q => by cases q; rw [hk]; decide)
  have m1 : zMt I1 K P r1 := by rw [e1]; exact m1
  have f1L : zfL s b c I I1 := f1.L (by decide)
  obtain ⟨I2, eI2⟩ : ∃ I2 : zI, I2 = zu I1 447 B 1 := ⟨_, rfl⟩
  obtain ⟨I3, eI3⟩ : ∃ I3 : zI, I3 = zu I2 448 B (nI (420 * s + c)) := ⟨_, rfl⟩
  have f3L : zfL s b c I1 I3 := by
    rw [eI3, eI2]
    exact (zfL.put (by decide) (by decide) (by omega) (by omega)).tr (zfL.put (by decide) (by decide) (by omega) (by omega))
  have m3 : zMt I3 K P r1 := by rw [eI3, eI2]; exact (m1.pt (by decide)).pt (by decide)
  have k3 : ∀ k, I3 420 k = I1 420 k := fun k => by rw [eI3, eI2, zu_ne (by decide), zu_ne (by decide)]
  have b1 : I1 420 41 = nI B := by rw [f1.2 41 (by decide)]; exact h41
  have c1 : I1 420 47 = nI (420 * s + c) := by rw [f1.2 47 (by decide)]; exact hc.2.1
  have r1ok : ∀ t1, r1 = .ok t1 → t1 = t0 + 1 := fun t1 q => by rw [e1] at q; exact (zgn_ok q).2
  have T3 := (hT.fl f1L).fl f3L
  obtain ⟨I4, a4, m4, f4, q4⟩ := M_exprR (d := d + 1) (c := c) hL T3 hB hs m3 (fun t1 q => ⟨by rw [r1ok t1 q]; omega, by rw [k3]; exact c1, by rw [k3, f1.2 12 (by decide)]; exact hc.2.2⟩)
  rw [← eE1] at m4 q4
  have T4 := T3.fx f4
  obtain ⟨I5, a5, m5, f5⟩ := M_must (d := d + 2) hL T4 hB m4 (k := 60) (by decide) (by decide)
  rw [← e3] at m5
  obtain ⟨c1', ec1⟩ : ∃ c1', c1' = c + (zxa E1).length := ⟨_, rfl⟩
  have b5 : I5 420 41 = nI B := by rw [f5.2 41 (by decide), f4.2.1 41 (by decide), k3]; exact b1
  obtain ⟨I6, eI6⟩ : ∃ I6 : zI, I6 = zu I5 449 B (I5 420 47) := ⟨_, rfl⟩
  have f6L : zfL s b c I5 I6 := by rw [eI6]; exact zfL.put (by decide) (by decide) (by omega) (by omega)
  have m6 : zMt I6 K P r3 := by rw [eI6]; exact m5.pt (by decide)
  have k6 : ∀ k, I6 420 k = I5 420 k := fun k => by rw [eI6, zu_ne (by decide)]
  have T6 := (T4.f4 f5).fl f6L
  -- what the first E left
  have p1 : ∀ t3, r3 = .ok t3 → ∃ t2, t3 = t2 + 1 ∧ E1 = .ok (t2, zxa E1) ∧ t0 + 2 ≤ t2 ∧ c1' ≤ t2 ∧ I4 420 47 = nI (420 * s + c1') ∧ zseg (I4 452) (I4 453) (420 * s + c) (zxa E1) ∧ I4 420 12 = 0 ∧ zpw (zxa E1) 0 := by
    intro t3 q
    rw [e3] at q
    obtain ⟨t2, q2, -, -, q5⟩ := ztk_ok q
    obtain ⟨w, w1, w2⟩ := zrt_okq q2
    obtain ⟨z1, z2, z3, z4, z5⟩ := q4 w w1
    have ew := zxa_ok w1
    rw [← ew] at z1 z2 z4 z5
    refine ⟨t2, q5, by rw [ew, ← w2]; exact w1, ?_, by rw [ec1, ← w2]; exact z5, by rw [z1, ec1, Nat.add_assoc], z2, z3, z4⟩
    rw [eE1] at w1
    cases hr : r1 with
    | error e => rw [hr] at w1; exact absurd w1 (by simp [zxR])
    | ok t1 =>
      rw [hr] at w1
      have := zxr_lt w1
      have := r1ok t1 hr
      omega
  obtain ⟨I7, ⟨a7, a7'⟩, m7, f7, q7⟩ := M_exprI (d := d + 1) (c := c1') hL T6 hB hs m6 (fun t3 q => by
    obtain ⟨t2, z1, -, -, z2, z3, -, z4, -⟩ := p1 t3 q
    exact ⟨by omega, by rw [k6, f5.2 47 (by decide)]; exact z3, by rw [k6, f5.2 12 (by decide)]; exact z4⟩) (H := fun I7 => zE (d + 1 + 3) kX12_expression 0 [some (.ref 420), none, none] [] Z I6 J (none, Z, I7, J)) (fun I7 q => q)
  rw [← eE2] at m7 q7
  have T7 := T6.fx f7
  obtain ⟨I8, a8, m8, f8⟩ := M_must (d := d + 2) hL T7 hB m7 (k := 137) (by decide) (by decide)
  rw [← e5] at m8
  obtain ⟨c2, ec2⟩ : ∃ c2, c2 = c1' + (zxa E2).length := ⟨_, rfl⟩
  have b8 : I8 420 41 = nI (130 * s + b) := by rw [f8.2 41 (by decide), f7.2.1 41 (by decide), k6, b5, eB]
  have p2 : ∀ t5, r5 = .ok t5 → ∃ t4, t5 = t4 + 1 ∧ (∃ t3, r3 = .ok t3 ∧ t3 < t4) ∧ c2 ≤ t4 ∧ I7 420 47 = nI (420 * s + c2) ∧ zseg (I7 452) (I7 453) (420 * s + c1') (zxa E2) ∧ I7 420 12 = 0 ∧ zpw (zxa E2) 0 := by
    intro t5 q
    rw [e5] at q
    obtain ⟨t4, q2, -, -, q5⟩ := ztk_ok q
    obtain ⟨w, w1, w2⟩ := zrt_okq q2
    obtain ⟨z1, z2, z3, z4, z5⟩ := q7 w w1
    have ew := zxa_ok w1
    rw [← ew] at z1 z2 z4 z5
    refine ⟨t4, q5, ?_, by rw [ec2, ← w2]; exact z5, by rw [z1, ec2, Nat.add_assoc], z2, z3, z4⟩
    rw [eE2] at w1
    cases hr : r3 with
    | error e => rw [hr] at w1; exact absurd w1 (by simp [zxR])
    | ok t3 =>
      rw [hr] at w1
      exact ⟨t3, rfl, by have := zxr_lt w1; omega⟩
  obtain ⟨I9, a9, m9, f9, ⟨b9, r447, r448, r449⟩, q9⟩ := M_term (d := d) (c := c2) hL (T7.f4 f8) hB hs hb b8 m8 (fun t5 q => by
    obtain ⟨t4, z1, -, z2, z3, -, z4, -⟩ := p2 t5 q
    exact ⟨by omega, by rw [f8.2 47 (by decide)]; exact z3, by rw [f8.2 12 (by decide)]; exact z4⟩)
  rw [← eE3] at m9 q9
  have T9 := (T7.f4 f8).fl f9
  obtain ⟨I10, a10, m10, f10⟩ := M_must (d := d + 2) hL T9 hB m9 (k := 138) (by decide) (by decide)
  have hcc : c ≤ c1' := by omega
  have hcc2 : c ≤ c2 := by omega
  have F7 : zfL s b c I I7 := (((f1L.tr f3L).tr (f4.L.tr (f5.L (by decide)))).tr f6L).tr (f7.L.mono (Nat.le_refl _) hcc)
  refine ⟨I10, fun o ho => ?_, m10, (F7.tr (f8.L (by decide))).tr ((f9.mono (Nat.le_refl _) hcc2).tr (f10.L (by decide))), by rw [f10.2 41 (by decide)]; exact b9, fun t4 q y1 y2 y3 hy => ?_⟩
  · have at110 : zE (d + 5) kX12_tellLaw 110 [some (.ref 420), some (.int x1), some (.int x2), some (.int (x3 + 1))] [] Z I7 J o := BX12_tellLaw_110 _ _ _ hL ⟨I8, a8, I9, a9, I10, a10, ho⟩
    refine BX12_tellLaw_38 _ _ _ hL ⟨fun _ => ⟨I1, a1, by rw [b1]; exact hvB, fun y2 ey2 => ?_⟩, fun q => absurd g0 q⟩
    have e2' : y2 = I2 := by rw [ey2, b1, zclm (by omega), eI2]; rfl
    rw [e2']
    have b2 : I2 420 41 = nI B := by rw [eI2, zu_ne (by decide)]; exact b1
    have c2' : I2 420 47 = nI (420 * s + c) := by rw [eI2, zu_ne (by decide)]; exact c1
    refine ⟨by rw [b2]; exact hvB, fun y3 ey3 => ?_⟩
    have e3' : y3 = I3 := by rw [ey3, b2, zclm (by omega), c2', eI3]
    rw [e3']
    refine ⟨I4, a4, I5, a5, by rw [b5]; exact hvB, fun y6 ey6 => ?_⟩
    have e6' : y6 = I6 := by rw [ey6, b5, zclm (by omega), eI6]
    rw [e6']
    exact ⟨fun q => by rw [← a7 q]; exact at110, fun q => ⟨I7, a7' q, at110⟩⟩
  · obtain ⟨t3', q2, -, -, q5⟩ := ztk_ok q
    obtain ⟨w, w1, w2⟩ := zrt_okq q2
    obtain ⟨⟨z1, z1'⟩, z2, z3, z4, z5, z6⟩ := q9 w w1
    have ew := zxa_ok w1
    rw [← ew] at z1' z2 z3 z5 z6
    have hy' : (zxa E1, zxa E2, zxa E3) = (y1, y2, y3) := hy
    cases hy'
    have r5k : ∃ t5, r5 = .ok t5 ∧ t5 < w.1 := by
      rw [eE3] at w1
      cases hr : r5 with
      | error e => rw [hr] at w1; exact absurd w1 (by simp [zxR])
      | ok t5 => rw [hr] at w1; exact ⟨t5, rfl, zxr_lt w1⟩
    obtain ⟨t5, h5, h5l⟩ := r5k
    obtain ⟨t6, v1, ⟨t7, v2, v2'⟩, v3, v4, v5, v6, v7⟩ := p2 t5 h5
    obtain ⟨t8, u1, u2, u3, u4, u5, u6, u7, u8⟩ := p1 t7 v2
    have seg : ∀ {A A' : zI} {l : List zTok} {k : Nat}, (∀ j, j < k + l.length → A' 452 j = A 452 j ∧ A' 453 j = A 453 j) → zseg (A 452) (A 453) k l → zseg (A' 452) (A' 453) k l := fun hh hz => zseg_agree _ _ (fun j _ p => hh j p) hz
    have row : ∀ a, a ≠ 420 → I10 a = I9 a := fun a p => f10.1 a p
    have cA : ∀ j, j < 420 * s + c2 → I10 452 j = I7 452 j ∧ I10 453 j = I7 453 j := fun j hj => by
      rw [row 452 (by decide), row 453 (by decide), (f9.2.2.2 j (Or.inl hj)).1, (f9.2.2.2 j (Or.inl hj)).2, f8.1 452 (by decide), f8.1 453 (by decide)]; exact ⟨rfl, rfl⟩
    have cB : ∀ j, j < 420 * s + c1' → I7 452 j = I4 452 j ∧ I7 453 j = I4 453 j := fun j hj => by
      rw [(f7.2.2 j (Or.inl hj)).1, (f7.2.2 j (Or.inl hj)).2, eI6, zu_ne (by decide), zu_ne (by decide), f5.1 452 (by decide), f5.1 453 (by decide)]; exact ⟨rfl, rfl⟩
    have e447 : I9 447 = I3 447 := by rw [r447, f8.1 447 (by decide), f7.1 447 (by decide) (by decide) (by decide) (by decide), eI6, zu_ne (by decide), f5.1 447 (by decide), f4.1 447 (by decide) (by decide) (by decide) (by decide)]
    have e448 : I9 448 = I3 448 := by rw [r448, f8.1 448 (by decide), f7.1 448 (by decide) (by decide) (by decide) (by decide), eI6, zu_ne (by decide), f5.1 448 (by decide), f4.1 448 (by decide) (by decide) (by decide) (by decide)]
    have e449 : I9 449 = I6 449 := by rw [r449, f8.1 449 (by decide), f7.1 449 (by decide) (by decide) (by decide) (by decide)]
    rw [row 447 (by decide), row 448 (by decide), row 449 (by decide), row 450 (by decide), row 451 (by decide), e447, e448, e449]
    refine ⟨⟨by rw [← eB, eI3, zu_ne (by decide), eI2, zu_eq], by rw [← eB, eI3, zu_eq], by rw [← eB, eI6, zu_eq, f5.2 47 (by decide), u5, ec1, Nat.add_assoc], by rw [z1, ec2, ec1]; congr 1; omega, by rw [z1', ec2, ec1]; congr 1; omega⟩, ⟨?_, ?_, ?_⟩, ⟨u8, v7, z5⟩, by rw [f10.2 47 (by decide), z2, ec2, ec1]; congr 1; omega, by rw [f10.2 12 (by decide)]; exact z4, by rw [← w2] at q5; omega, by rw [← w2] at q5; omega⟩
    · exact seg (fun j hj => by rw [(cA j (by omega)).1, (cA j (by omega)).2]; exact cB j (by omega)) u6
    · rw [Nat.add_assoc, ← ec1]
      exact seg (fun j hj => cA j (by omega)) v5
    · rw [show 420 * s + c + (zxa E1).length + (zxa E2).length = 420 * s + c2 by omega, row 452 (by decide), row 453 (by decide)]
      exact z3
end

/-! the class's reader: GOES, LONG -/
theorem zex_le {K V : Nat → Nat} : ∀ (f : Nat) (due : Bool) (t0 op : Nat) (w : List Nat) (out : List zTok) (q : Nat × List zTok), zex K V f due t0 op w out = .ok q → t0 ≤ q.1 := by
  intro f
  induction f with
  | zero => intro due t0 op w out q h; exact absurd h (by simp [zex])
  | succ f ih =>
    intro due t0 op w out q h
    cases due with
    | true =>
      simp only [zex] at h
      split at h
      · split at h
        · exact absurd h (by simp)
        · have := ih _ _ _ _ _ _ h; omega
      · split at h
        · split at h
          · exact absurd h (by simp)
          · have := ih _ _ _ _ _ _ h; omega
        · split at h
          · split at h
            · exact absurd h (by simp)
            · split at h
              · exact absurd h (by simp)
              · have := ih _ _ _ _ _ _ h; omega
          · exact absurd h (by simp)
    | false =>
      simp only [zex] at h
      split at h
      · split at h
        · exact absurd h (by simp)
        · have := ih _ _ _ _ _ _ h; omega
      · split at h
        · split at h
          · split at h
            · exact absurd h (by simp)
            · have := ih _ _ _ _ _ _ h; omega
          · exact absurd h (by simp)
        · cases h; exact Nat.le_refl _
theorem zxR_le {K V : Nat → Nat} {r : zRt} {t1 t2 : Nat} (h : zrt (zxR K V r) = .ok t2) (hr : r = .ok t1) : t1 ≤ t2 := by
  subst hr
  obtain ⟨q, hq⟩ := zrt_ok h
  exact zex_le _ _ _ _ _ _ _ hq
theorem zxR_ok {K V : Nat → Nat} {r : zRt} {t2 : Nat} (h : zrt (zxR K V r) = .ok t2) : ∃ t1, r = .ok t1 := by
  cases r with
  | error e => exact absurd h (by simp [zxR, zrt])
  | ok t1 => exact ⟨t1, rfl⟩
theorem zlawp_le {K V : Nat → Nat} : ∀ (f t0 : Nat) (q : Nat × zLaw), zlawp K V f t0 = .ok q → t0 ≤ q.1 := by
  have ends : ∀ (t0 : Nat) (q : Nat × zLaw), zlend K V t0 = .ok q → t0 ≤ q.1 := by
    intro t0 q h
    unfold zlend at h
    cases hx : zxr K V t0 with
    | error e => rw [hx] at h; exact absurd h (by simp)
    | ok x =>
      rw [hx] at h
      have := zex_le _ _ _ _ _ _ _ hx
      cases h
      exact this
  intro f
  induction f with
  | zero =>
    intro t0 q h
    simp only [zlawp] at h
    split at h
    · exact absurd h (by simp)
    · exact ends t0 q h
  | succ f ih =>
    intro t0 q h
    simp only [zlawp] at h
    split at h
    · cases hz : (zlif K V (zgn t0)).1 with
      | error e => rw [hz] at h; exact absurd h (by simp)
      | ok t4 =>
        rw [hz] at h
        dsimp only at h
        cases hy : zlawp K V f t4 with
        | error e => rw [hy] at h; exact absurd h (by simp)
        | ok x =>
          rw [hy] at h
          have h1 := ih t4 x hy
          have h2 : t0 ≤ t4 := by
            unfold zlif at hz
            obtain ⟨s1, e1, -, -, q1⟩ := ztk_ok hz
            obtain ⟨s2, e2⟩ := zxR_ok e1
            have l2 := zxR_le e1 e2
            obtain ⟨s3, e3, -, -, q3⟩ := ztk_ok e2
            obtain ⟨s4, e4⟩ := zxR_ok e3
            have l4 := zxR_le e3 e4
            obtain ⟨s5, e5, -, -, q5⟩ := ztk_ok e4
            obtain ⟨s6, e6⟩ := zxR_ok e5
            have l6 := zxR_le e5 e6
            obtain ⟨-, q7⟩ := zgn_ok e6
            omega
          cases h
          dsimp only
          omega
    · exact ends t0 q h
theorem zlawR_le {K V : Nat → Nat} {r : zRt} {q : Nat × zLaw} (h : zlawR K V r = .ok q) : ∀ t1, r = .ok t1 → t1 < q.1 := by
  intro t1 e
  unfold zlawR at h
  cases hh : ztk K 61 r with
  | error e => rw [hh] at h; exact absurd h (by simp)
  | ok t2 =>
    rw [hh] at h
    have := zlawp_le _ _ _ h
    obtain ⟨t3, e3, -, -, q3⟩ := ztk_ok hh
    rw [e] at e3
    cases e3
    omega
section
variable {d : Nat} {Z : zZ} {I I' : zI} {J J' : zJ} {t u t0 sz T T' cn n : Nat} {K P V W N : Nat → Nat} {τ : Nat → Nat → Nat} {Λ : Nat → Option zLaw} {C : Nat → Nat × Nat × Nat} {wo wo' : Option (Nat × Nat)} {o : zO} {r : zRt}
/-- a LAW takes its place -/
def zlset (Λ : Nat → Option zLaw) (o : Option Nat) (res : Except (Nat × Nat) (Nat × zLaw)) : Nat → Option zLaw := match o, res with
  | some m, .ok q => fun p => if p = m then some q.2 else Λ p
  | _, _ => Λ
def zpGoes (K V W : Nat → Nat) (t0 : Nat) (wo : Option (Nat × Nat)) (τ : Nat → Nat → Nat) (Λ : Nat → Option zLaw) (N : Nat → Nat) (cn : Nat) (C : Nat → Nat × Nat × Nat) : zPs :=
  (ztk K 59 (zrt (zlawR K V (ztk K 2 (zgn t0)))), zwom W N (τ 0 0) 4 true (zgn t0) wo, τ, zlset Λ (zfnd N (W (t0 + 1)) (τ 0 0) 0) (zlawR K V (ztk K 2 (zgn t0))), N, cn, C)
def zpLong (K V : Nat → Nat) (t0 : Nat) (wo : Option (Nat × Nat)) (τ : Nat → Nat → Nat) (Λ : Nat → Option zLaw) (N : Nat → Nat) (cn : Nat) (C : Nat → Nat × Nat × Nat) : zPs :=
  (ztk K 59 (zrt (zlawR K V (zgn t0))), wo, τ, zlset Λ (some 7) (zlawR K V (zgn t0)), N, cn, C)
theorem zfrR.tt (h : zfrR u I I') : zfrT u I I' := fun a p q s => h.1 a p (by omega) (by omega) (by omega) (by omega)
theorem zLr.rt {I0 : zI} {c : Nat} {res : Except (Nat × Nat) (Nat × zLaw)} (h : zLr I0 I u K P c res) : zCt I K P (zrt res) := by
  cases res with
  | error e => exact h
  | ok q => exact h.1
/-- where a LAW is read, the rest of the text stays -/
theorem zXt_law {I1 I2 : zI} {q : Nat × zLaw} (hu : u = 3 ∨ u = 30) (h : zXt I1 J u τ Λ N sz) (hf : zfrR u I1 I2) (hq : zLr I1 I2 u K P sz (.ok q)) {I3 : zI} {p : Nat} (hp : p ≤ 7)
    (h3 : ∀ a, u + 1 ≤ a → a ≤ u + 16 → a ≠ u + 8 → I3 a = I2 a) (h4 : ∀ k, k ≠ 5 → I3 u k = I2 u k) (h5 : (p < 7 → I3 u 5 = I2 u 5 ∧ I3 (u + 8) p = nI sz ∧ ∀ m, m ≠ p → I3 (u + 8) m = I2 (u + 8) m) ∧ (p = 7 → I3 u 5 = nI sz ∧ I3 (u + 8) = I2 (u + 8))) (hp7 : p = 7 ∨ p < τ 0 0) : zXt I3 J u τ (fun x => if x = p then some q.2 else Λ x) N (sz + zcln q.2.1 q.2.2) := by
  obtain ⟨x1, x2, x3, x4, x5, x6, x7⟩ := h
  obtain ⟨g1, g2, g3, g4, g5, g6⟩ := hq
  have R : ∀ a, a = u ∨ u + 4 ≤ a ∧ a ≤ u + 16 → I2 a = I1 a := fun a p => hf.1 a (by omega) (by omega) (by omega) (by omega) (by omega)
  have hl : ∀ {s : Int32} {x : Option zLaw}, zLs I1 u sz s x → zLs I3 u (sz + zcln q.2.1 q.2.2) s x := fun h => h.same (fun j hj => ⟨by rw [h3 _ (by omega) (by omega) (by omega), (g6 j hj).1], by rw [h3 _ (by omega) (by omega) (by omega), (g6 j hj).2]⟩) (by omega)
  have new : zLs I3 u (sz + zcln q.2.1 q.2.2) (nI sz) (some q.2) := ⟨g5, sz, rfl, Nat.le_refl _, by rw [h3 (u + 1 + 1) (by omega) (by omega) (by omega), h3 (u + 1 + 2) (by omega) (by omega) (by omega)]; exact g3⟩
  obtain ⟨Λ', eL⟩ : ∃ Λ' : Nat → Option zLaw, Λ' = fun x => if x = p then some q.2 else Λ x := ⟨_, rfl⟩
  rw [← eL]
  have l1 : Λ' p = some q.2 := by rw [eL]; exact if_pos rfl
  have l2 : ∀ x, x ≠ p → Λ' x = Λ x := fun x hx => by rw [eL]; exact if_neg hx
  refine ⟨x1, ⟨by rw [h4 2 (by decide), R u (by omega)]; exact x2.1, by rw [h4 0 (by decide), R u (by omega)]; exact x2.2.1, by rw [h4 1 (by decide), R u (by omega)]; exact x2.2.2.1, by rw [h4 4 (by decide), R u (by omega)]; exact x2.2.2.2.1, by rw [h4 3 (by decide), R u (by omega)]; exact x2.2.2.2.2⟩, fun m hm => ?_, fun m i hm hi => ?_, fun i hi => ?_, ?_, ?_⟩
  · obtain ⟨y1, y2, y3⟩ := x3 m hm
    rw [h3 (u + 6) (by omega) (by omega) (by omega), h3 (u + 7) (by omega) (by omega) (by omega), h3 (u + 10) (by omega) (by omega) (by omega), h3 (u + 11) (by omega) (by omega) (by omega), R (u + 6) (by omega), R (u + 7) (by omega), R (u + 10) (by omega), R (u + 11) (by omega)]
    refine ⟨y1, y2, ?_⟩
    by_cases e : m = p
    · rw [e, l1, (h5.1 (by omega)).2.1]; exact new
    · rw [l2 m e]
      by_cases e7 : p = 7
      · rw [(h5.2 e7).2, R (u + 8) (by omega)]; exact hl y3
      · rw [(h5.1 (by omega)).2.2 m e, R (u + 8) (by omega)]; exact hl y3
  · rw [h3 (u + 12) (by omega) (by omega) (by omega), h3 (u + 13) (by omega) (by omega) (by omega), R (u + 12) (by omega), R (u + 13) (by omega)]; exact x4 m i hm hi
  · rw [h3 (u + 14) (by omega) (by omega) (by omega), h3 (u + 15) (by omega) (by omega) (by omega), R (u + 14) (by omega), R (u + 15) (by omega)]; exact x5 i hi
  · by_cases e7 : p = 7
    · rw [← e7, l1, (h5.2 e7).1]; exact new
    · rw [l2 7 (by omega), (h5.1 (by omega)).1, R u (by omega)]; exact hl x6
  · rw [h3 _ (by omega) (by omega) (by omega)]; exact g2
theorem zTt.semi {I0 : zI} {sz' : Nat} (h0 : zCo I0 P t0 wo cn C) (hx : zXt I J u τ Λ N sz') (hs : sz' ≤ T) (h1 : I 2 12 = I0 2 12) (h2 : ∀ a, 26 ≤ a → a ≤ 28 → I a = I0 a) (hT : t0 ≤ T) (hw : wo' = none → wo = none) : zTt I J u P T wo' τ Λ N cn C := ⟨h0.same h1 h2 hT hw, sz', hs, hx⟩
theorem C_goes (hL : zLY Z t u) (hu : u = 3 ∨ u = 30) (hT : zTC I J K P V W) (hB : zTB K V W) (h : zCS I J u K P (.ok t0, wo, τ, Λ, N, cn, C)) (hk : K t0 = 130) :
    ∃ I11 v12 I13 v14 I15 I17, zE (d + 5) kX5_take 0 [some (.ref 2), some (.int (I 2 4))] [] Z I J (none, Z, I11, J) ∧ zE (d + 5) kX5_takeMan 0 [some (.ref 2), none, none] [] Z I11 J (some (.int v12), Z, I13, J) ∧ zE (d + 5) kX5_readLaw 0 [some (.ref 2), none, none, none, none] [] Z I13 J (some (.int v14), Z, I15, J) ∧ zE (d + 5) kX5_take 0 [some (.ref 2), some (.int 59)] [] Z (zpt I15 (u + 8) 7 v12 v14) J (none, Z, I17, J) ∧ zfrT u I I17 ∧ zCS I17 J u K P (zpGoes K V W t0 wo τ Λ N cn C) := by
  obtain ⟨h1, h2⟩ := h
  have ht := h1.1.1.1
  have u2 : u ≠ 2 := by omega
  have e4 : I 2 4 = nI 130 := by rw [h1.1.2.2.2.1, hk]
  obtain ⟨c1, sz, c2, c3⟩ := h2 t0 rfl
  dsimp only at c1 c3
  have hN := c3.nm
  obtain ⟨I11, a1, b1, f1⟩ := C_takeL (d := d + 3) (J := J) hL hT hB (k := 130) (by decide) (by decide) h1
  dsimp only at b1
  rw [ztk_eq hk] at b1
  obtain ⟨v12, I13, a2, b2, f2, g2⟩ := C_takeMan (d := d + 2) (J := J) hL hu (hT.f2 f1) hB (n := τ 0 0) (N := N) (fun _ => hN.f2 f1 u2) b1
  have F2 : zf2 zF8 I I13 := (f1.mono (by decide)).tr f2
  obtain ⟨I15, a3, f3, b3⟩ := C_readLaw (d := d) hL hu hB (hT.f2 F2) b2.1 (c := sz) (fun t1 e => by
    obtain ⟨t2, e2, -, -, q2⟩ := ztk_ok e
    obtain ⟨-, q0⟩ := zgn_ok e2
    exact ⟨by omega, by rw [F2.1 _ (by omega)]; exact c3.2.2.2.2.2.2⟩)
  obtain ⟨law, el⟩ : ∃ law, law = zlawR K V (ztk K 2 (zgn t0)) := ⟨_, rfl⟩
  rw [← el] at b3
  obtain ⟨I16, e16⟩ : ∃ I16 : zI, I16 = zpt I15 (u + 8) 7 v12 (I13 (u + 1) 0) := ⟨_, rfl⟩
  have R16 : ∀ a, a ≠ u + 8 → I16 a = I15 a := fun a p => by rw [e16]; exact zpt_row p
  have T16 : zTC I16 J K P V W := (hT.f2 F2).same (fun a p q => by rw [R16 a (by omega), f3.1 a (by omega) (by omega) (by omega) (by omega) (by omega)])
  have l16 : zCl I16 K P (zrt law) (zwom W N (τ 0 0) 4 true (zgn t0) wo) := ⟨b3.rt.rw (R16 2 (by omega)), fun q => by
    have hr : zrok (ztk K 2 (zgn t0)) := by
      rw [el] at q
      unfold zlawR at q
      cases hh : ztk K 61 (ztk K 2 (zgn t0)) with
      | error e => rw [hh] at q; exact absurd q (by simp [zrt, zrok])
      | ok t3 => exact zrok_tk (K := K) (k := 61) (by rw [hh]; trivial)
    have := b2.2 hr
    cases hw : zwom W N (τ 0 0) 4 true (zgn t0) wo with
    | none => rw [hw] at this; exact (congrFun (R16 2 (by omega)) 7).trans ((f3.2 7 (by decide)).trans this)
    | some x => rw [hw] at this; exact ⟨this.1, (congrFun (R16 2 (by omega)) 7).trans ((f3.2 7 (by decide)).trans this.2.1), (congrFun (R16 2 (by omega)) 8).trans ((f3.2 8 (by decide)).trans this.2.2)⟩⟩
  obtain ⟨I17, a4, b4, f4⟩ := C_takeL (d := d + 3) (J := J) hL T16 hB (k := 59) (by decide) (by decide) l16
  have R17 : ∀ a, a ≠ 2 → a ≠ u + 8 → I17 a = I15 a := fun a p q => by rw [f4.1 a p, R16 a q]
  refine ⟨I11, v12, I13, _, I15, I17, by rw [e4]; exact a1, a2, a3, by rw [← e16]; exact a4, fun a p q s => by rw [R17 a p (by omega), f3.tt a p q s, F2.1 a p], ?_⟩
  unfold zpGoes
  rw [← el]
  refine ⟨b4, fun t3 e3 => ?_⟩
  dsimp only at e3 ⊢
  obtain ⟨t5, e5, -, -, q5⟩ := ztk_ok e3
  obtain ⟨w, ew⟩ := zrt_ok e5
  have e61 : ∃ t6, ztk K 61 (ztk K 2 (zgn t0)) = .ok t6 := by
    rw [el] at ew
    unfold zlawR at ew
    cases hh : ztk K 61 (ztk K 2 (zgn t0)) with
    | error e => rw [hh] at ew; exact absurd ew (by simp)
    | ok t6 => exact ⟨t6, rfl⟩
  obtain ⟨t6, e6⟩ := e61
  obtain ⟨t7, e7, -, -, q7⟩ := ztk_ok e6
  obtain ⟨t8, e8, k8, -, q8⟩ := ztk_ok e7
  obtain ⟨-, q9⟩ := zgn_ok e8
  have v12e := g2 t8 e8 k8
  rw [q9] at v12e
  rw [ew] at b3 ⊢
  have b3' := b3
  obtain ⟨m1, m2, m3, m4, m5, m6⟩ := b3'
  dsimp only at m4
  have hs13 : I13 (u + 1) 0 = nI sz := by rw [F2.1 _ (by omega)]; exact c3.2.2.2.2.2.2
  have x13 : zXt I13 J u τ Λ N sz := c3.same (fun a p q => F2.1 a (by omega)) rfl
  have r12 : I17 2 12 = I 2 12 := by rw [f4.2 12 (by decide), R16 2 (by omega), f3.2 12 (by decide), F2.2 12 (by decide)]
  have r26 : ∀ a, 26 ≤ a → a ≤ 28 → I17 a = I a := fun a p q => by rw [R17 a (by omega) (by omega), f3.1 a (by omega) (by omega) (by omega) (by omega) (by omega), F2.1 a (by omega)]
  have hle : t0 ≤ t5 := by
    have hh := zlawR_le (K := K) (V := V) (r := ztk K 2 (zgn t0)) (q := (t5, w)) (by rw [← el]; exact ew) t7 e7
    dsimp only at hh
    omega
  cases hz : zfnd N (W (t0 + 1)) (τ 0 0) 0 with
  | none =>
    rw [hz] at v12e
    have ez : I16 = I15 := by rw [e16, v12e]; unfold zpt; rw [if_neg]; rintro ⟨q, -⟩; exact absurd q (by decide)
    show zTt I17 J u P t3 _ τ Λ N cn C
    refine zTt.semi (sz' := sz + zcln w.1 w.2) c1 ?_ (by omega) r12 r26 (by omega) (fun z => zwom_none z)
    obtain ⟨x1, x2, x3, x4, x5, x6, x7⟩ := x13
    have R : ∀ a, a = u ∨ u + 4 ≤ a ∧ a ≤ u + 16 → I17 a = I13 a := fun a p => by rw [f4.1 a (by omega), ez, f3.1 a (by omega) (by omega) (by omega) (by omega) (by omega)]
    have hl : ∀ {s : Int32} {x : Option zLaw}, zLs I13 u sz s x → zLs I17 u (sz + zcln w.1 w.2) s x := fun h => h.same (fun j hj => ⟨by rw [f4.1 _ (by omega), ez, (m6 j hj).1], by rw [f4.1 _ (by omega), ez, (m6 j hj).2]⟩) (by omega)
    refine ⟨x1, by rw [R u (by omega)]; exact x2, fun m hm => ?_, fun m i hm hi => ?_, fun i hi => ?_, by rw [R u (by omega)]; exact hl x6, by rw [f4.1 _ (by omega), ez]; exact m2⟩
    · obtain ⟨y1, y2, y3⟩ := x3 m hm
      rw [R (u + 6) (by omega), R (u + 7) (by omega), R (u + 8) (by omega), R (u + 10) (by omega), R (u + 11) (by omega)]
      exact ⟨y1, y2, hl y3⟩
    · rw [R (u + 12) (by omega), R (u + 13) (by omega)]; exact x4 m i hm hi
    · rw [R (u + 14) (by omega), R (u + 15) (by omega)]; exact x5 i hi
  | some m =>
    rw [hz] at v12e
    obtain ⟨-, hml, -⟩ := zfnd_lt _ _ _ hz
    have h7 := hN.1
    have ez : I16 = zu I15 (u + 8) m (nI sz) := by rw [e16, v12e, hs13, show zoi (some m) = nI m from rfl, zptI (by omega) (by decide)]
    show zTt I17 J u P t3 _ τ (fun p => if p = m then some w else Λ p) N cn C
    refine zTt.semi (sz' := sz + zcln w.1 w.2) c1 ?_ (by omega) r12 r26 (by omega) (fun z => zwom_none z)
    exact zXt_law hu x13 f3 b3 (p := m) (by omega) (fun a p q s => by rw [R17 a (by omega) s]) (fun k p => by rw [R17 u u2 (by omega)]) ⟨fun _ => ⟨by rw [R17 u u2 (by omega)], by rw [f4.1 _ (by omega), ez, zu_eq], fun m' hm => by rw [f4.1 _ (by omega), ez, zu_k hm]⟩, fun q => by omega⟩ (Or.inr (by omega))
theorem C_long (hL : zLY Z t u) (hu : u = 3 ∨ u = 30) (hT : zTC I J K P V W) (hB : zTB K V W) (h : zCS I J u K P (.ok t0, wo, τ, Λ, N, cn, C)) (hk : K t0 = 131) :
    ∃ I13 v14 I15 I17, zE (d + 5) kX5_take 0 [some (.ref 2), some (.int (I 2 4))] [] Z I J (none, Z, I13, J) ∧ zE (d + 5) kX5_readLaw 0 [some (.ref 2), none, none, none, none] [] Z I13 J (some (.int v14), Z, I15, J) ∧ zE (d + 5) kX5_take 0 [some (.ref 2), some (.int 59)] [] Z (zu I15 u 5 v14) J (none, Z, I17, J) ∧ zfrT u I I17 ∧ zCS I17 J u K P (zpLong K V t0 wo τ Λ N cn C) := by
  obtain ⟨h1, h2⟩ := h
  have ht := h1.1.1.1
  have u2 : u ≠ 2 := by omega
  have e4 : I 2 4 = nI 131 := by rw [h1.1.2.2.2.1, hk]
  obtain ⟨c1, sz, c2, c3⟩ := h2 t0 rfl
  dsimp only at c1 c3
  obtain ⟨I13, a1, b1, f1⟩ := C_takeL (d := d + 3) (J := J) hL hT hB (k := 131) (by decide) (by decide) h1
  dsimp only at b1
  rw [ztk_eq hk] at b1
  obtain ⟨I15, a3, f3, b3⟩ := C_readLaw (d := d) hL hu hB (hT.f2 f1) b1.1 (c := sz) (fun t1 e => by
    obtain ⟨-, q0⟩ := zgn_ok e
    exact ⟨by omega, by rw [f1.1 _ (by omega)]; exact c3.2.2.2.2.2.2⟩)
  obtain ⟨law, el⟩ : ∃ law, law = zlawR K V (zgn t0) := ⟨_, rfl⟩
  rw [← el] at b3
  obtain ⟨I16, e16⟩ : ∃ I16 : zI, I16 = zu I15 u 5 (I13 (u + 1) 0) := ⟨_, rfl⟩
  have R16 : ∀ a, a ≠ u → I16 a = I15 a := fun a p => by rw [e16, zu_ne p]
  have T16 : zTC I16 J K P V W := (hT.f2 f1).same (fun a p q => by rw [R16 a (by omega), f3.1 a (by omega) (by omega) (by omega) (by omega) (by omega)])
  have l16 : zCl I16 K P (zrt law) wo := ⟨b3.rt.rw (R16 2 (by omega)), fun q => by
    have hr : zrok (zgn t0) := by
      rw [el] at q
      unfold zlawR at q
      cases hh : ztk K 61 (zgn t0) with
      | error e => rw [hh] at q; exact absurd q (by simp [zrt, zrok])
      | ok t3 => exact zrok_tk (K := K) (k := 61) (by rw [hh]; trivial)
    have := b1.2 hr
    cases hw : wo with
    | none => rw [hw] at this; exact (congrFun (R16 2 (by omega)) 7).trans ((f3.2 7 (by decide)).trans this)
    | some x => rw [hw] at this; exact ⟨this.1, (congrFun (R16 2 (by omega)) 7).trans ((f3.2 7 (by decide)).trans this.2.1), (congrFun (R16 2 (by omega)) 8).trans ((f3.2 8 (by decide)).trans this.2.2)⟩⟩
  obtain ⟨I17, a4, b4, f4⟩ := C_takeL (d := d + 3) (J := J) hL T16 hB (k := 59) (by decide) (by decide) l16
  have R17 : ∀ a, a ≠ 2 → a ≠ u → I17 a = I15 a := fun a p q => by rw [f4.1 a p, R16 a q]
  refine ⟨I13, _, I15, I17, by rw [e4]; exact a1, a3, by rw [← e16]; exact a4, fun a p q s => by rw [R17 a p (by omega), f3.tt a p q s, f1.1 a p], ?_⟩
  unfold zpLong
  rw [← el]
  refine ⟨b4, fun t3 e3 => ?_⟩
  dsimp only at e3 ⊢
  obtain ⟨t5, e5, -, -, q5⟩ := ztk_ok e3
  obtain ⟨w, ew⟩ := zrt_ok e5
  rw [ew] at b3 ⊢
  have b3' := b3
  obtain ⟨m1, m2, m3, m4, m5, m6⟩ := b3'
  dsimp only at m4
  have hs13 : I13 (u + 1) 0 = nI sz := by rw [f1.1 _ (by omega)]; exact c3.2.2.2.2.2.2
  have x13 : zXt I13 J u τ Λ N sz := c3.same (fun a p q => f1.1 a (by omega)) rfl
  have e61 : ∃ t6, ztk K 61 (zgn t0) = .ok t6 := by
    rw [el] at ew
    unfold zlawR at ew
    cases hh : ztk K 61 (zgn t0) with
    | error e => rw [hh] at ew; exact absurd ew (by simp)
    | ok t6 => exact ⟨t6, rfl⟩
  have hle : t0 ≤ t5 := by
    have hh := zlawR_le (K := K) (V := V) (r := zgn t0) (q := (t5, w)) (by rw [← el]; exact ew)
    obtain ⟨t6, e6⟩ := e61
    obtain ⟨t7, e7, -, -, q7⟩ := ztk_ok e6
    obtain ⟨-, q9⟩ := zgn_ok e7
    have := hh t7 e7
    dsimp only at this
    omega
  have r12 : I17 2 12 = I 2 12 := by rw [f4.2 12 (by decide), R16 2 (by omega), f3.2 12 (by decide), f1.2 12 (by decide)]
  have r26 : ∀ a, 26 ≤ a → a ≤ 28 → I17 a = I a := fun a p q => by rw [R17 a (by omega) (by omega), f3.1 a (by omega) (by omega) (by omega) (by omega) (by omega), f1.1 a (by omega)]
  have ez : I16 = zu I15 u 5 (nI sz) := by rw [e16, hs13]
  show zTt I17 J u P t3 _ τ (fun p => if p = 7 then some w else Λ p) N cn C
  refine zTt.semi (sz' := sz + zcln w.1 w.2) c1 ?_ (by omega) r12 r26 (by omega) id
  exact zXt_law hu x13 f3 b3 (p := 7) (by decide) (fun a p q s => by rw [R17 a (by omega) (by omega)]) (fun k p => by rw [f4.1 u u2, ez, zu_k p]) ⟨fun q => absurd q (by decide), fun _ => ⟨by rw [f4.1 u u2, ez, zu_eq], R17 _ (by omega) (by omega)⟩⟩ (Or.inl rfl)
end

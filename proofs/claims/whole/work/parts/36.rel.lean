/-! both sides tied to one town and one day; OVER, PIECES, MOST, UNFAIR -/
def zscl : List Nat := [7, 8, 34, 35, 401, 402, 403, 404, 405, 406, 408, 409, 410, 411, 412, 413, 414, 419, 455, 456, 458, 459, 461, 462, 463, 464, 465, 466, 467]
def zscl0 : List Nat := [7, 8, 34, 35, 401, 402, 403, 404, 405, 406, 408, 409, 410, 411, 412, 413, 414, 419, 455, 456, 459, 461, 462, 463, 464, 465, 466, 467]
theorem zscl_0 {a : Nat} (h : a ∈ zscl0) : a ∈ zscl := by
  have : ∀ x ∈ zscl0, x ∈ zscl := by decide
  exact this a h
/-- the reference's working row holds numbers -/
def zw (I : zI) : Prop := ∀ k, k < 1290 → ∃ n, n ≤ 600000000 ∧ I 458 k = nI n
theorem zw.of {I : zI} {ρ : Nat → Nat} {b : Nat} (hR : zRM I 458 0 ρ) (hB : zRb b ρ) (hb : b ≤ 600000000) : zw I := fun k hk => ⟨ρ k, by
  by_cases e : k = 28
  · subst e; have := hB.2.2; omega
  · have := hB.2.1 k hk e; have := zK6_v; omega, by have := hR k hk; rwa [Nat.zero_add] at this⟩
theorem zw.same {I I' : zI} (h : zw I) (hs : I' 458 = I 458) : zw I' := fun k hk => by rw [hs]; exact h k hk
/-- what a question may write -/
def zscr (I I' : zI) : Prop := (∀ a, a ∉ zscl → ¬ (57 ≤ a ∧ a ≤ 66) → a ≠ 420 → I' a = I a) ∧ (∀ k, k ≠ 54 → k ≠ 64 → k ≠ 65 → I' 420 k = I 420 k) ∧ (zw I → zw I')
theorem zscr.rf {I : zI} : zscr I I := ⟨fun _ _ _ _ => rfl, fun _ _ _ _ => rfl, id⟩
theorem zscr.tr {I I' I'' : zI} (h1 : zscr I I') (h2 : zscr I' I'') : zscr I I'' := ⟨fun a p q r => (h2.1 a p q r).trans (h1.1 a p q r), fun k p q r => (h2.2.1 k p q r).trans (h1.2.1 k p q r), fun h => h2.2.2 (h1.2.2 h)⟩
theorem zscr.of {I I' : zI} (h : ∀ a, a ∉ zscl0 → ¬ (57 ≤ a ∧ a ≤ 66) → I' a = I a) : zscr I I' := ⟨fun a p q _ => h a (fun z => p (zscl_0 z)) q, fun k _ _ _ => by rw [h 420 (by decide) (by decide)], fun z => z.same (h 458 (by decide) (by decide))⟩
theorem zscr.fm {S F : List Nat} {I I' : zI} (h : zfm S F I I') (hS : ∀ a ∈ S, a ∈ zscl) (hF : ∀ k ∈ F, k = 54 ∨ k = 64 ∨ k = 65) (hw : zw I → zw I') : zscr I I' :=
  ⟨fun a p _ r => h.1 a r (fun q => p (hS a q)), fun k p q r => h.2 k (fun z => by rcases hF k z with e | e | e <;> omega), hw⟩
theorem zscr.fw {I I' : zI} (h : zfw I I') (hw : zw I') : zscr I I' := zscr.fm h (by decide) (by decide) (fun _ => hw)
theorem zscr.fl {I I' : zI} (h : zfl I I') : zscr I I' := zscr.fm h (by decide) (by decide) (fun z => z.same (h.row (by decide) (by decide) (by decide)))
theorem zscr.fc {S : List Nat} {I I' : zI} (h : zfc S I I') (hS : ∀ a ∈ S, a ∈ zscl0) : zscr I I' := zscr.of fun a p _ => h a (fun q => p (hS a q))
theorem zscr.fb {t : Nat} {I I' : zI} (h : zfb 57 t I I') (ht : t = 3 ∨ t = 30) : zscr I I' := zscr.of fun a p q => h a (by omega) (fun z => p (by rcases ht with rfl | rfl <;> subst z <;> decide)) (fun z => p (by rcases ht with rfl | rfl <;> subst z <;> decide))
theorem zscr.row {I I' : zI} (h : zscr I I') {a : Nat} (h1 : a ∉ zscl) (h2 : ¬ (57 ≤ a ∧ a ≤ 66)) (h3 : a ≠ 420) : I' a = I a := h.1 a h1 h2 h3
/-- the day that is -/
def zDay (I : zI) (τ : Nat → Nat → Nat) (b : Nat) (ρ : Nat → Nat) : Prop := zRM I 457 0 ρ ∧ zRb b ρ ∧ zDW τ ρ ∧ zCE I 47 τ ρ
/-- the town and the day, on both sides -/
def zR0 (Z : zZ) (I : zI) (t u v : Nat) (τ : Nat → Nat → Nat) (Λ : Nat → Option zLaw) (b : Nat) (ρ : Nat → Nat) : Prop :=
  (zLY Z t u ∧ b < 500000000) ∧ zTW τ Λ ∧ zMT I v τ Λ ∧ zCT I t τ Λ ∧ zSx I ∧ zDay I τ b ρ
theorem zscl_lt {a : Nat} (h : a ∈ zscl) : a ≤ 467 := by
  have : ∀ x ∈ zscl, x ≤ 467 := by decide
  exact this a h
section
variable {d : Nat} {Z : zZ} {J : zJ} {I I' : zI} {t u v b : Nat} {τ : Nat → Nat → Nat} {Λ : Nat → Option zLaw} {ρ : Nat → Nat}
theorem zR0.L (h : zR0 Z I t u v τ Λ b ρ) : zLY Z t u := h.1.1
theorem zR0.W (h : zR0 Z I t u v τ Λ b ρ) : zTW τ Λ := h.2.1
theorem zR0.M (h : zR0 Z I t u v τ Λ b ρ) : zMT I v τ Λ := h.2.2.1
theorem zR0.T (h : zR0 Z I t u v τ Λ b ρ) : zCT I t τ Λ := h.2.2.2.1
theorem zR0.S (h : zR0 Z I t u v τ Λ b ρ) : zSx I := h.2.2.2.2.1
theorem zR0.R (h : zR0 Z I t u v τ Λ b ρ) : zRM I 457 0 ρ := h.2.2.2.2.2.1
theorem zR0.bd (h : zR0 Z I t u v τ Λ b ρ) : zRb b ρ := h.2.2.2.2.2.2.1
theorem zR0.B (h : zR0 Z I t u v τ Λ b ρ) : zRB ρ := h.bd.b (by have := h.1.2; omega)
theorem zR0.D (h : zR0 Z I t u v τ Λ b ρ) : zDW τ ρ := h.2.2.2.2.2.2.2.1
theorem zR0.E (h : zR0 Z I t u v τ Λ b ρ) : zCE I 47 τ ρ := h.2.2.2.2.2.2.2.2
theorem zR0.C (h : zR0 Z I t u v τ Λ b ρ) : zCD I 47 τ ρ := h.E.1
theorem zR0.P (h : zR0 Z I t u v τ Λ b ρ) : zCP I 47 τ ρ := h.E.1.2.2
theorem zR0.H (h : zR0 Z I t u v τ Λ b ρ) : zH τ ρ := h.D.h h.W
theorem zR0.U (h : zR0 Z I t u v τ Λ b ρ) : zTU τ ρ := h.D.2.2.2
theorem zR0.n7 (h : zR0 Z I t u v τ Λ b ρ) : τ 0 0 ≤ 7 := h.W.1.1
theorem zR0.tu (h : zR0 Z I t u v τ Λ b ρ) : t = 3 ∧ u = 30 ∨ t = 30 ∧ u = 3 := ly_tu h.L
theorem zR0.men (h : zR0 Z I t u v τ Λ b ρ) : I t 2 = nI (τ 0 0) := h.T.1.1
theorem zR0.t3 (h : zR0 Z I t u v τ Λ b ρ) : t = 3 ∨ t = 30 := by rcases h.tu with ⟨e, -⟩ | ⟨e, -⟩ <;> omega
theorem zsc_n (a : Nat) (h1 : ¬ (7 ≤ a ∧ a ≤ 8)) (h2 : ¬ (34 ≤ a ∧ a ≤ 35)) (h3 : ¬ (401 ≤ a ∧ a ≤ 419)) (h4 : ¬ (455 ≤ a ∧ a ≤ 456)) (h5 : ¬ (458 ≤ a ∧ a ≤ 467)) : a ∉ zscl := fun h => by
  have : ∀ x ∈ zscl, (7 ≤ x ∧ x ≤ 8) ∨ (34 ≤ x ∧ x ≤ 35) ∨ (401 ≤ x ∧ x ≤ 419) ∨ (455 ≤ x ∧ x ≤ 456) ∨ (458 ≤ x ∧ x ≤ 467) := by decide
  have := this a h
  omega
theorem zR0.sc (h : zR0 Z I t u v τ Λ b ρ) (hs : zscr I I') : zR0 Z I' t u v τ Λ b ρ := by
  have ht := h.t3
  refine ⟨h.1, h.W, h.M.same (hs.2.1 18 (by decide) (by decide) (by decide)) (fun a h1 h2 => hs.1 a (zsc_n a (by omega) (by omega) (by omega) (by omega) (by omega)) (by omega) (by omega)), h.T.same (fun a h1 h2 h3 h4 => ?_), h.S.same (hs.1 _ (by decide) (by decide) (by decide)) (hs.1 _ (by decide) (by decide) (by decide)), ?_, h.bd, h.D, h.E.same (fun a h1 h2 => hs.1 a (zsc_n a (by omega) (by omega) (by omega) (by omega) (by omega)) (by omega) (by omega))⟩
  · exact hs.1 a (zsc_n a (by omega) (by omega) (by omega) (by omega) (by omega)) (by omega) (by omega)
  · intro k hk; rw [hs.1 457 (by decide) (by decide) (by decide)]; exact h.R k hk
/-- an int names a man -/
abbrev zism (τ : Nat → Nat → Nat) (x : Int32) : Prop := 0 ≤ x ∧ x ≤ nI (τ 0 0) - 1
theorem zism_iff (h7 : τ 0 0 ≤ 7) (x : Int32) : zism τ x ↔ ∃ m, m < τ 0 0 ∧ x = nI m := by
  constructor
  · intro h
    rcases zman h7 x with g | g
    · exact absurd h g.1
    · exact g
  · rintro ⟨m, hm, rfl⟩; exact zman_t h7 hm
theorem C_isMan (hL : zLY Z t u) (h7 : τ 0 0 ≤ 7) (e : I t 2 = nI (τ 0 0)) {x : Int32} : zE d kX11_isMan 0 [some (.ref 0), some (.int x)] [] Z I J (some (.int (zbi (zism τ x))), Z, I, J) := by
  rcases zman h7 x with ⟨g, g2⟩ | ⟨m, hm, rfl⟩
  · rw [zbi_f g]
    rcases g2 with g2 | g2
    · exact BX11_isMan_0 _ hL ⟨fun _ => rfl, fun q => absurd g2 q⟩
    · exact BX11_isMan_0 _ hL ⟨fun _ => rfl, fun _ => ⟨fun _ => rfl, fun q => absurd (by rw [e]; exact g2) q⟩⟩
  · rw [zbi_t (zman_t h7 hm)]
    refine BX11_isMan_0 _ hL ⟨fun q => absurd q (zneg (by omega)), fun _ => ⟨fun q => ?_, fun _ => rfl⟩⟩
    exfalso; rw [e, zle' (by omega) (by omega)] at q; omega
abbrev zis2 (τ : Nat → Nat → Nat) (x y : Int32) : Prop := zism τ x ∧ zism τ y ∧ ¬ x = y
theorem C_areTwo (hL : zLY Z t u) (h7 : τ 0 0 ≤ 7) (e : I t 2 = nI (τ 0 0)) {x y : Int32} : zE (d + 1) kX11_areTwo 0 [some (.ref 0), some (.int x), some (.int y)] [] Z I J (some (.int (zbi (zis2 τ x y))), Z, I, J) := by
  refine BX11_areTwo_0 _ _ hL ⟨_, C_isMan hL h7 e, fun q => ?_, fun q => ⟨_, C_isMan hL h7 e, fun q2 => ?_, fun q2 => ⟨fun q3 => ?_, fun q3 => ?_⟩⟩⟩
  · rw [zbi_eq0] at q; rw [zbi_f (fun z => q z.1)]
  · rw [zbi_eq0] at q2; rw [zbi_f (fun z => q2 z.2.1)]
  · rw [zbi_f (fun z => z.2.2 q3)]
  · rw [zbi_ne0] at q q2; rw [zbi_t ⟨q, q2, q3⟩]
theorem M_areTwo (hL : zLY Z t u) (hW : zTW τ Λ) (hM : zMT I v τ Λ) {x y : Int32} : zE (d + 2) kX12_areTwo 0 [some (.ref 420), some (.int x), some (.int y)] [] Z I J (some (.int (zbi (zis2 τ x y))), Z, I, J) := by
  refine BX12_areTwo_0 _ _ hL ⟨_, M_isMan hL hW hM, fun q => ?_, fun q => ⟨_, M_isMan hL hW hM, fun q2 => ?_, fun q2 => ⟨fun q3 => ?_, fun q3 => ?_⟩⟩⟩
  · rw [zbi_eq0] at q; rw [zbi_f (fun z => q z.1)]
  · rw [zbi_eq0] at q2; rw [zbi_f (fun z => q2 z.2.1)]
  · rw [zbi_f (fun z => z.2.2 q3)]
  · rw [zbi_ne0] at q q2; rw [zbi_t ⟨q, q2, q3⟩]
/-- the reference takes the day that is -/
theorem M_cop (h : zR0 Z I t u v τ Λ b ρ) : ∃ I', zE d kX12_copies 0 [some (.ref 420), none] [] Z I J (none, Z, I', J) ∧ zR0 Z I' t u v τ Λ b ρ ∧ zRM I' 458 0 ρ ∧ (∀ m, m < 7 → I' 459 m = nI 0) ∧ zscr I I' := by
  obtain ⟨I', h1, h2, h3, h4⟩ := M_copies' (d := d) (J := J) h.L h.R
  have hs : zscr I I' := ⟨fun a p _ _ => h4 a (fun e => p (by subst e; decide)) (fun e => p (by subst e; decide)), fun k _ _ _ => by rw [h4 420 (by decide) (by decide)], fun _ => zw.of h2 h.bd (by have := h.1.2; omega)⟩
  exact ⟨I', h1, h.sc hs, h2, h3, hs⟩
/-- two questions that answer alike and keep all -/
abbrev zQ2 (kc km : zK) (lc lm : zL) (Z : zZ) (I : zI) (J : zJ) : Prop := ∃ (r : Int32) (I1 I2 : zI), zE 10 kc 0 lc [] Z I J (some (.int r), Z, I1, J) ∧ zE 10 km 0 lm [] Z I1 J (some (.int r), Z, I2, J) ∧ zscr I I2
theorem zQ2.of {kc km : zK} {lc lm : zL} (h : zR0 Z I t u v τ Λ b ρ) (r : Int32) (hc : ∃ I1, zE 10 kc 0 lc [] Z I J (some (.int r), Z, I1, J) ∧ zscr I I1) (hm : ∀ I1, zR0 Z I1 t u v τ Λ b ρ → ∃ I2, zE 10 km 0 lm [] Z I1 J (some (.int r), Z, I2, J) ∧ zscr I1 I2) : zQ2 kc km lc lm Z I J := by
  obtain ⟨I1, h1, h2⟩ := hc
  obtain ⟨I2, h3, h4⟩ := hm I1 (h.sc h2)
  exact ⟨r, I1, I2, h1, h3, h2.tr h4⟩
theorem Q_over (h : zR0 Z I t u v τ Λ b ρ) (x y : Int32) : zQ2 kX11_over kX12_over [some (.ref 0), some (.int x), some (.int y)] [some (.ref 420), some (.int x), some (.int y)] Z I J := by
  by_cases hc : zis2 τ x y
  · obtain ⟨m, hm, rfl⟩ := (zism_iff h.n7 x).mp hc.1
    obtain ⟨o, ho, rfl⟩ := (zism_iff h.n7 y).mp hc.2.1
    refine zQ2.of h (nI (zov ρ m o)) ⟨I, BX11_over_0 _ _ h.L ⟨_, C_areTwo h.L h.n7 h.men, fun q => ?_, fun _ => ⟨_, C_countOver (ly_d47 h.L) h.H h.U h.C hm ho, rfl⟩⟩, zscr.rf⟩ (fun I1 h => ?_)
    · rw [zbi_eq0] at q; exact absurd hc q
    · obtain ⟨I2, g1, g2, g3, g4, g5⟩ := M_cop (d := 9) (J := J) h
      refine ⟨I2, BX12_over_0 _ _ h.L ⟨_, M_areTwo h.L h.W h.M, fun _ => ⟨I2, g1, _, M_overOf h.L h.H g3 h.B hm ho, rfl⟩, fun q => ?_⟩, g5⟩
      rw [zbi_eq0] at q; exact absurd hc q
  · refine zQ2.of h (-1) ⟨I, BX11_over_0 _ _ h.L ⟨_, C_areTwo h.L h.n7 h.men, fun _ => rfl, fun q => ?_⟩, zscr.rf⟩ (fun I1 h => ⟨I1, BX12_over_0 _ _ h.L ⟨_, M_areTwo h.L h.W h.M, fun q => ?_, fun _ => rfl⟩, zscr.rf⟩)
    · rw [zbi_ne0] at q; exact absurd q hc
    · rw [zbi_ne0] at q; exact absurd q hc
theorem zoth_bb (hB : zRB ρ) (hH : zH τ ρ) {q : Nat} (hq : zlive τ ρ q) {s : Nat} : zct ρ (τ 0 0) (zoth ρ s (nI (ρ (450 + q))) false) = zcb τ ρ s (ρ (450 + q)) := zct_b hH hB (by have := hB (450 + q) (by have := zlive_lt hH hq; omega); omega)
set_option maxHeartbeats 1000000 in
theorem Q_piece (h : zR0 Z I t u v τ Λ b ρ) (x y w : Int32) : zQ2 kX11_piece kX12_piece [some (.ref 0), some (.int x), some (.int y), some (.int w), none] [some (.ref 420), some (.int x), some (.int y), some (.int w), none] Z I J := by
  have h7 := h.n7
  by_cases hx : zism τ x
  · obtain ⟨m, hm, rfl⟩ := (zism_iff h.n7 x).mp hx
    have h60 := h.H.2 m hm
    have a3 : ∀ {I : zI}, zR0 Z I t u v τ Λ b ρ → zat I (47 + 3) 7 (nI m) = nI (ρ (14 + m)) := fun {I} h => by rw [zatI (by omega) (by decide), (h.C.2.1 m hm).2.2.1]
    have r14 : ∀ {I : zI}, zR0 Z I t u v τ Λ b ρ → I 457 ((14 : Int32) + nI m).toNatClampNeg = nI (ρ (14 + m)) := fun {I} h => by rw [zk_14, zclm (by omega)]; exact h.R.at (by omega)
    have v14 : vp_in ((14 : Int32) + nI m) 1290 := by rw [zk_14]; exact zvin (by omega) (by decide)
    rcases zix y (show ρ (14 + m) < 2147483648 by omega) with hy | ⟨i, hi, rfl⟩
    · -- no such PIECE
      have hn : ¬ (0 ≤ y ∧ y ≤ nI (ρ (14 + m)) - 1) := by
        rintro ⟨g1, g2⟩
        rcases hy with hy | hy
        · exact absurd hy (Int32.not_lt.mpr g1)
        · obtain ⟨j, hj, rfl⟩ := znI_ex y (Int32.not_lt.mpr g1)
          rw [zle' (by omega) hj] at hy
          by_cases e : ρ (14 + m) = 0
          · rw [e] at g2; exact absurd (Int32.le_trans g1 g2) (by decide)
          · obtain ⟨k, hk⟩ : ∃ k, ρ (14 + m) = k + 1 := ⟨ρ (14 + m) - 1, by omega⟩
            rw [hk, zsub1, zle' hj (by omega)] at g2; omega
      refine zQ2.of h (-1) ⟨I, BX11_piece_0 _ _ _ h.L ⟨_, C_isMan h.L h7 h.men, fun _ => rfl, fun _ => ⟨fun _ => rfl, fun q => ⟨fun q2 => ?_, fun _ => rfl⟩⟩⟩, zscr.rf⟩ (fun I1 h => ⟨I1, BX12_piece_0 _ _ _ h.L ⟨_, M_isMan h.L h.W h.M, fun _ => rfl, fun _ => ⟨v14, fun _ => rfl, fun q => ?_⟩⟩, zscr.rf⟩)
      · exfalso
        rw [a3 h] at q2
        rcases hy with hy | hy
        · exact q hy
        · exact absurd q2 (Int32.not_lt.mpr hy)
      · rw [zbi_ne0, r14 h] at q; exact absurd q hn
    · have hq : 60 * m + i < 420 := by omega
      have hv := zlive_mk (ρ := ρ) h.H hm hi
      have hyin : 0 ≤ nI i ∧ nI i ≤ nI (ρ (14 + m)) - 1 := by
        obtain ⟨k, hk⟩ : ∃ k, ρ (14 + m) = k + 1 := ⟨ρ (14 + m) - 1, by omega⟩
        rw [hk, zsub1, zle' (by omega) (by omega)]; exact ⟨znn (by omega), by omega⟩
      have hylt : nI i < nI (ρ (14 + m)) := (zlt (by omega) (by omega)).mpr hi
      have hs := zlive_s h.W h.D hv
      have hab := zct_above h.W h.D h.B hv
      have ecl := zcb_le (s := ρ (870 + (60 * m + i))) (T := ρ 29) h.H
      have nm1 : ¬ zbi (zism τ (nI m)) = 0 := zbi_ne0.mpr hx
      -- the class's tree for an answer
      have hC : ∀ r : Int32, ((w.toInt < 0 ∨ 2 < w.toInt) → r = -1) → (w = 0 → r = nI (ρ (30 + (60 * m + i)))) → (w = 1 → r = nI (zcb τ ρ (ρ (870 + (60 * m + i))) (ρ (450 + (60 * m + i))))) → (w = 2 → r = nI (zct ρ (τ 0 0) (zoth ρ (ρ (870 + (60 * m + i))) (nI (ρ (450 + (60 * m + i)))) true))) → zE 10 kX11_piece 0 [some (.ref 0), some (.int (nI m)), some (.int (nI i)), some (.int w), none] [] Z I J (some (.int r), Z, I, J) := by
        intro r k1 k2 k3 k4
        obtain ⟨e5, e6, -⟩ := h.C.2.2.1 _ hv
        have ep : zpc (nI m) (nI i) = nI (60 * m + i + 1) := zpcI
        refine BX11_piece_0 _ _ _ h.L ⟨_, C_isMan h.L h7 h.men, fun q => absurd q nm1, fun _ => ⟨fun q => absurd q (zneg (by omega)), fun _ => ⟨fun _ => ⟨fun q => by rw [k1 q], fun q => ?_, fun q => ⟨_, by rw [ep]; exact C_countUnder (ly_d47 h.L) h.H h.U h.P hv, by rw [k3 q]⟩, fun q => ⟨nI (zcb τ ρ (ρ (870 + (60 * m + i))) (ρ 29)), ?_, nI (zcb τ ρ (ρ (870 + (60 * m + i))) (ρ (450 + (60 * m + i)))), ?_, ?_⟩⟩, fun q => absurd (by rw [a3 h]; exact hylt) q⟩⟩⟩
        · rw [k2 q, ep, zatI (by omega) (by decide), e5]
        · rw [ep, zatI (by omega) (by decide), e6]; exact C_countOn (ly_d47 h.L) h.H h.U h.P hs
        · rw [ep]; exact C_countUnder (ly_d47 h.L) h.H h.U h.P hv
        · rw [k4 q, hab, zsub (by omega), show zcb τ ρ (ρ (870 + (60 * m + i))) (ρ (450 + (60 * m + i))) + 1 + zct ρ (τ 0 0) (zoth ρ (ρ (870 + (60 * m + i))) (nI (ρ (450 + (60 * m + i)))) true) - zcb τ ρ (ρ (870 + (60 * m + i))) (ρ (450 + (60 * m + i))) = zct ρ (τ 0 0) (zoth ρ (ρ (870 + (60 * m + i))) (nI (ρ (450 + (60 * m + i)))) true) + 1 by omega, zsub1]
      have w3 : (¬ (0 ≤ w ∧ w ≤ 2) ∧ (w.toInt < 0 ∨ 2 < w.toInt) ∧ ¬ w = 0 ∧ ¬ w = 1 ∧ ¬ w = 2) ∨ w = 0 ∨ w = 1 ∨ w = 2 := by
        rcases zix w (n := 3) (by decide) with g | ⟨j, hj, rfl⟩
        · left
          rcases g with g | g
          · have g' : w.toInt < 0 := by rw [Int32.lt_iff_toInt_lt] at g; simpa using g
            refine ⟨fun z => absurd g (Int32.not_lt.mpr z.1), Or.inl g', ?_, ?_, ?_⟩ <;> rintro rfl <;> exact absurd g (by decide)
          · have g' : 2 < w.toInt := by rw [Int32.le_iff_toInt_le] at g; have : (nI 3).toInt = 3 := by decide
                                        omega
            refine ⟨fun z => ?_, Or.inr g', ?_, ?_, ?_⟩
            · have := Int32.le_trans g z.2; exact absurd this (by decide)
            all_goals rintro rfl; exact absurd g (by decide)
        · right
          obtain rfl | rfl | rfl : j = 0 ∨ j = 1 ∨ j = 2 := by omega
          · exact Or.inl rfl
          · exact Or.inr (Or.inl rfl)
          · exact Or.inr (Or.inr rfl)
      rcases w3 with ⟨n1, n2, n3, n4, n5⟩ | rfl | rfl | rfl
      · refine zQ2.of h (-1) ⟨I, hC _ (fun _ => rfl) (fun q => absurd q n3) (fun q => absurd q n4) (fun q => absurd q n5), zscr.rf⟩ (fun I1 h => ⟨I1, BX12_piece_0 _ _ _ h.L ⟨_, M_isMan h.L h.W h.M, fun _ => rfl, fun _ => ⟨v14, fun _ => rfl, fun _ => ⟨fun q => ?_, fun _ => rfl⟩⟩⟩, zscr.rf⟩)
        rw [zbi_ne0] at q; exact absurd q n1
      · refine zQ2.of h (nI (ρ (30 + (60 * m + i)))) ⟨I, hC _ (fun q => absurd q (by decide)) (fun _ => rfl) (fun q => absurd q (by decide)) (fun q => absurd q (by decide)), zscr.rf⟩ (fun I1 h => ?_)
        obtain ⟨I2, g1, g2, g3, g4, g5⟩ := M_cop (d := 9) (J := J) h
        refine ⟨I2, BX12_piece_0 _ _ _ h.L ⟨_, M_isMan h.L h.W h.M, fun q => absurd q nm1, fun _ => ⟨v14, fun q => ?_, fun _ => ⟨fun _ => ⟨I2, g1, fun y3 e3 => ⟨fun q => absurd rfl q, fun _ => ?_⟩⟩, fun q => absurd q (by decide)⟩⟩⟩, g5⟩
        · rw [zbi_eq0, r14 h] at q; exact absurd hyin q
        · rw [zk_60] at e3; subst e3
          refine ⟨by rw [zk_30]; exact zvin (by omega) (by decide), ?_⟩
          rw [zk_30, zclm (by omega), g3.at (by omega)]
      · refine zQ2.of h _ ⟨I, hC _ (fun q => absurd q (by decide)) (fun q => absurd q (by decide)) (fun _ => rfl) (fun q => absurd q (by decide)), zscr.rf⟩ (fun I1 h => ?_)
        obtain ⟨I2, g1, g2, g3, g4, g5⟩ := M_cop (d := 9) (J := J) h
        refine ⟨I2, BX12_piece_0 _ _ _ h.L ⟨_, M_isMan h.L h.W h.M, fun q => absurd q nm1, fun _ => ⟨v14, fun q => ?_, fun _ => ⟨fun _ => ⟨I2, g1, fun y3 e3 => ⟨fun _ => ?_, fun q => absurd q (by decide)⟩⟩, fun q => absurd q (by decide)⟩⟩⟩, g5⟩
        · rw [zbi_eq0, r14 h] at q; exact absurd hyin q
        · rw [zk_60] at e3; subst e3
          refine ⟨by rw [zk_870]; exact zvin (by omega) (by decide), by rw [zk_450]; exact zvin (by omega) (by decide), fun _ => ⟨nI (zct ρ (τ 0 0) (zoth ρ (ρ (870 + (60 * m + i))) (nI (ρ (450 + (60 * m + i)))) false)), ?_, ?_⟩, fun q => absurd q (by decide)⟩
          · rw [zk_870, zk_450, zclm (by omega), zclm (by omega), g3.at (by omega), g3.at (by omega)]
            exact M_others (s := ρ (870 + (60 * m + i))) (tm := nI (ρ (450 + (60 * m + i)))) (ov := false) g2.L g2.W g2.M g3 g2.B g2.D.dl (by omega)
          · rw [zoth_bb h.B h.H hv]
      · refine zQ2.of h _ ⟨I, hC _ (fun q => absurd q (by decide)) (fun q => absurd q (by decide)) (fun q => absurd q (by decide)) (fun _ => rfl), zscr.rf⟩ (fun I1 h => ?_)
        obtain ⟨I2, g1, g2, g3, g4, g5⟩ := M_cop (d := 9) (J := J) h
        refine ⟨I2, BX12_piece_0 _ _ _ h.L ⟨_, M_isMan h.L h.W h.M, fun q => absurd q nm1, fun _ => ⟨v14, fun q => ?_, fun _ => ⟨fun _ => ⟨I2, g1, fun y3 e3 => ⟨fun _ => ?_, fun q => absurd q (by decide)⟩⟩, fun q => absurd q (by decide)⟩⟩⟩, g5⟩
        · rw [zbi_eq0, r14 h] at q; exact absurd hyin q
        · rw [zk_60] at e3; subst e3
          refine ⟨by rw [zk_870]; exact zvin (by omega) (by decide), by rw [zk_450]; exact zvin (by omega) (by decide), fun q => absurd rfl q, fun _ => ⟨_, ?_, rfl⟩⟩
          rw [zk_870, zk_450, zclm (by omega), zclm (by omega), g3.at (by omega), g3.at (by omega)]
          exact M_others (s := ρ (870 + (60 * m + i))) (tm := nI (ρ (450 + (60 * m + i)))) (ov := true) g2.L g2.W g2.M g3 g2.B g2.D.dl (by omega)
  · refine zQ2.of h (-1) ⟨I, BX11_piece_0 _ _ _ h.L ⟨_, C_isMan h.L h7 h.men, fun _ => rfl, fun q => ?_⟩, zscr.rf⟩ (fun I1 h => ⟨I1, BX12_piece_0 _ _ _ h.L ⟨_, M_isMan h.L h.W h.M, fun _ => rfl, fun q => ?_⟩, zscr.rf⟩)
    · rw [zbi_ne0] at q; exact absurd q hx
    · rw [zbi_ne0] at q; exact absurd q hx
end

/-! the reference: LAWS of its text, LONG, GOES -/
theorem zpf_congr {env env' : Nat → Int32} (h : ∀ i, i < 6 → env i = env' i) : ∀ (toks : List zTok) (s : List Int32), zpw toks s.length → zpf env toks s = zpf env' toks s := by
  intro toks
  induction toks with
  | nil => intro s _; rfl
  | cons kv toks ih =>
    obtain ⟨k, v⟩ := kv
    intro s hw
    simp only [zpw] at hw
    simp only [zpf]
    rcases hw with ⟨rfl, hd, hw⟩ | ⟨rfl, hd, ⟨i, hi, rfl⟩, hw⟩ | ⟨hk2, hk5, hd, hw⟩
    · rw [if_pos rfl, if_pos rfl]; exact ih _ hw
    · rw [if_neg (by decide), if_pos rfl, if_neg (by decide), if_pos rfl, zclm (by omega), h i hi]; exact ih _ hw
    · rw [if_neg (by omega), if_neg (by omega), if_neg (by omega), if_neg (by omega)]
      match s, hd, hw with
      | b :: a :: s, hd, hw =>
        simp only
        split
        · rfl
        · exact ih _ (by simpa using hw)
theorem zlwB_congr {env env' : Nat → Int32} (h : ∀ i, i < 6 → env i = env' i) {e : List zTok} (he : zpw e 0) : ∀ (t : List (List zTok × List zTok × List zTok)), (∀ q ∈ t, zpw q.1 0 ∧ zpw q.2.1 0 ∧ zpw q.2.2 0) → zlwB env e t = zlwB env' e t := by
  intro t
  induction t with
  | nil => intro _; simp only [zlwB]; rw [zpf_congr h e [] he]
  | cons q t ih =>
    obtain ⟨a, b, c⟩ := q
    intro hq
    obtain ⟨h1, h2, h3⟩ := hq _ List.mem_cons_self
    simp only [zlwB]
    rw [zpf_congr h a [] h1, zpf_congr h b [] h2, zpf_congr h c [] h3, ih (fun q hq' => hq q (List.mem_cons_of_mem _ hq'))]
theorem zlw_congr {env env' : Nat → Int32} (h : ∀ i, i < 6 → env i = env' i) {w : zLaw} (hw : zlwOK w) : zlw env w = zlw env' w := zlwB_congr h hw.2 w.1 hw.1
/-- branches of a LAW in the reference's rows -/
def zmlw (I : zI) : Nat → List (List zTok × List zTok × List zTok) → List zTok → Prop
  | b, [], e => I 447 b = 0 ∧ ∃ f, I 450 b = nI f ∧ I 451 b = nI (f + e.length) ∧ f + e.length ≤ 840 ∧ zseg (I 452) (I 453) f e
  | b, (a1, a2, a3) :: t, e => I 447 b = 1 ∧ (∃ f1 f2 f3, I 448 b = nI f1 ∧ I 449 b = nI f2 ∧ I 450 b = nI f3 ∧ I 451 b = nI (f3 + a3.length) ∧ f2 = f1 + a1.length ∧ f3 = f2 + a2.length ∧ f3 + a3.length ≤ 840 ∧ zseg (I 452) (I 453) f1 a1 ∧ zseg (I 452) (I 453) f2 a2 ∧ zseg (I 452) (I 453) f3 a3) ∧ zmlw I (b + 1) t e
def zLM (I : zI) (p : Nat) (o : Option zLaw) : Prop := match o with
  | none => I 445 p = I 446 p
  | some w => (∃ b, I 445 p = nI b ∧ I 446 p = nI (b + w.1.length + 1) ∧ b + w.1.length + 1 ≤ 260 ∧ zmlw I b w.1 w.2) ∧ zlwOK w
def zlo (env : Nat → Int32) (o : Option zLaw) : Int32 := match o with
  | none => 0
  | some w => zlw env w
theorem zmlw_same {I I' : zI} (h : ∀ a, 447 ≤ a → a ≤ 453 → I' a = I a) : ∀ (t : List (List zTok × List zTok × List zTok)) (b : Nat) (e : List zTok), zmlw I b t e → zmlw I' b t e := by
  intro t
  induction t with
  | nil => intro b e q; simp only [zmlw] at q ⊢; rw [h 447 (by decide) (by decide), h 450 (by decide) (by decide), h 451 (by decide) (by decide), h 452 (by decide) (by decide), h 453 (by decide) (by decide)]; exact q
  | cons a t ih => intro b e q; simp only [zmlw] at q ⊢; rw [h 447 (by decide) (by decide), h 448 (by decide) (by decide), h 449 (by decide) (by decide), h 450 (by decide) (by decide), h 451 (by decide) (by decide), h 452 (by decide) (by decide), h 453 (by decide) (by decide)]; exact ⟨q.1, q.2.1, ih _ _ q.2.2⟩
theorem zLM_same {I I' : zI} (h : ∀ a, 445 ≤ a → a ≤ 453 → I' a = I a) {p : Nat} {o : Option zLaw} (q : zLM I p o) : zLM I' p o := by
  cases o with
  | none => show I' 445 p = I' 446 p; rw [h 445 (by decide) (by decide), h 446 (by decide) (by decide)]; exact q
  | some w =>
    obtain ⟨⟨b, q1, q2, q3, q4⟩, q5⟩ := q
    exact ⟨⟨b, by rw [h 445 (by decide) (by decide)]; exact q1, by rw [h 446 (by decide) (by decide)]; exact q2, q3, zmlw_same (fun a h1 h2 => h a (by omega) h2) _ _ _ q4⟩, q5⟩
section
variable {d : Nat} {Z : zZ} {J : zJ} {t u : Nat}
theorem M_termOf (hL : zLY Z t u) {toks : List zTok} {I : zI} {c e : Nat} (he : e = c + toks.length) (hseg : zseg (I 452) (I 453) c toks) (hc : c + toks.length ≤ 840) (hw : zpw toks 0) :
    ∃ I', zE d kX12_termOf 0 [some (.ref 420), some (.int (nI c)), some (.int (nI e)), none, none, none, none, none] [] Z I J (some (.int (zv1 (zpf (I 455) toks []))), Z, I', J) ∧ zfm [456] [54] I I' ∧ I' 420 54 = if (zpf (I 455) toks []).isNone = true then 1 else I 420 54 := by
  subst he
  obtain ⟨I', h1, h2⟩ := M_termOf_loop (d := d) (J := J) hL toks I [] c hseg hc hw (by simp) trivial
  exact ⟨I', BX12_termOf_0 _ _ hL h1, h2⟩
theorem zv1_some {x : Option (List Int32)} {s : List Int32} (h : x = some s) : zv1 x = zv1 (some s) := by rw [h]
set_option maxHeartbeats 2000000 in
theorem M_tellsBy_loop (hL : zLY Z t u) {p : Nat} (hp : p < 16) {e : List zTok} (he : zpw e 0) : ∀ (w : List (List zTok × List zTok × List zTok)) (I : zI) (b : Nat), (∀ q ∈ w, zpw q.1 0 ∧ zpw q.2.1 0 ∧ zpw q.2.2 0) → I 446 p = nI (b + w.length + 1) → b + w.length + 1 ≤ 260 → zmlw I b w e → I 420 54 = 0 →
    ∃ I', zE (d + 1) kX12_tellsBy 12 [some (.ref 420), some (.int (nI p)), some (.int (nI b)), none, none] [] Z I J (some (.int (zlwB (I 455) e w)), Z, I', J) ∧ zfm [456] [54] I I' := by
  intro w
  induction w with
  | nil =>
    intro I b hq hl hb hm h54
    simp only [List.length_nil, Nat.add_zero] at hl hb
    simp only [zmlw] at hm
    obtain ⟨m0, f, m1, m2, m3, m4⟩ := hm
    have hcb : (nI b).toNatClampNeg = b := zclm (by omega)
    have hv2 : vp_in (nI b) 260 := zvin (by omega) (by decide)
    obtain ⟨I', h1, h2, h3⟩ := M_termOf (d := d) (J := J) hL rfl m4 m3 he
    refine ⟨I', BX12_tellsBy_12 _ _ hL ⟨zvin hp (by decide), fun q => ?_, fun _ => ⟨hv2, fun _ => ⟨hv2, hv2, zv1 (zpf (I 455) e []), I', ?_, fun q => ?_, fun q => ?_⟩, fun q => ?_⟩⟩, h2⟩
    · rw [zclm (by omega), hl, zle' (by omega) (by omega)] at q; omega
    · rw [hcb, m1, m2]; exact h1
    · simp only [zlwB]
    · rw [h3] at q
      simp only [zlwB]
      cases hz : zpf (I 455) e [] with
      | none => simp [zv1]
      | some s => rw [hz] at q; simp only [Option.isNone_some, Bool.false_eq_true, if_false] at q; exact absurd h54 q
    · rw [hcb] at q; exact absurd m0 q
  | cons abc w ih =>
    obtain ⟨a1, a2, a3⟩ := abc
    intro I b hq hl hb hm h54
    simp only [List.length_cons] at hl hb
    simp only [zmlw] at hm
    obtain ⟨m0, ⟨f1, f2, f3, m1, m2, m3, m4, e2, e3, m5, s1, s2, s3⟩, hm⟩ := hm
    obtain ⟨w1, w2, w3⟩ := hq _ List.mem_cons_self
    have hcb : (nI b).toNatClampNeg = b := zclm (by omega)
    have hv2 : vp_in (nI b) 260 := zvin (by omega) (by decide)
    obtain ⟨I4, h1, hf1, b1⟩ := M_termOf (d := d) (J := J) hL e2 s1 (by omega) w1
    have k : ∀ a, a ≠ 456 → a ≠ 420 → I4 a = I a := fun a ha h4 => hf1.1 a h4 (by simpa using ha)
    obtain ⟨I6, h2, hf2, b2⟩ := M_termOf (d := d) (J := J) (I := I4) hL e3 (by rw [k 452 (by decide) (by decide), k 453 (by decide) (by decide)]; exact s2) (by omega) w2
    have k6 : ∀ a, a ≠ 456 → a ≠ 420 → I6 a = I a := fun a ha h4 => (hf2.1 a h4 (by simpa using ha)).trans (k a ha h4)
    obtain ⟨I8, h3, hf3, b3⟩ := M_termOf (d := d) (J := J) (I := I6) (toks := a3) (c := f3) hL rfl (by rw [k6 452 (by decide) (by decide), k6 453 (by decide) (by decide)]; exact s3) m5 w3
    rw [k 455 (by decide) (by decide)] at h2 b2
    rw [k6 455 (by decide) (by decide)] at h3 b3
    rw [h54] at b1
    have hrun : ∀ (I' : zI), (I6 420 54 = 0 → (zv1 (zpf (I 455) a1 []) < zv1 (zpf (I 455) a2 []) → I' = I8) ∧ (¬ zv1 (zpf (I 455) a1 []) < zv1 (zpf (I 455) a2 []) → zE (d + 1) kX12_tellsBy 12 [some (.ref 420), some (.int (nI p)), some (.int (nI (b + 1))), none, none] [] Z I6 J (some (.int (zlwB (I 455) e ((a1, a2, a3) :: w))), Z, I', J))) → (¬ I6 420 54 = 0 → I' = I6) → zE (d + 1) kX12_tellsBy 12 [some (.ref 420), some (.int (nI p)), some (.int (nI b)), none, none] [] Z I J (some (.int (zlwB (I 455) e ((a1, a2, a3) :: w))), Z, I', J) := by
      intro I' g1 g2
      refine BX12_tellsBy_12 _ _ hL ⟨zvin hp (by decide), fun q => ?_, fun _ => ⟨hv2, fun q => ?_, fun _ => ⟨hv2, hv2, zv1 (zpf (I 455) a1 []), I4, ?_, hv2, hv2, zv1 (zpf (I 455) a2 []), I6, ?_, fun q6 => ⟨fun hlt => ⟨hv2, hv2, zv1 (zpf (I 455) a3 []), I8, ?_, fun q8 => ?_, fun q8 => ?_⟩, fun hnl => ?_⟩, fun q6 => ?_⟩⟩⟩
      · rw [zclm (by omega), hl, zle' (by omega) (by omega)] at q; omega
      · rw [hcb, m0] at q; exact absurd q (by decide)
      · rw [hcb, m1, m2]; exact h1
      · rw [hcb, k 449 (by decide) (by decide), k 450 (by decide) (by decide), m2, m3]; exact h2
      · rw [hcb, k6 450 (by decide) (by decide), k6 451 (by decide) (by decide), m3, m4]; exact h3
      · have hI := (g1 q6).1 hlt
        rw [hI]
        have z1 : (zpf (I 455) a1 []).isNone = false := by
          cases hz : zpf (I 455) a1 [] with
          | none => rw [b2, b1, hz] at q6; split at q6 <;> simp at q6
          | some s => rfl
        have z2 : (zpf (I 455) a2 []).isNone = false := by
          cases hz : zpf (I 455) a2 [] with
          | none => rw [b2, hz] at q6; simp at q6
          | some s => rfl
        obtain ⟨u1, hu1⟩ := Option.isSome_iff_exists.mp (by rw [← Option.not_isNone, z1]; rfl)
        obtain ⟨u2, hu2⟩ := Option.isSome_iff_exists.mp (by rw [← Option.not_isNone, z2]; rfl)
        simp only [zlwB, hu1, hu2]
        rw [hu1, hu2] at hlt
        rw [if_pos hlt]
      · have hI := (g1 q6).1 hlt
        rw [hI]
        have z1 : (zpf (I 455) a1 []).isNone = false := by
          cases hz : zpf (I 455) a1 [] with
          | none => rw [b2, b1, hz] at q6; split at q6 <;> simp at q6
          | some s => rfl
        have z2 : (zpf (I 455) a2 []).isNone = false := by
          cases hz : zpf (I 455) a2 [] with
          | none => rw [b2, hz] at q6; simp at q6
          | some s => rfl
        obtain ⟨u1, hu1⟩ := Option.isSome_iff_exists.mp (by rw [← Option.not_isNone, z1]; rfl)
        obtain ⟨u2, hu2⟩ := Option.isSome_iff_exists.mp (by rw [← Option.not_isNone, z2]; rfl)
        simp only [zlwB, hu1, hu2]
        rw [hu1, hu2] at hlt
        rw [if_pos hlt]
        rw [b3, q6] at q8
        cases hz : zpf (I 455) a3 [] with
        | none => simp [zv1]
        | some s => rw [hz] at q8; simp at q8
      · rw [zadd1]; exact (g1 q6).2 hnl
      · rw [g2 q6]
        have hz : zpf (I 455) a1 [] = none ∨ zpf (I 455) a2 [] = none := by
          cases hz1 : zpf (I 455) a1 [] with
          | none => exact Or.inl rfl
          | some s1 =>
            cases hz2 : zpf (I 455) a2 [] with
            | none => exact Or.inr rfl
            | some s2 => rw [b2, b1, hz1, hz2] at q6; simp at q6
        simp only [zlwB]
        rcases hz with hz | hz
        · rw [hz]
        · rw [hz]; cases zpf (I 455) a1 [] <;> rfl
    by_cases q6 : I6 420 54 = 0
    · by_cases hlt : zv1 (zpf (I 455) a1 []) < zv1 (zpf (I 455) a2 [])
      · exact ⟨I8, hrun I8 (fun _ => ⟨fun _ => rfl, fun q => absurd hlt q⟩) (fun q => absurd q6 q), (hf1.tr hf2).tr hf3⟩
      · obtain ⟨I', g1, g2⟩ := ih I6 (b + 1) (fun q h => hq q (List.mem_cons_of_mem _ h)) (by rw [k6 446 (by decide) (by decide), hl]; congr 1; omega) (by omega) (zmlw_same (fun a ha1 ha2 => k6 a (by omega) (by omega)) _ _ _ hm) q6
        refine ⟨I', hrun I' (fun _ => ⟨fun q => absurd q hlt, fun _ => ?_⟩) (fun q => absurd q6 q), (hf1.tr hf2).tr g2⟩
        have z1 : (zpf (I 455) a1 []).isNone = false := by
          cases hz : zpf (I 455) a1 [] with
          | none => rw [b2, b1, hz] at q6; split at q6 <;> simp at q6
          | some s => rfl
        have z2 : (zpf (I 455) a2 []).isNone = false := by
          cases hz : zpf (I 455) a2 [] with
          | none => rw [b2, hz] at q6; simp at q6
          | some s => rfl
        obtain ⟨u1, hu1⟩ := Option.isSome_iff_exists.mp (by rw [← Option.not_isNone, z1]; rfl)
        obtain ⟨u2, hu2⟩ := Option.isSome_iff_exists.mp (by rw [← Option.not_isNone, z2]; rfl)
        have hz : zlwB (I 455) e ((a1, a2, a3) :: w) = zlwB (I 455) e w := by
          simp only [zlwB, hu1, hu2]
          rw [hu1, hu2] at hlt
          rw [if_neg hlt]
        rw [hz, ← k6 455 (by decide) (by decide)]
        exact g1
    · exact ⟨I6, hrun I6 (fun q => absurd q q6) (fun _ => rfl), hf1.tr hf2⟩
theorem M_tellsBy (hL : zLY Z t u) {p : Nat} (hp : p < 16) {I : zI} {o : Option zLaw} (h : zLM I p o) :
    ∃ I', zE (d + 1) kX12_tellsBy 0 [some (.ref 420), some (.int (nI p)), none, none, none] [] Z I J (some (.int (zlo (I 455) o)), Z, I', J) ∧ zfm [456] [54] I I' := by
  have k : ∀ a, a ≠ 420 → zu I 420 54 0 a = I a := fun a h => zu_ne h
  cases o with
  | none =>
    have h' : I 445 p = I 446 p := h
    refine ⟨zu I 420 54 0, BX12_tellsBy_0 _ hL (fun I1 e1 => ⟨zvin hp (by decide), fun y2 e2 => ?_⟩), zfm.fld (by decide)⟩
    subst e1
    refine BX12_tellsBy_12 _ _ hL ⟨zvin hp (by decide), fun _ => rfl, fun q => ?_⟩
    rw [e2, zclm (by omega), k 445 (by decide), k 446 (by decide), h'] at q
    exact absurd (Int32.le_refl _) q
  | some w =>
    obtain ⟨⟨b, h1, h2, h3, h4⟩, h5⟩ := h
    obtain ⟨I', g1, g2⟩ := M_tellsBy_loop (d := d) (J := J) hL hp h5.2 w.1 (zu I 420 54 0) b h5.1 (by rw [k 446 (by decide)]; exact h2) h3 (zmlw_same (fun a _ _ => k a (by omega)) _ _ _ h4) zu_eq
    rw [k 455 (by decide)] at g1
    refine ⟨I', BX12_tellsBy_0 _ hL (fun I1 e1 => ⟨zvin hp (by decide), fun y2 e2 => ?_⟩), (zfm.fld (by decide)).tr g2⟩
    subst e1
    rw [zclm (by omega), k 445 (by decide), h1] at e2
    rw [e2]; exact g1
end

/-! the law: what is tied from call to call, a call on both sides -/
def zAll (Z : zZ) (I : zI) (J : zJ) (b : Nat) (xs : Nat → Int32) (L : Nat) : Prop := (∃ (t u v : Nat) (τ : Nat → Nat → Nat) (Λ : Nat → Option zLaw) (ρ : Nat → Nat) (n nx : Nat) (hs : Nat → Nat → Nat) (sl : Nat → Option (Nat → Nat)) (kt : Nat) (A : Nat → Nat × Nat × Bool), zFul Z I t u v τ Λ b ρ n nx hs sl kt A) ∧ (zKc J ∧ zKm J) ∧ I 1000000 = xs ∧ zro Z 1000000 L ∧ Z.1 ≤ 600000 ∧ Z.2.1 ≤ 7302250
abbrev zlwl (i : Nat) : zL := [some (.ref 1000000), some (.ref 0), some (.ref 420), some (.int (nI i))]
section
variable {nm : String} {L b i : Nat} {xs : Nat → Int32} {Z : zZ} {I : zI} {J : zJ} {o : zO} {t u v n nx kt : Nat} {τ : Nat → Nat → Nat} {Λ : Nat → Option zLaw} {ρ : Nat → Nat} {hs : Nat → Nat → Nat} {sl : Nat → Option (Nat → Nat)} {A : Nat → Nat × Nat × Bool}
/-- what a call on both sides gives -/
abbrev zStp (kc km : zK) (lc lm : zL) (Z : zZ) (I : zI) (J : zJ) (b : Nat) (xs : Nat → Int32) (L : Nat) : Prop := ∃ (r : Int32) (Z1 : zZ) (I1 : zI) (J1 : zJ) (I2 : zI) (J2 : zJ), zE 10 kc 0 lc [] Z I J (some (.int r), Z1, I1, J1) ∧ zE 10 km 0 lm [] Z1 I1 J1 (some (.int r), Z1, I2, J2) ∧ zAll Z1 I2 J2 (b + 2000) xs L ∧ I1 1000000 = xs ∧ zro Z1 1000000 L ∧ zis Z1 420 0 12
theorem zStp_of {kc km : zK} {lc lm : zL} (h : zFul Z I t u v τ Λ b ρ n nx hs sl kt A) (H : zAll Z I J b xs L) (q : zX kc km lc lm Z I J t u v τ Λ b) : zStp kc km lc lm Z I J b xs L := by
  obtain ⟨r, I1, I2, q1, q2, ρ', n', nx', hs', sl', kt', A', q3⟩ := q
  obtain ⟨-, H2, H3, H4, H5⟩ := H
  have e1 : I1 1000000 = xs := (zE_ro q1 1000000 (Nat.le_refl _)).trans H3
  have e2 : I2 1000000 = xs := (zE_ro q2 1000000 (Nat.le_refl _)).trans e1
  exact ⟨r, Z, I1, J, I2, J, q1, q2, ⟨⟨t, u, v, τ, Λ, ρ', n', nx', hs', sl', kt', A', q3⟩, H2, e2, H4, H5⟩, e1, H4, ly_a420 h.1.L⟩
theorem zStp_read (h : zFul Z I t u v τ Λ b ρ n nx hs sl kt A) (H : zAll Z I J b xs L) (hb : b + 2000 < 500000000) : zStp kX11_read kX12_read [some (.ref 0), none, none] [some (.ref 420), none] Z I J b xs L := by
  obtain ⟨-, ⟨H2, H2'⟩, H3, H4, H5, H6⟩ := H
  obtain ⟨r, Z1, I1, I2, J1, J2, q1, q2, q3, ⟨z1, z2, z3⟩, q4⟩ := X_read h hb H2 H2'
  have e1 : I1 1000000 = xs := (zE_ro q1 1000000 (Nat.le_refl _)).trans H3
  have e2 : I2 1000000 = xs := (zE_ro q2 1000000 (Nat.le_refl _)).trans e1
  have ro : zro Z1 1000000 L := ⟨H4.1, H4.2.1, by rw [z3]; exact H4.2.2⟩
  have i420 := ly_a420 h.1.L
  exact ⟨r, Z1, I1, J1, I2, J2, q1, q2, ⟨q4, q3, e2, ro, by rw [z1]; exact H5, by rw [z2]; exact H6⟩, e1, ro, ⟨by rw [z1]; exact i420.1, i420.2.1, by rw [z3]; exact i420.2.2⟩⟩
theorem L_arg {pc kk : Nat} {ki : Int} {st : List Value} (hki : Int32.ofInt ki = nI kk) (h0 : decode code pc = .ok (.aload_n 0, 1)) (h1 : decode code (pc + 1) = .ok (.iload_n 3, 1)) (h2 : decode code (pc + 2) = .ok (.iconst ki, 1)) (h3 : decode code (pc + 3) = .ok (.iadd, 1)) (h4 : decode code (pc + 4) = .ok (.iaload, 1)) (hro : zro Z 1000000 L) (hL : L ≤ 3072) (eI : I 1000000 = xs) (hk : i + kk < L) (h5 : zE 11 (kL nm) (pc + 5) (zlwl i) (.int (xs (i + kk)) :: st) Z I J o) : zE 11 (kL nm) pc (zlwl i) st Z I J o := by
  refine ex_step (pc' := pc + 1) h0 rfl ?_
  refine ex_step (pc' := pc + 2) h1 rfl ?_
  refine ex_step (pc' := pc + 3) h2 rfl ?_
  rw [hki]
  refine ex_step (pc' := pc + 4) (st' := .int (nI i + nI kk) :: .ref 1000000 :: st) h3 rfl ?_
  rw [zadd]
  refine ex_iald h4 (Or.inr hro) (zvin hk (by omega)) ?_
  rw [zclm (show i + kk < 2147483648 by omega), eI]
  exact h5
theorem L_feed (H : zAll Z I J b xs L) (hb : b + 2000 < 500000000) (hL : L ≤ 3072) (hi : i + 6 ≤ L) : ∃ (Z1 : zZ) (I2 : zI) (J2 : zJ), zAll Z1 I2 J2 (b + 2000) xs L ∧ ∀ o, zE 11 (kL nm) 1375 (zlwl i) [] Z1 I2 J2 o → zE 11 (kL nm) 220 (zlwl i) [] Z I J o := by
  obtain ⟨⟨t, u, v, τ, Λ, ρ, n, nx0, hs, sl, kt, A, hF⟩, -, eI, hro, -⟩ := id H
  obtain ⟨r, Z1, I1, J1, I2, J2, hc, hm, H2, e1, ro1, w1⟩ := zStp_of hF H (X_feed hF hb (xs (i + 1)) (xs (i + 2)) (xs (i + 3)) (xs (i + 4)) (xs (i + 5)))
  refine ⟨Z1, I2, J2, H2, fun o hend => ?_⟩
  refine ex_step (pc' := 221) dL_law_220 rfl ?_
  refine L_arg (kk := 1) (ki := 1) rfl dL_law_221 dL_law_222 dL_law_223 dL_law_224 dL_law_225 hro hL eI (by omega) ?_
  refine L_arg (kk := 2) (ki := 2) rfl dL_law_226 dL_law_227 dL_law_228 dL_law_229 dL_law_230 hro hL eI (by omega) ?_
  refine L_arg (kk := 3) (ki := 3) rfl dL_law_231 dL_law_232 dL_law_233 dL_law_234 dL_law_235 hro hL eI (by omega) ?_
  refine L_arg (kk := 4) (ki := 4) rfl dL_law_236 dL_law_237 dL_law_238 dL_law_239 dL_law_240 hro hL eI (by omega) ?_
  refine L_arg (kk := 5) (ki := 5) rfl dL_law_241 dL_law_242 dL_law_243 dL_law_244 dL_law_245 hro hL eI (by omega) ?_
  refine ex_callV (as := [.int (xs (i + 1)), .int (xs (i + 2)), .int (xs (i + 3)), .int (xs (i + 4)), .int (xs (i + 5))]) (st := []) (ci := 11) dL_law_246 zmX11_feed zl_RL_13 ziX11_feed zvX11_feed (by decide) (ly_a0 hF.1.L) rfl (Nat.le_of_ble_eq_true rfl) (Nat.le_of_ble_eq_true rfl) hc ?_
  refine ex_step (pc' := 250) dL_law_249 rfl ?_
  refine L_arg (kk := 1) (ki := 1) rfl dL_law_250 dL_law_251 dL_law_252 dL_law_253 dL_law_254 ro1 hL e1 (by omega) ?_
  refine L_arg (kk := 2) (ki := 2) rfl dL_law_255 dL_law_256 dL_law_257 dL_law_258 dL_law_259 ro1 hL e1 (by omega) ?_
  refine L_arg (kk := 3) (ki := 3) rfl dL_law_260 dL_law_261 dL_law_262 dL_law_263 dL_law_264 ro1 hL e1 (by omega) ?_
  refine L_arg (kk := 4) (ki := 4) rfl dL_law_265 dL_law_266 dL_law_267 dL_law_268 dL_law_269 ro1 hL e1 (by omega) ?_
  refine L_arg (kk := 5) (ki := 5) rfl dL_law_270 dL_law_271 dL_law_272 dL_law_273 dL_law_274 ro1 hL e1 (by omega) ?_
  refine ex_callV (as := [.int (xs (i + 1)), .int (xs (i + 2)), .int (xs (i + 3)), .int (xs (i + 4)), .int (xs (i + 5))]) (st := [.int r]) (ci := 12) dL_law_275 zmX12_feed zl_RL_17 ziX12_feed zvX12_feed (by decide) w1 rfl (Nat.le_of_ble_eq_true rfl) (Nat.le_of_ble_eq_true rfl) hm ?_
  exact ex_icmp (pc' := 1375) dL_law_278 (by decide) (fun _ => hend) (fun c => absurd rfl c)
theorem L_back (H : zAll Z I J b xs L) (hb : b + 2000 < 500000000) (hL : L ≤ 3072) (hi : i + 6 ≤ L) : ∃ (Z1 : zZ) (I2 : zI) (J2 : zJ), zAll Z1 I2 J2 (b + 2000) xs L ∧ ∀ o, zE 11 (kL nm) 1375 (zlwl i) [] Z1 I2 J2 o → zE 11 (kL nm) 283 (zlwl i) [] Z I J o := by
  obtain ⟨⟨t, u, v, τ, Λ, ρ, n, nx0, hs, sl, kt, A, hF⟩, -, eI, hro, -⟩ := id H
  obtain ⟨r, Z1, I1, J1, I2, J2, hc, hm, H2, e1, ro1, w1⟩ := zStp_of hF H (X_back hF hb (xs (i + 1)))
  refine ⟨Z1, I2, J2, H2, fun o hend => ?_⟩
  refine ex_step (pc' := 284) dL_law_283 rfl ?_
  refine L_arg (kk := 1) (ki := 1) rfl dL_law_284 dL_law_285 dL_law_286 dL_law_287 dL_law_288 hro hL eI (by omega) ?_
  refine ex_callV (as := [.int (xs (i + 1))]) (st := []) (ci := 11) dL_law_289 zmX11_back zl_RL_18 ziX11_back zvX11_back (by decide) (ly_a0 hF.1.L) rfl (Nat.le_of_ble_eq_true rfl) (Nat.le_of_ble_eq_true rfl) hc ?_
  refine ex_step (pc' := 293) dL_law_292 rfl ?_
  refine L_arg (kk := 1) (ki := 1) rfl dL_law_293 dL_law_294 dL_law_295 dL_law_296 dL_law_297 ro1 hL e1 (by omega) ?_
  refine ex_callV (as := [.int (xs (i + 1))]) (st := [.int r]) (ci := 12) dL_law_298 zmX12_back zl_RL_22 ziX12_back zvX12_back (by decide) w1 rfl (Nat.le_of_ble_eq_true rfl) (Nat.le_of_ble_eq_true rfl) hm ?_
  exact ex_icmp (pc' := 1375) dL_law_301 (by decide) (fun _ => hend) (fun c => absurd rfl c)
theorem L_read (H : zAll Z I J b xs L) (hb : b + 2000 < 500000000) (hL : L ≤ 3072) (hi : i + 6 ≤ L) : ∃ (Z1 : zZ) (I2 : zI) (J2 : zJ), zAll Z1 I2 J2 (b + 2000) xs L ∧ ∀ o, zE 11 (kL nm) 1375 (zlwl i) [] Z1 I2 J2 o → zE 11 (kL nm) 306 (zlwl i) [] Z I J o := by
  obtain ⟨⟨t, u, v, τ, Λ, ρ, n, nx0, hs, sl, kt, A, hF⟩, -, eI, hro, -⟩ := id H
  obtain ⟨r, Z1, I1, J1, I2, J2, hc, hm, H2, e1, ro1, w1⟩ := zStp_read hF H hb
  refine ⟨Z1, I2, J2, H2, fun o hend => ?_⟩
  refine ex_step (pc' := 307) dL_law_306 rfl ?_
  refine ex_callV (as := []) (st := []) (ci := 11) dL_law_307 zmX11_read zl_RL_23 ziX11_read zvX11_read (by decide) (ly_a0 hF.1.L) rfl (Nat.le_of_ble_eq_true rfl) (Nat.le_of_ble_eq_true rfl) hc ?_
  refine ex_step (pc' := 311) dL_law_310 rfl ?_
  refine ex_callV (as := []) (st := [.int r]) (ci := 12) dL_law_311 zmX12_read zl_RL_27 ziX12_read zvX12_read (by decide) w1 rfl (Nat.le_of_ble_eq_true rfl) (Nat.le_of_ble_eq_true rfl) hm ?_
  exact ex_icmp (pc' := 1375) dL_law_314 (by decide) (fun _ => hend) (fun c => absurd rfl c)
theorem L_place (H : zAll Z I J b xs L) (hb : b + 2000 < 500000000) (hL : L ≤ 3072) (hi : i + 6 ≤ L) : ∃ (Z1 : zZ) (I2 : zI) (J2 : zJ), zAll Z1 I2 J2 (b + 2000) xs L ∧ ∀ o, zE 11 (kL nm) 1375 (zlwl i) [] Z1 I2 J2 o → zE 11 (kL nm) 319 (zlwl i) [] Z I J o := by
  obtain ⟨⟨t, u, v, τ, Λ, ρ, n, nx0, hs, sl, kt, A, hF⟩, -, eI, hro, -⟩ := id H
  obtain ⟨r, Z1, I1, J1, I2, J2, hc, hm, H2, e1, ro1, w1⟩ := zStp_of hF H (X_place hF hb)
  refine ⟨Z1, I2, J2, H2, fun o hend => ?_⟩
  refine ex_step (pc' := 320) dL_law_319 rfl ?_
  refine ex_callV (as := []) (st := []) (ci := 11) dL_law_320 zmX11_place zl_RL_28 ziX11_place zvX11_place (by decide) (ly_a0 hF.1.L) rfl (Nat.le_of_ble_eq_true rfl) (Nat.le_of_ble_eq_true rfl) hc ?_
  refine ex_step (pc' := 324) dL_law_323 rfl ?_
  refine ex_callV (as := []) (st := [.int r]) (ci := 12) dL_law_324 zmX12_place zl_RL_31 ziX12_place zvX12_place (by decide) w1 rfl (Nat.le_of_ble_eq_true rfl) (Nat.le_of_ble_eq_true rfl) hm ?_
  exact ex_icmp (pc' := 1375) dL_law_327 (by decide) (fun _ => hend) (fun c => absurd rfl c)
theorem L_man (H : zAll Z I J b xs L) (hb : b + 2000 < 500000000) (hL : L ≤ 3072) (hi : i + 6 ≤ L) : ∃ (Z1 : zZ) (I2 : zI) (J2 : zJ), zAll Z1 I2 J2 (b + 2000) xs L ∧ ∀ o, zE 11 (kL nm) 1375 (zlwl i) [] Z1 I2 J2 o → zE 11 (kL nm) 332 (zlwl i) [] Z I J o := by
  obtain ⟨⟨t, u, v, τ, Λ, ρ, n, nx0, hs, sl, kt, A, hF⟩, -, eI, hro, -⟩ := id H
  obtain ⟨r, Z1, I1, J1, I2, J2, hc, hm, H2, e1, ro1, w1⟩ := zStp_of hF H (zX.q hF hb (Q_man hF.1 (xs (i + 1)) (xs (i + 2))))
  refine ⟨Z1, I2, J2, H2, fun o hend => ?_⟩
  refine ex_step (pc' := 333) dL_law_332 rfl ?_
  refine L_arg (kk := 1) (ki := 1) rfl dL_law_333 dL_law_334 dL_law_335 dL_law_336 dL_law_337 hro hL eI (by omega) ?_
  refine L_arg (kk := 2) (ki := 2) rfl dL_law_338 dL_law_339 dL_law_340 dL_law_341 dL_law_342 hro hL eI (by omega) ?_
  refine ex_callV (as := [.int (xs (i + 1)), .int (xs (i + 2))]) (st := []) (ci := 11) dL_law_343 zmX11_man zl_RL_32 ziX11_man zvX11_man (by decide) (ly_a0 hF.1.L) rfl (Nat.le_of_ble_eq_true rfl) (Nat.le_of_ble_eq_true rfl) hc ?_
  refine ex_step (pc' := 347) dL_law_346 rfl ?_
  refine L_arg (kk := 1) (ki := 1) rfl dL_law_347 dL_law_348 dL_law_349 dL_law_350 dL_law_351 ro1 hL e1 (by omega) ?_
  refine L_arg (kk := 2) (ki := 2) rfl dL_law_352 dL_law_353 dL_law_354 dL_law_355 dL_law_356 ro1 hL e1 (by omega) ?_
  refine ex_callV (as := [.int (xs (i + 1)), .int (xs (i + 2))]) (st := [.int r]) (ci := 12) dL_law_357 zmX12_man zl_RL_36 ziX12_man zvX12_man (by decide) w1 rfl (Nat.le_of_ble_eq_true rfl) (Nat.le_of_ble_eq_true rfl) hm ?_
  exact ex_icmp (pc' := 1375) dL_law_360 (by decide) (fun _ => hend) (fun c => absurd rfl c)
theorem L_piece (H : zAll Z I J b xs L) (hb : b + 2000 < 500000000) (hL : L ≤ 3072) (hi : i + 6 ≤ L) : ∃ (Z1 : zZ) (I2 : zI) (J2 : zJ), zAll Z1 I2 J2 (b + 2000) xs L ∧ ∀ o, zE 11 (kL nm) 1375 (zlwl i) [] Z1 I2 J2 o → zE 11 (kL nm) 365 (zlwl i) [] Z I J o := by
  obtain ⟨⟨t, u, v, τ, Λ, ρ, n, nx0, hs, sl, kt, A, hF⟩, -, eI, hro, -⟩ := id H
  obtain ⟨r, Z1, I1, J1, I2, J2, hc, hm, H2, e1, ro1, w1⟩ := zStp_of hF H (zX.q hF hb (Q_piece hF.1 (xs (i + 1)) (xs (i + 2)) (xs (i + 3))))
  refine ⟨Z1, I2, J2, H2, fun o hend => ?_⟩
  refine ex_step (pc' := 366) dL_law_365 rfl ?_
  refine L_arg (kk := 1) (ki := 1) rfl dL_law_366 dL_law_367 dL_law_368 dL_law_369 dL_law_370 hro hL eI (by omega) ?_
  refine L_arg (kk := 2) (ki := 2) rfl dL_law_371 dL_law_372 dL_law_373 dL_law_374 dL_law_375 hro hL eI (by omega) ?_
  refine L_arg (kk := 3) (ki := 3) rfl dL_law_376 dL_law_377 dL_law_378 dL_law_379 dL_law_380 hro hL eI (by omega) ?_
  refine ex_callV (as := [.int (xs (i + 1)), .int (xs (i + 2)), .int (xs (i + 3))]) (st := []) (ci := 11) dL_law_381 zmX11_piece zl_RL_37 ziX11_piece zvX11_piece (by decide) (ly_a0 hF.1.L) rfl (Nat.le_of_ble_eq_true rfl) (Nat.le_of_ble_eq_true rfl) hc ?_
  refine ex_step (pc' := 385) dL_law_384 rfl ?_
  refine L_arg (kk := 1) (ki := 1) rfl dL_law_385 dL_law_386 dL_law_387 dL_law_388 dL_law_389 ro1 hL e1 (by omega) ?_
  refine L_arg (kk := 2) (ki := 2) rfl dL_law_390 dL_law_391 dL_law_392 dL_law_393 dL_law_394 ro1 hL e1 (by omega) ?_
  refine L_arg (kk := 3) (ki := 3) rfl dL_law_395 dL_law_396 dL_law_397 dL_law_398 dL_law_399 ro1 hL e1 (by omega) ?_
  refine ex_callV (as := [.int (xs (i + 1)), .int (xs (i + 2)), .int (xs (i + 3))]) (st := [.int r]) (ci := 12) dL_law_400 zmX12_piece zl_RL_41 ziX12_piece zvX12_piece (by decide) w1 rfl (Nat.le_of_ble_eq_true rfl) (Nat.le_of_ble_eq_true rfl) hm ?_
  exact ex_icmp (pc' := 1375) dL_law_403 (by decide) (fun _ => hend) (fun c => absurd rfl c)
theorem L_step (H : zAll Z I J b xs L) (hb : b + 2000 < 500000000) (hL : L ≤ 3072) (hi : i + 6 ≤ L) : ∃ (Z1 : zZ) (I2 : zI) (J2 : zJ), zAll Z1 I2 J2 (b + 2000) xs L ∧ ∀ o, zE 11 (kL nm) 1375 (zlwl i) [] Z1 I2 J2 o → zE 11 (kL nm) 408 (zlwl i) [] Z I J o := by
  obtain ⟨⟨t, u, v, τ, Λ, ρ, n, nx0, hs, sl, kt, A, hF⟩, -, eI, hro, -⟩ := id H
  obtain ⟨r, Z1, I1, J1, I2, J2, hc, hm, H2, e1, ro1, w1⟩ := zStp_of hF H (X_step hF hb (xs (i + 1)) (xs (i + 2)))
  refine ⟨Z1, I2, J2, H2, fun o hend => ?_⟩
  refine ex_step (pc' := 409) dL_law_408 rfl ?_
  refine L_arg (kk := 1) (ki := 1) rfl dL_law_409 dL_law_410 dL_law_411 dL_law_412 dL_law_413 hro hL eI (by omega) ?_
  refine L_arg (kk := 2) (ki := 2) rfl dL_law_414 dL_law_415 dL_law_416 dL_law_417 dL_law_418 hro hL eI (by omega) ?_
  refine ex_callV (as := [.int (xs (i + 1)), .int (xs (i + 2))]) (st := []) (ci := 11) dL_law_419 zmX11_step zl_RL_42 ziX11_step zvX11_step (by decide) (ly_a0 hF.1.L) rfl (Nat.le_of_ble_eq_true rfl) (Nat.le_of_ble_eq_true rfl) hc ?_
  refine ex_step (pc' := 423) dL_law_422 rfl ?_
  refine L_arg (kk := 1) (ki := 1) rfl dL_law_423 dL_law_424 dL_law_425 dL_law_426 dL_law_427 ro1 hL e1 (by omega) ?_
  refine L_arg (kk := 2) (ki := 2) rfl dL_law_428 dL_law_429 dL_law_430 dL_law_431 dL_law_432 ro1 hL e1 (by omega) ?_
  refine ex_callV (as := [.int (xs (i + 1)), .int (xs (i + 2))]) (st := [.int r]) (ci := 12) dL_law_433 zmX12_step zl_RL_46 ziX12_step zvX12_step (by decide) w1 rfl (Nat.le_of_ble_eq_true rfl) (Nat.le_of_ble_eq_true rfl) hm ?_
  exact ex_icmp (pc' := 1375) dL_law_436 (by decide) (fun _ => hend) (fun c => absurd rfl c)
theorem L_wind (H : zAll Z I J b xs L) (hb : b + 2000 < 500000000) (hL : L ≤ 3072) (hi : i + 6 ≤ L) : ∃ (Z1 : zZ) (I2 : zI) (J2 : zJ), zAll Z1 I2 J2 (b + 2000) xs L ∧ ∀ o, zE 11 (kL nm) 1375 (zlwl i) [] Z1 I2 J2 o → zE 11 (kL nm) 441 (zlwl i) [] Z I J o := by
  obtain ⟨⟨t, u, v, τ, Λ, ρ, n, nx0, hs, sl, kt, A, hF⟩, -, eI, hro, -⟩ := id H
  obtain ⟨r, Z1, I1, J1, I2, J2, hc, hm, H2, e1, ro1, w1⟩ := zStp_of hF H (X_wind hF hb (xs (i + 1)))
  refine ⟨Z1, I2, J2, H2, fun o hend => ?_⟩
  refine ex_step (pc' := 442) dL_law_441 rfl ?_
  refine L_arg (kk := 1) (ki := 1) rfl dL_law_442 dL_law_443 dL_law_444 dL_law_445 dL_law_446 hro hL eI (by omega) ?_
  refine ex_callV (as := [.int (xs (i + 1))]) (st := []) (ci := 11) dL_law_447 zmX11_wind zl_RL_47 ziX11_wind zvX11_wind (by decide) (ly_a0 hF.1.L) rfl (Nat.le_of_ble_eq_true rfl) (Nat.le_of_ble_eq_true rfl) hc ?_
  refine ex_step (pc' := 451) dL_law_450 rfl ?_
  refine L_arg (kk := 1) (ki := 1) rfl dL_law_451 dL_law_452 dL_law_453 dL_law_454 dL_law_455 ro1 hL e1 (by omega) ?_
  refine ex_callV (as := [.int (xs (i + 1))]) (st := [.int r]) (ci := 12) dL_law_456 zmX12_wind zl_RL_51 ziX12_wind zvX12_wind (by decide) w1 rfl (Nat.le_of_ble_eq_true rfl) (Nat.le_of_ble_eq_true rfl) hm ?_
  exact ex_icmp (pc' := 1375) dL_law_459 (by decide) (fun _ => hend) (fun c => absurd rfl c)
theorem L_home (H : zAll Z I J b xs L) (hb : b + 2000 < 500000000) (hL : L ≤ 3072) (hi : i + 6 ≤ L) : ∃ (Z1 : zZ) (I2 : zI) (J2 : zJ), zAll Z1 I2 J2 (b + 2000) xs L ∧ ∀ o, zE 11 (kL nm) 1375 (zlwl i) [] Z1 I2 J2 o → zE 11 (kL nm) 464 (zlwl i) [] Z I J o := by
  obtain ⟨⟨t, u, v, τ, Λ, ρ, n, nx0, hs, sl, kt, A, hF⟩, -, eI, hro, -⟩ := id H
  obtain ⟨r, Z1, I1, J1, I2, J2, hc, hm, H2, e1, ro1, w1⟩ := zStp_of hF H (X_home hF hb (xs (i + 1)))
  refine ⟨Z1, I2, J2, H2, fun o hend => ?_⟩
  refine ex_step (pc' := 465) dL_law_464 rfl ?_
  refine L_arg (kk := 1) (ki := 1) rfl dL_law_465 dL_law_466 dL_law_467 dL_law_468 dL_law_469 hro hL eI (by omega) ?_
  refine ex_callV (as := [.int (xs (i + 1))]) (st := []) (ci := 11) dL_law_470 zmX11_home zl_RL_52 ziX11_home zvX11_home (by decide) (ly_a0 hF.1.L) rfl (Nat.le_of_ble_eq_true rfl) (Nat.le_of_ble_eq_true rfl) hc ?_
  refine ex_step (pc' := 474) dL_law_473 rfl ?_
  refine L_arg (kk := 1) (ki := 1) rfl dL_law_474 dL_law_475 dL_law_476 dL_law_477 dL_law_478 ro1 hL e1 (by omega) ?_
  refine ex_callV (as := [.int (xs (i + 1))]) (st := [.int r]) (ci := 12) dL_law_479 zmX12_home zl_RL_55 ziX12_home zvX12_home (by decide) w1 rfl (Nat.le_of_ble_eq_true rfl) (Nat.le_of_ble_eq_true rfl) hm ?_
  exact ex_icmp (pc' := 1375) dL_law_482 (by decide) (fun _ => hend) (fun c => absurd rfl c)
theorem L_cut (H : zAll Z I J b xs L) (hb : b + 2000 < 500000000) (hL : L ≤ 3072) (hi : i + 6 ≤ L) : ∃ (Z1 : zZ) (I2 : zI) (J2 : zJ), zAll Z1 I2 J2 (b + 2000) xs L ∧ ∀ o, zE 11 (kL nm) 1375 (zlwl i) [] Z1 I2 J2 o → zE 11 (kL nm) 487 (zlwl i) [] Z I J o := by
  obtain ⟨⟨t, u, v, τ, Λ, ρ, n, nx0, hs, sl, kt, A, hF⟩, -, eI, hro, -⟩ := id H
  obtain ⟨r, Z1, I1, J1, I2, J2, hc, hm, H2, e1, ro1, w1⟩ := zStp_of hF H (X_cut hF hb (xs (i + 1)))
  refine ⟨Z1, I2, J2, H2, fun o hend => ?_⟩
  refine ex_step (pc' := 488) dL_law_487 rfl ?_
  refine L_arg (kk := 1) (ki := 1) rfl dL_law_488 dL_law_489 dL_law_490 dL_law_491 dL_law_492 hro hL eI (by omega) ?_
  refine ex_callV (as := [.int (xs (i + 1))]) (st := []) (ci := 11) dL_law_493 zmX11_cut zl_RL_56 ziX11_cut zvX11_cut (by decide) (ly_a0 hF.1.L) rfl (Nat.le_of_ble_eq_true rfl) (Nat.le_of_ble_eq_true rfl) hc ?_
  refine ex_step (pc' := 497) dL_law_496 rfl ?_
  refine L_arg (kk := 1) (ki := 1) rfl dL_law_497 dL_law_498 dL_law_499 dL_law_500 dL_law_501 ro1 hL e1 (by omega) ?_
  refine ex_callV (as := [.int (xs (i + 1))]) (st := [.int r]) (ci := 12) dL_law_502 zmX12_cut zl_RL_59 ziX12_cut zvX12_cut (by decide) w1 rfl (Nat.le_of_ble_eq_true rfl) (Nat.le_of_ble_eq_true rfl) hm ?_
  exact ex_icmp (pc' := 1375) dL_law_505 (by decide) (fun _ => hend) (fun c => absurd rfl c)
theorem L_run (H : zAll Z I J b xs L) (hb : b + 2000 < 500000000) (hL : L ≤ 3072) (hi : i + 6 ≤ L) : ∃ (Z1 : zZ) (I2 : zI) (J2 : zJ), zAll Z1 I2 J2 (b + 2000) xs L ∧ ∀ o, zE 11 (kL nm) 1375 (zlwl i) [] Z1 I2 J2 o → zE 11 (kL nm) 510 (zlwl i) [] Z I J o := by
  obtain ⟨⟨t, u, v, τ, Λ, ρ, n, nx0, hs, sl, kt, A, hF⟩, -, eI, hro, -⟩ := id H
  obtain ⟨r, Z1, I1, J1, I2, J2, hc, hm, H2, e1, ro1, w1⟩ := zStp_of hF H (X_run hF hb (xs (i + 1)))
  refine ⟨Z1, I2, J2, H2, fun o hend => ?_⟩
  refine ex_step (pc' := 511) dL_law_510 rfl ?_
  refine L_arg (kk := 1) (ki := 1) rfl dL_law_511 dL_law_512 dL_law_513 dL_law_514 dL_law_515 hro hL eI (by omega) ?_
  refine ex_callV (as := [.int (xs (i + 1))]) (st := []) (ci := 11) dL_law_516 zmX11_run zl_RL_60 ziX11_run zvX11_run (by decide) (ly_a0 hF.1.L) rfl (Nat.le_of_ble_eq_true rfl) (Nat.le_of_ble_eq_true rfl) hc ?_
  refine ex_step (pc' := 520) dL_law_519 rfl ?_
  refine L_arg (kk := 1) (ki := 1) rfl dL_law_520 dL_law_521 dL_law_522 dL_law_523 dL_law_524 ro1 hL e1 (by omega) ?_
  refine ex_callV (as := [.int (xs (i + 1))]) (st := [.int r]) (ci := 12) dL_law_525 zmX12_run zl_RL_63 ziX12_run zvX12_run (by decide) w1 rfl (Nat.le_of_ble_eq_true rfl) (Nat.le_of_ble_eq_true rfl) hm ?_
  exact ex_icmp (pc' := 1375) dL_law_528 (by decide) (fun _ => hend) (fun c => absurd rfl c)
theorem L_undo (H : zAll Z I J b xs L) (hb : b + 2000 < 500000000) (hL : L ≤ 3072) (hi : i + 6 ≤ L) : ∃ (Z1 : zZ) (I2 : zI) (J2 : zJ), zAll Z1 I2 J2 (b + 2000) xs L ∧ ∀ o, zE 11 (kL nm) 1375 (zlwl i) [] Z1 I2 J2 o → zE 11 (kL nm) 533 (zlwl i) [] Z I J o := by
  obtain ⟨⟨t, u, v, τ, Λ, ρ, n, nx0, hs, sl, kt, A, hF⟩, -, eI, hro, -⟩ := id H
  obtain ⟨r, Z1, I1, J1, I2, J2, hc, hm, H2, e1, ro1, w1⟩ := zStp_of hF H (X_undo hF hb)
  refine ⟨Z1, I2, J2, H2, fun o hend => ?_⟩
  refine ex_step (pc' := 534) dL_law_533 rfl ?_
  refine ex_callV (as := []) (st := []) (ci := 11) dL_law_534 zmX11_undo zl_RL_64 ziX11_undo zvX11_undo (by decide) (ly_a0 hF.1.L) rfl (Nat.le_of_ble_eq_true rfl) (Nat.le_of_ble_eq_true rfl) hc ?_
  refine ex_step (pc' := 538) dL_law_537 rfl ?_
  refine ex_callV (as := []) (st := [.int r]) (ci := 12) dL_law_538 zmX12_undo zl_RL_68 ziX12_undo zvX12_undo (by decide) w1 rfl (Nat.le_of_ble_eq_true rfl) (Nat.le_of_ble_eq_true rfl) hm ?_
  exact ex_icmp (pc' := 1375) dL_law_541 (by decide) (fun _ => hend) (fun c => absurd rfl c)
theorem L_over (H : zAll Z I J b xs L) (hb : b + 2000 < 500000000) (hL : L ≤ 3072) (hi : i + 6 ≤ L) : ∃ (Z1 : zZ) (I2 : zI) (J2 : zJ), zAll Z1 I2 J2 (b + 2000) xs L ∧ ∀ o, zE 11 (kL nm) 1375 (zlwl i) [] Z1 I2 J2 o → zE 11 (kL nm) 546 (zlwl i) [] Z I J o := by
  obtain ⟨⟨t, u, v, τ, Λ, ρ, n, nx0, hs, sl, kt, A, hF⟩, -, eI, hro, -⟩ := id H
  obtain ⟨r, Z1, I1, J1, I2, J2, hc, hm, H2, e1, ro1, w1⟩ := zStp_of hF H (zX.q hF hb (Q_over hF.1 (xs (i + 1)) (xs (i + 2))))
  refine ⟨Z1, I2, J2, H2, fun o hend => ?_⟩
  refine ex_step (pc' := 547) dL_law_546 rfl ?_
  refine L_arg (kk := 1) (ki := 1) rfl dL_law_547 dL_law_548 dL_law_549 dL_law_550 dL_law_551 hro hL eI (by omega) ?_
  refine L_arg (kk := 2) (ki := 2) rfl dL_law_552 dL_law_553 dL_law_554 dL_law_555 dL_law_556 hro hL eI (by omega) ?_
  refine ex_callV (as := [.int (xs (i + 1)), .int (xs (i + 2))]) (st := []) (ci := 11) dL_law_557 zmX11_over zl_RL_69 ziX11_over zvX11_over (by decide) (ly_a0 hF.1.L) rfl (Nat.le_of_ble_eq_true rfl) (Nat.le_of_ble_eq_true rfl) hc ?_
  refine ex_step (pc' := 561) dL_law_560 rfl ?_
  refine L_arg (kk := 1) (ki := 1) rfl dL_law_561 dL_law_562 dL_law_563 dL_law_564 dL_law_565 ro1 hL e1 (by omega) ?_
  refine L_arg (kk := 2) (ki := 2) rfl dL_law_566 dL_law_567 dL_law_568 dL_law_569 dL_law_570 ro1 hL e1 (by omega) ?_
  refine ex_callV (as := [.int (xs (i + 1)), .int (xs (i + 2))]) (st := [.int r]) (ci := 12) dL_law_571 zmX12_over zl_RL_72 ziX12_over zvX12_over (by decide) w1 rfl (Nat.le_of_ble_eq_true rfl) (Nat.le_of_ble_eq_true rfl) hm ?_
  exact ex_icmp (pc' := 1375) dL_law_574 (by decide) (fun _ => hend) (fun c => absurd rfl c)
theorem L_waits (H : zAll Z I J b xs L) (hb : b + 2000 < 500000000) (hL : L ≤ 3072) (hi : i + 6 ≤ L) : ∃ (Z1 : zZ) (I2 : zI) (J2 : zJ), zAll Z1 I2 J2 (b + 2000) xs L ∧ ∀ o, zE 11 (kL nm) 1375 (zlwl i) [] Z1 I2 J2 o → zE 11 (kL nm) 579 (zlwl i) [] Z I J o := by
  obtain ⟨⟨t, u, v, τ, Λ, ρ, n, nx0, hs, sl, kt, A, hF⟩, -, eI, hro, -⟩ := id H
  obtain ⟨r, Z1, I1, J1, I2, J2, hc, hm, H2, e1, ro1, w1⟩ := zStp_of hF H (zX.q hF hb (Q_waits hF.1 (xs (i + 1))))
  refine ⟨Z1, I2, J2, H2, fun o hend => ?_⟩
  refine ex_step (pc' := 580) dL_law_579 rfl ?_
  refine L_arg (kk := 1) (ki := 1) rfl dL_law_580 dL_law_581 dL_law_582 dL_law_583 dL_law_584 hro hL eI (by omega) ?_
  refine ex_callV (as := [.int (xs (i + 1))]) (st := []) (ci := 11) dL_law_585 zmX11_waits zl_RL_73 ziX11_waits zvX11_waits (by decide) (ly_a0 hF.1.L) rfl (Nat.le_of_ble_eq_true rfl) (Nat.le_of_ble_eq_true rfl) hc ?_
  refine ex_step (pc' := 589) dL_law_588 rfl ?_
  refine L_arg (kk := 1) (ki := 1) rfl dL_law_589 dL_law_590 dL_law_591 dL_law_592 dL_law_593 ro1 hL e1 (by omega) ?_
  refine ex_callV (as := [.int (xs (i + 1))]) (st := [.int r]) (ci := 12) dL_law_594 zmX12_waits zl_RL_76 ziX12_waits zvX12_waits (by decide) w1 rfl (Nat.le_of_ble_eq_true rfl) (Nat.le_of_ble_eq_true rfl) hm ?_
  exact ex_icmp (pc' := 1375) dL_law_597 (by decide) (fun _ => hend) (fun c => absurd rfl c)
theorem L_orders (H : zAll Z I J b xs L) (hb : b + 2000 < 500000000) (hL : L ≤ 3072) (hi : i + 6 ≤ L) : ∃ (Z1 : zZ) (I2 : zI) (J2 : zJ), zAll Z1 I2 J2 (b + 2000) xs L ∧ ∀ o, zE 11 (kL nm) 1375 (zlwl i) [] Z1 I2 J2 o → zE 11 (kL nm) 602 (zlwl i) [] Z I J o := by
  obtain ⟨⟨t, u, v, τ, Λ, ρ, n, nx0, hs, sl, kt, A, hF⟩, -, eI, hro, -⟩ := id H
  obtain ⟨r, Z1, I1, J1, I2, J2, hc, hm, H2, e1, ro1, w1⟩ := zStp_of hF H (zX.q hF hb (Q_orders hF.1))
  refine ⟨Z1, I2, J2, H2, fun o hend => ?_⟩
  refine ex_step (pc' := 603) dL_law_602 rfl ?_
  refine ex_callV (as := []) (st := []) (ci := 11) dL_law_603 zmX11_orders zl_RL_77 ziX11_orders zvX11_orders (by decide) (ly_a0 hF.1.L) rfl (Nat.le_of_ble_eq_true rfl) (Nat.le_of_ble_eq_true rfl) hc ?_
  refine ex_step (pc' := 607) dL_law_606 rfl ?_
  refine ex_callV (as := []) (st := [.int r]) (ci := 12) dL_law_607 zmX12_orders zl_RL_80 ziX12_orders zvX12_orders (by decide) w1 rfl (Nat.le_of_ble_eq_true rfl) (Nat.le_of_ble_eq_true rfl) hm ?_
  exact ex_icmp (pc' := 1375) dL_law_610 (by decide) (fun _ => hend) (fun c => absurd rfl c)
theorem L_orderAt (H : zAll Z I J b xs L) (hb : b + 2000 < 500000000) (hL : L ≤ 3072) (hi : i + 6 ≤ L) : ∃ (Z1 : zZ) (I2 : zI) (J2 : zJ), zAll Z1 I2 J2 (b + 2000) xs L ∧ ∀ o, zE 11 (kL nm) 1375 (zlwl i) [] Z1 I2 J2 o → zE 11 (kL nm) 615 (zlwl i) [] Z I J o := by
  obtain ⟨⟨t, u, v, τ, Λ, ρ, n, nx0, hs, sl, kt, A, hF⟩, -, eI, hro, -⟩ := id H
  obtain ⟨r, Z1, I1, J1, I2, J2, hc, hm, H2, e1, ro1, w1⟩ := zStp_of hF H (zX.q hF hb (Q_orderAt hF.1 (xs (i + 1))))
  refine ⟨Z1, I2, J2, H2, fun o hend => ?_⟩
  refine ex_step (pc' := 616) dL_law_615 rfl ?_
  refine L_arg (kk := 1) (ki := 1) rfl dL_law_616 dL_law_617 dL_law_618 dL_law_619 dL_law_620 hro hL eI (by omega) ?_
  refine ex_callV (as := [.int (xs (i + 1))]) (st := []) (ci := 11) dL_law_621 zmX11_orderAt zl_RL_81 ziX11_orderAt zvX11_orderAt (by decide) (ly_a0 hF.1.L) rfl (Nat.le_of_ble_eq_true rfl) (Nat.le_of_ble_eq_true rfl) hc ?_
  refine ex_step (pc' := 625) dL_law_624 rfl ?_
  refine L_arg (kk := 1) (ki := 1) rfl dL_law_625 dL_law_626 dL_law_627 dL_law_628 dL_law_629 ro1 hL e1 (by omega) ?_
  refine ex_callV (as := [.int (xs (i + 1))]) (st := [.int r]) (ci := 12) dL_law_630 zmX12_orderAt zl_RL_84 ziX12_orderAt zvX12_orderAt (by decide) w1 rfl (Nat.le_of_ble_eq_true rfl) (Nat.le_of_ble_eq_true rfl) hm ?_
  exact ex_icmp (pc' := 1375) dL_law_633 (by decide) (fun _ => hend) (fun c => absurd rfl c)
theorem L_cuts (H : zAll Z I J b xs L) (hb : b + 2000 < 500000000) (hL : L ≤ 3072) (hi : i + 6 ≤ L) : ∃ (Z1 : zZ) (I2 : zI) (J2 : zJ), zAll Z1 I2 J2 (b + 2000) xs L ∧ ∀ o, zE 11 (kL nm) 1375 (zlwl i) [] Z1 I2 J2 o → zE 11 (kL nm) 638 (zlwl i) [] Z I J o := by
  obtain ⟨⟨t, u, v, τ, Λ, ρ, n, nx0, hs, sl, kt, A, hF⟩, -, eI, hro, -⟩ := id H
  obtain ⟨r, Z1, I1, J1, I2, J2, hc, hm, H2, e1, ro1, w1⟩ := zStp_of hF H (zX.q hF hb (Q_cuts hF.1 (xs (i + 1))))
  refine ⟨Z1, I2, J2, H2, fun o hend => ?_⟩
  refine ex_step (pc' := 639) dL_law_638 rfl ?_
  refine L_arg (kk := 1) (ki := 1) rfl dL_law_639 dL_law_640 dL_law_641 dL_law_642 dL_law_643 hro hL eI (by omega) ?_
  refine ex_callV (as := [.int (xs (i + 1))]) (st := []) (ci := 11) dL_law_644 zmX11_cuts zl_RL_85 ziX11_cuts zvX11_cuts (by decide) (ly_a0 hF.1.L) rfl (Nat.le_of_ble_eq_true rfl) (Nat.le_of_ble_eq_true rfl) hc ?_
  refine ex_step (pc' := 648) dL_law_647 rfl ?_
  refine L_arg (kk := 1) (ki := 1) rfl dL_law_648 dL_law_649 dL_law_650 dL_law_651 dL_law_652 ro1 hL e1 (by omega) ?_
  refine ex_callV (as := [.int (xs (i + 1))]) (st := [.int r]) (ci := 12) dL_law_653 zmX12_cuts zl_RL_88 ziX12_cuts zvX12_cuts (by decide) w1 rfl (Nat.le_of_ble_eq_true rfl) (Nat.le_of_ble_eq_true rfl) hm ?_
  exact ex_icmp (pc' := 1375) dL_law_656 (by decide) (fun _ => hend) (fun c => absurd rfl c)
theorem L_way (H : zAll Z I J b xs L) (hb : b + 2000 < 500000000) (hL : L ≤ 3072) (hi : i + 6 ≤ L) : ∃ (Z1 : zZ) (I2 : zI) (J2 : zJ), zAll Z1 I2 J2 (b + 2000) xs L ∧ ∀ o, zE 11 (kL nm) 1375 (zlwl i) [] Z1 I2 J2 o → zE 11 (kL nm) 661 (zlwl i) [] Z I J o := by
  obtain ⟨⟨t, u, v, τ, Λ, ρ, n, nx0, hs, sl, kt, A, hF⟩, -, eI, hro, -⟩ := id H
  obtain ⟨r, Z1, I1, J1, I2, J2, hc, hm, H2, e1, ro1, w1⟩ := zStp_of hF H (zX.q hF hb (Q_way hF.1 (xs (i + 1))))
  refine ⟨Z1, I2, J2, H2, fun o hend => ?_⟩
  refine ex_step (pc' := 662) dL_law_661 rfl ?_
  refine L_arg (kk := 1) (ki := 1) rfl dL_law_662 dL_law_663 dL_law_664 dL_law_665 dL_law_666 hro hL eI (by omega) ?_
  refine ex_callV (as := [.int (xs (i + 1))]) (st := []) (ci := 11) dL_law_667 zmX11_way zl_RL_89 ziX11_way zvX11_way (by decide) (ly_a0 hF.1.L) rfl (Nat.le_of_ble_eq_true rfl) (Nat.le_of_ble_eq_true rfl) hc ?_
  refine ex_step (pc' := 671) dL_law_670 rfl ?_
  refine L_arg (kk := 1) (ki := 1) rfl dL_law_671 dL_law_672 dL_law_673 dL_law_674 dL_law_675 ro1 hL e1 (by omega) ?_
  refine ex_callV (as := [.int (xs (i + 1))]) (st := [.int r]) (ci := 12) dL_law_676 zmX12_way zl_RL_92 ziX12_way zvX12_way (by decide) w1 rfl (Nat.le_of_ble_eq_true rfl) (Nat.le_of_ble_eq_true rfl) hm ?_
  exact ex_icmp (pc' := 1375) dL_law_679 (by decide) (fun _ => hend) (fun c => absurd rfl c)
theorem L_wayAt (H : zAll Z I J b xs L) (hb : b + 2000 < 500000000) (hL : L ≤ 3072) (hi : i + 6 ≤ L) : ∃ (Z1 : zZ) (I2 : zI) (J2 : zJ), zAll Z1 I2 J2 (b + 2000) xs L ∧ ∀ o, zE 11 (kL nm) 1375 (zlwl i) [] Z1 I2 J2 o → zE 11 (kL nm) 684 (zlwl i) [] Z I J o := by
  obtain ⟨⟨t, u, v, τ, Λ, ρ, n, nx0, hs, sl, kt, A, hF⟩, -, eI, hro, -⟩ := id H
  obtain ⟨r, Z1, I1, J1, I2, J2, hc, hm, H2, e1, ro1, w1⟩ := zStp_of hF H (zX.q hF hb (Q_wayAt hF.1 (xs (i + 1)) (xs (i + 2))))
  refine ⟨Z1, I2, J2, H2, fun o hend => ?_⟩
  refine ex_step (pc' := 685) dL_law_684 rfl ?_
  refine L_arg (kk := 1) (ki := 1) rfl dL_law_685 dL_law_686 dL_law_687 dL_law_688 dL_law_689 hro hL eI (by omega) ?_
  refine L_arg (kk := 2) (ki := 2) rfl dL_law_690 dL_law_691 dL_law_692 dL_law_693 dL_law_694 hro hL eI (by omega) ?_
  refine ex_callV (as := [.int (xs (i + 1)), .int (xs (i + 2))]) (st := []) (ci := 11) dL_law_695 zmX11_wayAt zl_RL_93 ziX11_wayAt zvX11_wayAt (by decide) (ly_a0 hF.1.L) rfl (Nat.le_of_ble_eq_true rfl) (Nat.le_of_ble_eq_true rfl) hc ?_
  refine ex_step (pc' := 699) dL_law_698 rfl ?_
  refine L_arg (kk := 1) (ki := 1) rfl dL_law_699 dL_law_700 dL_law_701 dL_law_702 dL_law_703 ro1 hL e1 (by omega) ?_
  refine L_arg (kk := 2) (ki := 2) rfl dL_law_704 dL_law_705 dL_law_706 dL_law_707 dL_law_708 ro1 hL e1 (by omega) ?_
  refine ex_callV (as := [.int (xs (i + 1)), .int (xs (i + 2))]) (st := [.int r]) (ci := 12) dL_law_709 zmX12_wayAt zl_RL_96 ziX12_wayAt zvX12_wayAt (by decide) w1 rfl (Nat.le_of_ble_eq_true rfl) (Nat.le_of_ble_eq_true rfl) hm ?_
  exact ex_icmp (pc' := 1375) dL_law_712 (by decide) (fun _ => hend) (fun c => absurd rfl c)
theorem L_lives (H : zAll Z I J b xs L) (hb : b + 2000 < 500000000) (hL : L ≤ 3072) (hi : i + 6 ≤ L) : ∃ (Z1 : zZ) (I2 : zI) (J2 : zJ), zAll Z1 I2 J2 (b + 2000) xs L ∧ ∀ o, zE 11 (kL nm) 1375 (zlwl i) [] Z1 I2 J2 o → zE 11 (kL nm) 717 (zlwl i) [] Z I J o := by
  obtain ⟨⟨t, u, v, τ, Λ, ρ, n, nx0, hs, sl, kt, A, hF⟩, -, eI, hro, -⟩ := id H
  obtain ⟨r, Z1, I1, J1, I2, J2, hc, hm, H2, e1, ro1, w1⟩ := zStp_of hF H (zX.q hF hb (Q_lives hF.1 (xs (i + 1))))
  refine ⟨Z1, I2, J2, H2, fun o hend => ?_⟩
  refine ex_step (pc' := 718) dL_law_717 rfl ?_
  refine L_arg (kk := 1) (ki := 1) rfl dL_law_718 dL_law_719 dL_law_720 dL_law_721 dL_law_722 hro hL eI (by omega) ?_
  refine ex_callV (as := [.int (xs (i + 1))]) (st := []) (ci := 11) dL_law_723 zmX11_lives zl_RL_97 ziX11_lives zvX11_lives (by decide) (ly_a0 hF.1.L) rfl (Nat.le_of_ble_eq_true rfl) (Nat.le_of_ble_eq_true rfl) hc ?_
  refine ex_step (pc' := 727) dL_law_726 rfl ?_
  refine L_arg (kk := 1) (ki := 1) rfl dL_law_727 dL_law_728 dL_law_729 dL_law_730 dL_law_731 ro1 hL e1 (by omega) ?_
  refine ex_callV (as := [.int (xs (i + 1))]) (st := [.int r]) (ci := 12) dL_law_732 zmX12_lives zl_RL_100 ziX12_lives zvX12_lives (by decide) w1 rfl (Nat.le_of_ble_eq_true rfl) (Nat.le_of_ble_eq_true rfl) hm ?_
  exact ex_icmp (pc' := 1375) dL_law_735 (by decide) (fun _ => hend) (fun c => absurd rfl c)
theorem L_turns (H : zAll Z I J b xs L) (hb : b + 2000 < 500000000) (hL : L ≤ 3072) (hi : i + 6 ≤ L) : ∃ (Z1 : zZ) (I2 : zI) (J2 : zJ), zAll Z1 I2 J2 (b + 2000) xs L ∧ ∀ o, zE 11 (kL nm) 1375 (zlwl i) [] Z1 I2 J2 o → zE 11 (kL nm) 740 (zlwl i) [] Z I J o := by
  obtain ⟨⟨t, u, v, τ, Λ, ρ, n, nx0, hs, sl, kt, A, hF⟩, -, eI, hro, -⟩ := id H
  obtain ⟨r, Z1, I1, J1, I2, J2, hc, hm, H2, e1, ro1, w1⟩ := zStp_of hF H (zX.q hF hb (Q_turns hF.1 (xs (i + 1)) (xs (i + 2))))
  refine ⟨Z1, I2, J2, H2, fun o hend => ?_⟩
  refine ex_step (pc' := 741) dL_law_740 rfl ?_
  refine L_arg (kk := 1) (ki := 1) rfl dL_law_741 dL_law_742 dL_law_743 dL_law_744 dL_law_745 hro hL eI (by omega) ?_
  refine L_arg (kk := 2) (ki := 2) rfl dL_law_746 dL_law_747 dL_law_748 dL_law_749 dL_law_750 hro hL eI (by omega) ?_
  refine ex_callV (as := [.int (xs (i + 1)), .int (xs (i + 2))]) (st := []) (ci := 11) dL_law_751 zmX11_turns zl_RL_101 ziX11_turns zvX11_turns (by decide) (ly_a0 hF.1.L) rfl (Nat.le_of_ble_eq_true rfl) (Nat.le_of_ble_eq_true rfl) hc ?_
  refine ex_step (pc' := 755) dL_law_754 rfl ?_
  refine L_arg (kk := 1) (ki := 1) rfl dL_law_755 dL_law_756 dL_law_757 dL_law_758 dL_law_759 ro1 hL e1 (by omega) ?_
  refine L_arg (kk := 2) (ki := 2) rfl dL_law_760 dL_law_761 dL_law_762 dL_law_763 dL_law_764 ro1 hL e1 (by omega) ?_
  refine ex_callV (as := [.int (xs (i + 1)), .int (xs (i + 2))]) (st := [.int r]) (ci := 12) dL_law_765 zmX12_turns zl_RL_104 ziX12_turns zvX12_turns (by decide) w1 rfl (Nat.le_of_ble_eq_true rfl) (Nat.le_of_ble_eq_true rfl) hm ?_
  exact ex_icmp (pc' := 1375) dL_law_768 (by decide) (fun _ => hend) (fun c => absurd rfl c)
theorem L_meet (H : zAll Z I J b xs L) (hb : b + 2000 < 500000000) (hL : L ≤ 3072) (hi : i + 6 ≤ L) : ∃ (Z1 : zZ) (I2 : zI) (J2 : zJ), zAll Z1 I2 J2 (b + 2000) xs L ∧ ∀ o, zE 11 (kL nm) 1375 (zlwl i) [] Z1 I2 J2 o → zE 11 (kL nm) 773 (zlwl i) [] Z I J o := by
  obtain ⟨⟨t, u, v, τ, Λ, ρ, n, nx0, hs, sl, kt, A, hF⟩, -, eI, hro, -⟩ := id H
  obtain ⟨r, Z1, I1, J1, I2, J2, hc, hm, H2, e1, ro1, w1⟩ := zStp_of hF H (zX.q hF hb (Q_meet hF.1 (xs (i + 1)) (xs (i + 2))))
  refine ⟨Z1, I2, J2, H2, fun o hend => ?_⟩
  refine ex_step (pc' := 774) dL_law_773 rfl ?_
  refine L_arg (kk := 1) (ki := 1) rfl dL_law_774 dL_law_775 dL_law_776 dL_law_777 dL_law_778 hro hL eI (by omega) ?_
  refine L_arg (kk := 2) (ki := 2) rfl dL_law_779 dL_law_780 dL_law_781 dL_law_782 dL_law_783 hro hL eI (by omega) ?_
  refine ex_callV (as := [.int (xs (i + 1)), .int (xs (i + 2))]) (st := []) (ci := 11) dL_law_784 zmX11_meet zl_RL_105 ziX11_meet zvX11_meet (by decide) (ly_a0 hF.1.L) rfl (Nat.le_of_ble_eq_true rfl) (Nat.le_of_ble_eq_true rfl) hc ?_
  refine ex_step (pc' := 788) dL_law_787 rfl ?_
  refine L_arg (kk := 1) (ki := 1) rfl dL_law_788 dL_law_789 dL_law_790 dL_law_791 dL_law_792 ro1 hL e1 (by omega) ?_
  refine L_arg (kk := 2) (ki := 2) rfl dL_law_793 dL_law_794 dL_law_795 dL_law_796 dL_law_797 ro1 hL e1 (by omega) ?_
  refine ex_callV (as := [.int (xs (i + 1)), .int (xs (i + 2))]) (st := [.int r]) (ci := 12) dL_law_798 zmX12_meet zl_RL_108 ziX12_meet zvX12_meet (by decide) w1 rfl (Nat.le_of_ble_eq_true rfl) (Nat.le_of_ble_eq_true rfl) hm ?_
  exact ex_icmp (pc' := 1375) dL_law_801 (by decide) (fun _ => hend) (fun c => absurd rfl c)
theorem L_most (H : zAll Z I J b xs L) (hb : b + 2000 < 500000000) (hL : L ≤ 3072) (hi : i + 6 ≤ L) : ∃ (Z1 : zZ) (I2 : zI) (J2 : zJ), zAll Z1 I2 J2 (b + 2000) xs L ∧ ∀ o, zE 11 (kL nm) 1375 (zlwl i) [] Z1 I2 J2 o → zE 11 (kL nm) 806 (zlwl i) [] Z I J o := by
  obtain ⟨⟨t, u, v, τ, Λ, ρ, n, nx0, hs, sl, kt, A, hF⟩, -, eI, hro, -⟩ := id H
  obtain ⟨r, Z1, I1, J1, I2, J2, hc, hm, H2, e1, ro1, w1⟩ := zStp_of hF H (zX.q hF hb (Q_most hF.1 (xs (i + 1))))
  refine ⟨Z1, I2, J2, H2, fun o hend => ?_⟩
  refine ex_step (pc' := 807) dL_law_806 rfl ?_
  refine L_arg (kk := 1) (ki := 1) rfl dL_law_807 dL_law_808 dL_law_809 dL_law_810 dL_law_811 hro hL eI (by omega) ?_
  refine ex_callV (as := [.int (xs (i + 1))]) (st := []) (ci := 11) dL_law_812 zmX11_most zl_RL_109 ziX11_most zvX11_most (by decide) (ly_a0 hF.1.L) rfl (Nat.le_of_ble_eq_true rfl) (Nat.le_of_ble_eq_true rfl) hc ?_
  refine ex_step (pc' := 816) dL_law_815 rfl ?_
  refine L_arg (kk := 1) (ki := 1) rfl dL_law_816 dL_law_817 dL_law_818 dL_law_819 dL_law_820 ro1 hL e1 (by omega) ?_
  refine ex_callV (as := [.int (xs (i + 1))]) (st := [.int r]) (ci := 12) dL_law_821 zmX12_most zl_RL_112 ziX12_most zvX12_most (by decide) w1 rfl (Nat.le_of_ble_eq_true rfl) (Nat.le_of_ble_eq_true rfl) hm ?_
  exact ex_icmp (pc' := 1375) dL_law_824 (by decide) (fun _ => hend) (fun c => absurd rfl c)
theorem L_street (H : zAll Z I J b xs L) (hb : b + 2000 < 500000000) (hL : L ≤ 3072) (hi : i + 6 ≤ L) : ∃ (Z1 : zZ) (I2 : zI) (J2 : zJ), zAll Z1 I2 J2 (b + 2000) xs L ∧ ∀ o, zE 11 (kL nm) 1375 (zlwl i) [] Z1 I2 J2 o → zE 11 (kL nm) 829 (zlwl i) [] Z I J o := by
  obtain ⟨⟨t, u, v, τ, Λ, ρ, n, nx0, hs, sl, kt, A, hF⟩, -, eI, hro, -⟩ := id H
  obtain ⟨r, Z1, I1, J1, I2, J2, hc, hm, H2, e1, ro1, w1⟩ := zStp_of hF H (zX.q hF hb (Q_street hF.1 (xs (i + 1)) (xs (i + 2)) (xs (i + 3)) (xs (i + 4))))
  refine ⟨Z1, I2, J2, H2, fun o hend => ?_⟩
  refine ex_step (pc' := 830) dL_law_829 rfl ?_
  refine L_arg (kk := 1) (ki := 1) rfl dL_law_830 dL_law_831 dL_law_832 dL_law_833 dL_law_834 hro hL eI (by omega) ?_
  refine L_arg (kk := 2) (ki := 2) rfl dL_law_835 dL_law_836 dL_law_837 dL_law_838 dL_law_839 hro hL eI (by omega) ?_
  refine L_arg (kk := 3) (ki := 3) rfl dL_law_840 dL_law_841 dL_law_842 dL_law_843 dL_law_844 hro hL eI (by omega) ?_
  refine L_arg (kk := 4) (ki := 4) rfl dL_law_845 dL_law_846 dL_law_847 dL_law_848 dL_law_849 hro hL eI (by omega) ?_
  refine ex_callV (as := [.int (xs (i + 1)), .int (xs (i + 2)), .int (xs (i + 3)), .int (xs (i + 4))]) (st := []) (ci := 11) dL_law_850 zmX11_street zl_RL_113 ziX11_street zvX11_street (by decide) (ly_a0 hF.1.L) rfl (Nat.le_of_ble_eq_true rfl) (Nat.le_of_ble_eq_true rfl) hc ?_
  refine ex_step (pc' := 854) dL_law_853 rfl ?_
  refine L_arg (kk := 1) (ki := 1) rfl dL_law_854 dL_law_855 dL_law_856 dL_law_857 dL_law_858 ro1 hL e1 (by omega) ?_
  refine L_arg (kk := 2) (ki := 2) rfl dL_law_859 dL_law_860 dL_law_861 dL_law_862 dL_law_863 ro1 hL e1 (by omega) ?_
  refine L_arg (kk := 3) (ki := 3) rfl dL_law_864 dL_law_865 dL_law_866 dL_law_867 dL_law_868 ro1 hL e1 (by omega) ?_
  refine L_arg (kk := 4) (ki := 4) rfl dL_law_869 dL_law_870 dL_law_871 dL_law_872 dL_law_873 ro1 hL e1 (by omega) ?_
  refine ex_callV (as := [.int (xs (i + 1)), .int (xs (i + 2)), .int (xs (i + 3)), .int (xs (i + 4))]) (st := [.int r]) (ci := 12) dL_law_874 zmX12_street zl_RL_117 ziX12_street zvX12_street (by decide) w1 rfl (Nat.le_of_ble_eq_true rfl) (Nat.le_of_ble_eq_true rfl) hm ?_
  exact ex_icmp (pc' := 1375) dL_law_877 (by decide) (fun _ => hend) (fun c => absurd rfl c)
theorem L_dusk (H : zAll Z I J b xs L) (hb : b + 2000 < 500000000) (hL : L ≤ 3072) (hi : i + 6 ≤ L) : ∃ (Z1 : zZ) (I2 : zI) (J2 : zJ), zAll Z1 I2 J2 (b + 2000) xs L ∧ ∀ o, zE 11 (kL nm) 1375 (zlwl i) [] Z1 I2 J2 o → zE 11 (kL nm) 882 (zlwl i) [] Z I J o := by
  obtain ⟨⟨t, u, v, τ, Λ, ρ, n, nx0, hs, sl, kt, A, hF⟩, -, eI, hro, -⟩ := id H
  obtain ⟨r, Z1, I1, J1, I2, J2, hc, hm, H2, e1, ro1, w1⟩ := zStp_of hF H (zX.q hF hb (Q_dusk hF.1 (xs (i + 1)) (xs (i + 2))))
  refine ⟨Z1, I2, J2, H2, fun o hend => ?_⟩
  refine ex_step (pc' := 883) dL_law_882 rfl ?_
  refine L_arg (kk := 1) (ki := 1) rfl dL_law_883 dL_law_884 dL_law_885 dL_law_886 dL_law_887 hro hL eI (by omega) ?_
  refine L_arg (kk := 2) (ki := 2) rfl dL_law_888 dL_law_889 dL_law_890 dL_law_891 dL_law_892 hro hL eI (by omega) ?_
  refine ex_callV (as := [.int (xs (i + 1)), .int (xs (i + 2))]) (st := []) (ci := 11) dL_law_893 zmX11_dusk zl_RL_118 ziX11_dusk zvX11_dusk (by decide) (ly_a0 hF.1.L) rfl (Nat.le_of_ble_eq_true rfl) (Nat.le_of_ble_eq_true rfl) hc ?_
  refine ex_step (pc' := 897) dL_law_896 rfl ?_
  refine L_arg (kk := 1) (ki := 1) rfl dL_law_897 dL_law_898 dL_law_899 dL_law_900 dL_law_901 ro1 hL e1 (by omega) ?_
  refine L_arg (kk := 2) (ki := 2) rfl dL_law_902 dL_law_903 dL_law_904 dL_law_905 dL_law_906 ro1 hL e1 (by omega) ?_
  refine ex_callV (as := [.int (xs (i + 1)), .int (xs (i + 2))]) (st := [.int r]) (ci := 12) dL_law_907 zmX12_dusk zl_RL_121 ziX12_dusk zvX12_dusk (by decide) w1 rfl (Nat.le_of_ble_eq_true rfl) (Nat.le_of_ble_eq_true rfl) hm ?_
  exact ex_icmp (pc' := 1375) dL_law_910 (by decide) (fun _ => hend) (fun c => absurd rfl c)
theorem L_bestDusk (H : zAll Z I J b xs L) (hb : b + 2000 < 500000000) (hL : L ≤ 3072) (hi : i + 6 ≤ L) : ∃ (Z1 : zZ) (I2 : zI) (J2 : zJ), zAll Z1 I2 J2 (b + 2000) xs L ∧ ∀ o, zE 11 (kL nm) 1375 (zlwl i) [] Z1 I2 J2 o → zE 11 (kL nm) 915 (zlwl i) [] Z I J o := by
  obtain ⟨⟨t, u, v, τ, Λ, ρ, n, nx0, hs, sl, kt, A, hF⟩, -, eI, hro, -⟩ := id H
  obtain ⟨r, Z1, I1, J1, I2, J2, hc, hm, H2, e1, ro1, w1⟩ := zStp_of hF H (zX.q hF hb (Q_bestDusk hF.1))
  refine ⟨Z1, I2, J2, H2, fun o hend => ?_⟩
  refine ex_step (pc' := 916) dL_law_915 rfl ?_
  refine ex_callV (as := []) (st := []) (ci := 11) dL_law_916 zmX11_bestDusk zl_RL_122 ziX11_bestDusk zvX11_bestDusk (by decide) (ly_a0 hF.1.L) rfl (Nat.le_of_ble_eq_true rfl) (Nat.le_of_ble_eq_true rfl) hc ?_
  refine ex_step (pc' := 920) dL_law_919 rfl ?_
  refine ex_callV (as := []) (st := [.int r]) (ci := 12) dL_law_920 zmX12_bestDusk zl_RL_125 ziX12_bestDusk zvX12_bestDusk (by decide) w1 rfl (Nat.le_of_ble_eq_true rfl) (Nat.le_of_ble_eq_true rfl) hm ?_
  exact ex_icmp (pc' := 1375) dL_law_923 (by decide) (fun _ => hend) (fun c => absurd rfl c)
theorem L_shows (H : zAll Z I J b xs L) (hb : b + 2000 < 500000000) (hL : L ≤ 3072) (hi : i + 6 ≤ L) : ∃ (Z1 : zZ) (I2 : zI) (J2 : zJ), zAll Z1 I2 J2 (b + 2000) xs L ∧ ∀ o, zE 11 (kL nm) 1375 (zlwl i) [] Z1 I2 J2 o → zE 11 (kL nm) 928 (zlwl i) [] Z I J o := by
  obtain ⟨⟨t, u, v, τ, Λ, ρ, n, nx0, hs, sl, kt, A, hF⟩, -, eI, hro, -⟩ := id H
  obtain ⟨r, Z1, I1, J1, I2, J2, hc, hm, H2, e1, ro1, w1⟩ := zStp_of hF H (zX.q hF hb (Q_shows hF.1 (xs (i + 1)) (xs (i + 2)) (xs (i + 3))))
  refine ⟨Z1, I2, J2, H2, fun o hend => ?_⟩
  refine ex_step (pc' := 929) dL_law_928 rfl ?_
  refine L_arg (kk := 1) (ki := 1) rfl dL_law_929 dL_law_930 dL_law_931 dL_law_932 dL_law_933 hro hL eI (by omega) ?_
  refine L_arg (kk := 2) (ki := 2) rfl dL_law_934 dL_law_935 dL_law_936 dL_law_937 dL_law_938 hro hL eI (by omega) ?_
  refine L_arg (kk := 3) (ki := 3) rfl dL_law_939 dL_law_940 dL_law_941 dL_law_942 dL_law_943 hro hL eI (by omega) ?_
  refine ex_callV (as := [.int (xs (i + 1)), .int (xs (i + 2)), .int (xs (i + 3))]) (st := []) (ci := 11) dL_law_944 zmX11_shows zl_RL_126 ziX11_shows zvX11_shows (by decide) (ly_a0 hF.1.L) rfl (Nat.le_of_ble_eq_true rfl) (Nat.le_of_ble_eq_true rfl) hc ?_
  refine ex_step (pc' := 948) dL_law_947 rfl ?_
  refine L_arg (kk := 1) (ki := 1) rfl dL_law_948 dL_law_949 dL_law_950 dL_law_951 dL_law_952 ro1 hL e1 (by omega) ?_
  refine L_arg (kk := 2) (ki := 2) rfl dL_law_953 dL_law_954 dL_law_955 dL_law_956 dL_law_957 ro1 hL e1 (by omega) ?_
  refine L_arg (kk := 3) (ki := 3) rfl dL_law_958 dL_law_959 dL_law_960 dL_law_961 dL_law_962 ro1 hL e1 (by omega) ?_
  refine ex_callV (as := [.int (xs (i + 1)), .int (xs (i + 2)), .int (xs (i + 3))]) (st := [.int r]) (ci := 12) dL_law_963 zmX12_shows zl_RL_129 ziX12_shows zvX12_shows (by decide) w1 rfl (Nat.le_of_ble_eq_true rfl) (Nat.le_of_ble_eq_true rfl) hm ?_
  exact ex_icmp (pc' := 1375) dL_law_966 (by decide) (fun _ => hend) (fun c => absurd rfl c)
theorem L_shown (H : zAll Z I J b xs L) (hb : b + 2000 < 500000000) (hL : L ≤ 3072) (hi : i + 6 ≤ L) : ∃ (Z1 : zZ) (I2 : zI) (J2 : zJ), zAll Z1 I2 J2 (b + 2000) xs L ∧ ∀ o, zE 11 (kL nm) 1375 (zlwl i) [] Z1 I2 J2 o → zE 11 (kL nm) 971 (zlwl i) [] Z I J o := by
  obtain ⟨⟨t, u, v, τ, Λ, ρ, n, nx0, hs, sl, kt, A, hF⟩, -, eI, hro, -⟩ := id H
  obtain ⟨r, Z1, I1, J1, I2, J2, hc, hm, H2, e1, ro1, w1⟩ := zStp_of hF H (zX.q hF hb (Q_shown hF.1 (xs (i + 1))))
  refine ⟨Z1, I2, J2, H2, fun o hend => ?_⟩
  refine ex_step (pc' := 972) dL_law_971 rfl ?_
  refine L_arg (kk := 1) (ki := 1) rfl dL_law_972 dL_law_973 dL_law_974 dL_law_975 dL_law_976 hro hL eI (by omega) ?_
  refine ex_callV (as := [.int (xs (i + 1))]) (st := []) (ci := 11) dL_law_977 zmX11_shown zl_RL_130 ziX11_shown zvX11_shown (by decide) (ly_a0 hF.1.L) rfl (Nat.le_of_ble_eq_true rfl) (Nat.le_of_ble_eq_true rfl) hc ?_
  refine ex_step (pc' := 981) dL_law_980 rfl ?_
  refine L_arg (kk := 1) (ki := 1) rfl dL_law_981 dL_law_982 dL_law_983 dL_law_984 dL_law_985 ro1 hL e1 (by omega) ?_
  refine ex_callV (as := [.int (xs (i + 1))]) (st := [.int r]) (ci := 12) dL_law_986 zmX12_shown zl_RL_133 ziX12_shown zvX12_shown (by decide) w1 rfl (Nat.le_of_ble_eq_true rfl) (Nat.le_of_ble_eq_true rfl) hm ?_
  exact ex_icmp (pc' := 1375) dL_law_989 (by decide) (fun _ => hend) (fun c => absurd rfl c)
theorem L_uppermost (H : zAll Z I J b xs L) (hb : b + 2000 < 500000000) (hL : L ≤ 3072) (hi : i + 6 ≤ L) : ∃ (Z1 : zZ) (I2 : zI) (J2 : zJ), zAll Z1 I2 J2 (b + 2000) xs L ∧ ∀ o, zE 11 (kL nm) 1375 (zlwl i) [] Z1 I2 J2 o → zE 11 (kL nm) 994 (zlwl i) [] Z I J o := by
  obtain ⟨⟨t, u, v, τ, Λ, ρ, n, nx0, hs, sl, kt, A, hF⟩, -, eI, hro, -⟩ := id H
  obtain ⟨r, Z1, I1, J1, I2, J2, hc, hm, H2, e1, ro1, w1⟩ := zStp_of hF H (zX.q hF hb (Q_uppermost hF.1 (xs (i + 1))))
  refine ⟨Z1, I2, J2, H2, fun o hend => ?_⟩
  refine ex_step (pc' := 995) dL_law_994 rfl ?_
  refine L_arg (kk := 1) (ki := 1) rfl dL_law_995 dL_law_996 dL_law_997 dL_law_998 dL_law_999 hro hL eI (by omega) ?_
  refine ex_callV (as := [.int (xs (i + 1))]) (st := []) (ci := 11) dL_law_1000 zmX11_uppermost zl_RL_134 ziX11_uppermost zvX11_uppermost (by decide) (ly_a0 hF.1.L) rfl (Nat.le_of_ble_eq_true rfl) (Nat.le_of_ble_eq_true rfl) hc ?_
  refine ex_step (pc' := 1004) dL_law_1003 rfl ?_
  refine L_arg (kk := 1) (ki := 1) rfl dL_law_1004 dL_law_1005 dL_law_1006 dL_law_1007 dL_law_1008 ro1 hL e1 (by omega) ?_
  refine ex_callV (as := [.int (xs (i + 1))]) (st := [.int r]) (ci := 12) dL_law_1009 zmX12_uppermost zl_RL_137 ziX12_uppermost zvX12_uppermost (by decide) w1 rfl (Nat.le_of_ble_eq_true rfl) (Nat.le_of_ble_eq_true rfl) hm ?_
  exact ex_icmp (pc' := 1375) dL_law_1012 (by decide) (fun _ => hend) (fun c => absurd rfl c)
theorem L_knows (H : zAll Z I J b xs L) (hb : b + 2000 < 500000000) (hL : L ≤ 3072) (hi : i + 6 ≤ L) : ∃ (Z1 : zZ) (I2 : zI) (J2 : zJ), zAll Z1 I2 J2 (b + 2000) xs L ∧ ∀ o, zE 11 (kL nm) 1375 (zlwl i) [] Z1 I2 J2 o → zE 11 (kL nm) 1017 (zlwl i) [] Z I J o := by
  obtain ⟨⟨t, u, v, τ, Λ, ρ, n, nx0, hs, sl, kt, A, hF⟩, -, eI, hro, -⟩ := id H
  obtain ⟨r, Z1, I1, J1, I2, J2, hc, hm, H2, e1, ro1, w1⟩ := zStp_of hF H (zX.q hF hb (Q_knows hF.1 (xs (i + 1))))
  refine ⟨Z1, I2, J2, H2, fun o hend => ?_⟩
  refine ex_step (pc' := 1018) dL_law_1017 rfl ?_
  refine L_arg (kk := 1) (ki := 1) rfl dL_law_1018 dL_law_1019 dL_law_1020 dL_law_1021 dL_law_1022 hro hL eI (by omega) ?_
  refine ex_callV (as := [.int (xs (i + 1))]) (st := []) (ci := 11) dL_law_1023 zmX11_knows zl_RL_138 ziX11_knows zvX11_knows (by decide) (ly_a0 hF.1.L) rfl (Nat.le_of_ble_eq_true rfl) (Nat.le_of_ble_eq_true rfl) hc ?_
  refine ex_step (pc' := 1027) dL_law_1026 rfl ?_
  refine L_arg (kk := 1) (ki := 1) rfl dL_law_1027 dL_law_1028 dL_law_1029 dL_law_1030 dL_law_1031 ro1 hL e1 (by omega) ?_
  refine ex_callV (as := [.int (xs (i + 1))]) (st := [.int r]) (ci := 12) dL_law_1032 zmX12_knows zl_RL_141 ziX12_knows zvX12_knows (by decide) w1 rfl (Nat.le_of_ble_eq_true rfl) (Nat.le_of_ble_eq_true rfl) hm ?_
  exact ex_icmp (pc' := 1375) dL_law_1035 (by decide) (fun _ => hend) (fun c => absurd rfl c)
theorem L_links (H : zAll Z I J b xs L) (hb : b + 2000 < 500000000) (hL : L ≤ 3072) (hi : i + 6 ≤ L) : ∃ (Z1 : zZ) (I2 : zI) (J2 : zJ), zAll Z1 I2 J2 (b + 2000) xs L ∧ ∀ o, zE 11 (kL nm) 1375 (zlwl i) [] Z1 I2 J2 o → zE 11 (kL nm) 1040 (zlwl i) [] Z I J o := by
  obtain ⟨⟨t, u, v, τ, Λ, ρ, n, nx0, hs, sl, kt, A, hF⟩, -, eI, hro, -⟩ := id H
  obtain ⟨r, Z1, I1, J1, I2, J2, hc, hm, H2, e1, ro1, w1⟩ := zStp_of hF H (zX.q hF hb (Q_links hF.1 (xs (i + 1)) (xs (i + 2))))
  refine ⟨Z1, I2, J2, H2, fun o hend => ?_⟩
  refine ex_step (pc' := 1041) dL_law_1040 rfl ?_
  refine L_arg (kk := 1) (ki := 1) rfl dL_law_1041 dL_law_1042 dL_law_1043 dL_law_1044 dL_law_1045 hro hL eI (by omega) ?_
  refine L_arg (kk := 2) (ki := 2) rfl dL_law_1046 dL_law_1047 dL_law_1048 dL_law_1049 dL_law_1050 hro hL eI (by omega) ?_
  refine ex_callV (as := [.int (xs (i + 1)), .int (xs (i + 2))]) (st := []) (ci := 11) dL_law_1051 zmX11_links zl_RL_142 ziX11_links zvX11_links (by decide) (ly_a0 hF.1.L) rfl (Nat.le_of_ble_eq_true rfl) (Nat.le_of_ble_eq_true rfl) hc ?_
  refine ex_step (pc' := 1055) dL_law_1054 rfl ?_
  refine L_arg (kk := 1) (ki := 1) rfl dL_law_1055 dL_law_1056 dL_law_1057 dL_law_1058 dL_law_1059 ro1 hL e1 (by omega) ?_
  refine L_arg (kk := 2) (ki := 2) rfl dL_law_1060 dL_law_1061 dL_law_1062 dL_law_1063 dL_law_1064 ro1 hL e1 (by omega) ?_
  refine ex_callV (as := [.int (xs (i + 1)), .int (xs (i + 2))]) (st := [.int r]) (ci := 12) dL_law_1065 zmX12_links zl_RL_145 ziX12_links zvX12_links (by decide) w1 rfl (Nat.le_of_ble_eq_true rfl) (Nat.le_of_ble_eq_true rfl) hm ?_
  exact ex_icmp (pc' := 1375) dL_law_1068 (by decide) (fun _ => hend) (fun c => absurd rfl c)
theorem L_rounds (H : zAll Z I J b xs L) (hb : b + 2000 < 500000000) (hL : L ≤ 3072) (hi : i + 6 ≤ L) : ∃ (Z1 : zZ) (I2 : zI) (J2 : zJ), zAll Z1 I2 J2 (b + 2000) xs L ∧ ∀ o, zE 11 (kL nm) 1375 (zlwl i) [] Z1 I2 J2 o → zE 11 (kL nm) 1073 (zlwl i) [] Z I J o := by
  obtain ⟨⟨t, u, v, τ, Λ, ρ, n, nx0, hs, sl, kt, A, hF⟩, -, eI, hro, -⟩ := id H
  obtain ⟨r, Z1, I1, J1, I2, J2, hc, hm, H2, e1, ro1, w1⟩ := zStp_of hF H (zX.q hF hb (Q_rounds hF.1))
  refine ⟨Z1, I2, J2, H2, fun o hend => ?_⟩
  refine ex_step (pc' := 1074) dL_law_1073 rfl ?_
  refine ex_callV (as := []) (st := []) (ci := 11) dL_law_1074 zmX11_rounds zl_RL_146 ziX11_rounds zvX11_rounds (by decide) (ly_a0 hF.1.L) rfl (Nat.le_of_ble_eq_true rfl) (Nat.le_of_ble_eq_true rfl) hc ?_
  refine ex_step (pc' := 1078) dL_law_1077 rfl ?_
  refine ex_callV (as := []) (st := [.int r]) (ci := 12) dL_law_1078 zmX12_rounds zl_RL_149 ziX12_rounds zvX12_rounds (by decide) w1 rfl (Nat.le_of_ble_eq_true rfl) (Nat.le_of_ble_eq_true rfl) hm ?_
  exact ex_icmp (pc' := 1375) dL_law_1081 (by decide) (fun _ => hend) (fun c => absurd rfl c)
theorem L_crowd (H : zAll Z I J b xs L) (hb : b + 2000 < 500000000) (hL : L ≤ 3072) (hi : i + 6 ≤ L) : ∃ (Z1 : zZ) (I2 : zI) (J2 : zJ), zAll Z1 I2 J2 (b + 2000) xs L ∧ ∀ o, zE 11 (kL nm) 1375 (zlwl i) [] Z1 I2 J2 o → zE 11 (kL nm) 1086 (zlwl i) [] Z I J o := by
  obtain ⟨⟨t, u, v, τ, Λ, ρ, n, nx0, hs, sl, kt, A, hF⟩, -, eI, hro, -⟩ := id H
  obtain ⟨r, Z1, I1, J1, I2, J2, hc, hm, H2, e1, ro1, w1⟩ := zStp_of hF H (zX.q hF hb (Q_crowd hF.1 (xs (i + 1))))
  refine ⟨Z1, I2, J2, H2, fun o hend => ?_⟩
  refine ex_step (pc' := 1087) dL_law_1086 rfl ?_
  refine L_arg (kk := 1) (ki := 1) rfl dL_law_1087 dL_law_1088 dL_law_1089 dL_law_1090 dL_law_1091 hro hL eI (by omega) ?_
  refine ex_callV (as := [.int (xs (i + 1))]) (st := []) (ci := 11) dL_law_1092 zmX11_crowd zl_RL_150 ziX11_crowd zvX11_crowd (by decide) (ly_a0 hF.1.L) rfl (Nat.le_of_ble_eq_true rfl) (Nat.le_of_ble_eq_true rfl) hc ?_
  refine ex_step (pc' := 1096) dL_law_1095 rfl ?_
  refine L_arg (kk := 1) (ki := 1) rfl dL_law_1096 dL_law_1097 dL_law_1098 dL_law_1099 dL_law_1100 ro1 hL e1 (by omega) ?_
  refine ex_callV (as := [.int (xs (i + 1))]) (st := [.int r]) (ci := 12) dL_law_1101 zmX12_crowd zl_RL_153 ziX12_crowd zvX12_crowd (by decide) w1 rfl (Nat.le_of_ble_eq_true rfl) (Nat.le_of_ble_eq_true rfl) hm ?_
  exact ex_icmp (pc' := 1375) dL_law_1104 (by decide) (fun _ => hend) (fun c => absurd rfl c)
theorem L_plain (H : zAll Z I J b xs L) (hb : b + 2000 < 500000000) (hL : L ≤ 3072) (hi : i + 6 ≤ L) : ∃ (Z1 : zZ) (I2 : zI) (J2 : zJ), zAll Z1 I2 J2 (b + 2000) xs L ∧ ∀ o, zE 11 (kL nm) 1375 (zlwl i) [] Z1 I2 J2 o → zE 11 (kL nm) 1109 (zlwl i) [] Z I J o := by
  obtain ⟨⟨t, u, v, τ, Λ, ρ, n, nx0, hs, sl, kt, A, hF⟩, -, eI, hro, -⟩ := id H
  obtain ⟨r, Z1, I1, J1, I2, J2, hc, hm, H2, e1, ro1, w1⟩ := zStp_of hF H (zX.q hF hb (Q_plain hF.1 (xs (i + 1))))
  refine ⟨Z1, I2, J2, H2, fun o hend => ?_⟩
  refine ex_step (pc' := 1110) dL_law_1109 rfl ?_
  refine L_arg (kk := 1) (ki := 1) rfl dL_law_1110 dL_law_1111 dL_law_1112 dL_law_1113 dL_law_1114 hro hL eI (by omega) ?_
  refine ex_callV (as := [.int (xs (i + 1))]) (st := []) (ci := 11) dL_law_1115 zmX11_plain zl_RL_154 ziX11_plain zvX11_plain (by decide) (ly_a0 hF.1.L) rfl (Nat.le_of_ble_eq_true rfl) (Nat.le_of_ble_eq_true rfl) hc ?_
  refine ex_step (pc' := 1119) dL_law_1118 rfl ?_
  refine L_arg (kk := 1) (ki := 1) rfl dL_law_1119 dL_law_1120 dL_law_1121 dL_law_1122 dL_law_1123 ro1 hL e1 (by omega) ?_
  refine ex_callV (as := [.int (xs (i + 1))]) (st := [.int r]) (ci := 12) dL_law_1124 zmX12_plain zl_RL_157 ziX12_plain zvX12_plain (by decide) w1 rfl (Nat.le_of_ble_eq_true rfl) (Nat.le_of_ble_eq_true rfl) hm ?_
  exact ex_icmp (pc' := 1375) dL_law_1127 (by decide) (fun _ => hend) (fun c => absurd rfl c)
theorem L_thieves (H : zAll Z I J b xs L) (hb : b + 2000 < 500000000) (hL : L ≤ 3072) (hi : i + 6 ≤ L) : ∃ (Z1 : zZ) (I2 : zI) (J2 : zJ), zAll Z1 I2 J2 (b + 2000) xs L ∧ ∀ o, zE 11 (kL nm) 1375 (zlwl i) [] Z1 I2 J2 o → zE 11 (kL nm) 1132 (zlwl i) [] Z I J o := by
  obtain ⟨⟨t, u, v, τ, Λ, ρ, n, nx0, hs, sl, kt, A, hF⟩, -, eI, hro, -⟩ := id H
  obtain ⟨r, Z1, I1, J1, I2, J2, hc, hm, H2, e1, ro1, w1⟩ := zStp_of hF H (zX.q hF hb (Q_thieves hF.1))
  refine ⟨Z1, I2, J2, H2, fun o hend => ?_⟩
  refine ex_step (pc' := 1133) dL_law_1132 rfl ?_
  refine ex_callV (as := []) (st := []) (ci := 11) dL_law_1133 zmX11_thieves zl_RL_158 ziX11_thieves zvX11_thieves (by decide) (ly_a0 hF.1.L) rfl (Nat.le_of_ble_eq_true rfl) (Nat.le_of_ble_eq_true rfl) hc ?_
  refine ex_step (pc' := 1137) dL_law_1136 rfl ?_
  refine ex_callV (as := []) (st := [.int r]) (ci := 12) dL_law_1137 zmX12_thieves zl_RL_161 ziX12_thieves zvX12_thieves (by decide) w1 rfl (Nat.le_of_ble_eq_true rfl) (Nat.le_of_ble_eq_true rfl) hm ?_
  exact ex_icmp (pc' := 1375) dL_law_1140 (by decide) (fun _ => hend) (fun c => absurd rfl c)
theorem L_nearest (H : zAll Z I J b xs L) (hb : b + 2000 < 500000000) (hL : L ≤ 3072) (hi : i + 6 ≤ L) : ∃ (Z1 : zZ) (I2 : zI) (J2 : zJ), zAll Z1 I2 J2 (b + 2000) xs L ∧ ∀ o, zE 11 (kL nm) 1375 (zlwl i) [] Z1 I2 J2 o → zE 11 (kL nm) 1145 (zlwl i) [] Z I J o := by
  obtain ⟨⟨t, u, v, τ, Λ, ρ, n, nx0, hs, sl, kt, A, hF⟩, -, eI, hro, -⟩ := id H
  obtain ⟨r, Z1, I1, J1, I2, J2, hc, hm, H2, e1, ro1, w1⟩ := zStp_of hF H (zX.q hF hb (Q_nearest hF.1 (xs (i + 1)) (xs (i + 2))))
  refine ⟨Z1, I2, J2, H2, fun o hend => ?_⟩
  refine ex_step (pc' := 1146) dL_law_1145 rfl ?_
  refine L_arg (kk := 1) (ki := 1) rfl dL_law_1146 dL_law_1147 dL_law_1148 dL_law_1149 dL_law_1150 hro hL eI (by omega) ?_
  refine L_arg (kk := 2) (ki := 2) rfl dL_law_1151 dL_law_1152 dL_law_1153 dL_law_1154 dL_law_1155 hro hL eI (by omega) ?_
  refine ex_callV (as := [.int (xs (i + 1)), .int (xs (i + 2))]) (st := []) (ci := 11) dL_law_1156 zmX11_nearest zl_RL_162 ziX11_nearest zvX11_nearest (by decide) (ly_a0 hF.1.L) rfl (Nat.le_of_ble_eq_true rfl) (Nat.le_of_ble_eq_true rfl) hc ?_
  refine ex_step (pc' := 1160) dL_law_1159 rfl ?_
  refine L_arg (kk := 1) (ki := 1) rfl dL_law_1160 dL_law_1161 dL_law_1162 dL_law_1163 dL_law_1164 ro1 hL e1 (by omega) ?_
  refine L_arg (kk := 2) (ki := 2) rfl dL_law_1165 dL_law_1166 dL_law_1167 dL_law_1168 dL_law_1169 ro1 hL e1 (by omega) ?_
  refine ex_callV (as := [.int (xs (i + 1)), .int (xs (i + 2))]) (st := [.int r]) (ci := 12) dL_law_1170 zmX12_nearest zl_RL_165 ziX12_nearest zvX12_nearest (by decide) w1 rfl (Nat.le_of_ble_eq_true rfl) (Nat.le_of_ble_eq_true rfl) hm ?_
  exact ex_icmp (pc' := 1375) dL_law_1173 (by decide) (fun _ => hend) (fun c => absurd rfl c)
theorem L_unfair (H : zAll Z I J b xs L) (hb : b + 2000 < 500000000) (hL : L ≤ 3072) (hi : i + 6 ≤ L) : ∃ (Z1 : zZ) (I2 : zI) (J2 : zJ), zAll Z1 I2 J2 (b + 2000) xs L ∧ ∀ o, zE 11 (kL nm) 1375 (zlwl i) [] Z1 I2 J2 o → zE 11 (kL nm) 1178 (zlwl i) [] Z I J o := by
  obtain ⟨⟨t, u, v, τ, Λ, ρ, n, nx0, hs, sl, kt, A, hF⟩, -, eI, hro, -⟩ := id H
  obtain ⟨r, Z1, I1, J1, I2, J2, hc, hm, H2, e1, ro1, w1⟩ := zStp_of hF H (zX.q hF hb (Q_unfair hF.1))
  refine ⟨Z1, I2, J2, H2, fun o hend => ?_⟩
  refine ex_step (pc' := 1179) dL_law_1178 rfl ?_
  refine ex_callV (as := []) (st := []) (ci := 11) dL_law_1179 zmX11_unfair zl_RL_166 ziX11_unfair zvX11_unfair (by decide) (ly_a0 hF.1.L) rfl (Nat.le_of_ble_eq_true rfl) (Nat.le_of_ble_eq_true rfl) hc ?_
  refine ex_step (pc' := 1183) dL_law_1182 rfl ?_
  refine ex_callV (as := []) (st := [.int r]) (ci := 12) dL_law_1183 zmX12_unfair zl_RL_169 ziX12_unfair zvX12_unfair (by decide) w1 rfl (Nat.le_of_ble_eq_true rfl) (Nat.le_of_ble_eq_true rfl) hm ?_
  exact ex_icmp (pc' := 1375) dL_law_1186 (by decide) (fun _ => hend) (fun c => absurd rfl c)
theorem L_tell (H : zAll Z I J b xs L) (hb : b + 2000 < 500000000) (hL : L ≤ 3072) (hi : i + 6 ≤ L) : ∃ (Z1 : zZ) (I2 : zI) (J2 : zJ), zAll Z1 I2 J2 (b + 2000) xs L ∧ ∀ o, zE 11 (kL nm) 1375 (zlwl i) [] Z1 I2 J2 o → zE 11 (kL nm) 1191 (zlwl i) [] Z I J o := by
  obtain ⟨⟨t, u, v, τ, Λ, ρ, n, nx0, hs, sl, kt, A, hF⟩, -, eI, hro, -⟩ := id H
  obtain ⟨w, hw, hw0, hw1⟩ : ∃ w : Int32, (w = 0 ∨ w = 1) ∧ (xs (i + 3) = 0 → w = 0) ∧ (¬ xs (i + 3) = 0 → w = 1) := by
    by_cases c : xs (i + 3) = 0
    · exact ⟨0, Or.inl rfl, fun _ => rfl, fun z => absurd c z⟩
    · exact ⟨1, Or.inr rfl, fun z => absurd z c, fun _ => rfl⟩
  obtain ⟨r, Z1, I1, J1, I2, J2, hc, hm, H2, e1, ro1, w1⟩ := zStp_of hF H (X_tell hF hb (xs (i + 1)) (xs (i + 2)) w hw)
  refine ⟨Z1, I2, J2, H2, fun o hend => ?_⟩
  refine ex_step (pc' := 1192) dL_law_1191 rfl ?_
  refine L_arg (kk := 1) (ki := 1) rfl dL_law_1192 dL_law_1193 dL_law_1194 dL_law_1195 dL_law_1196 hro hL eI (by omega) ?_
  refine L_arg (kk := 2) (ki := 2) rfl dL_law_1197 dL_law_1198 dL_law_1199 dL_law_1200 dL_law_1201 hro hL eI (by omega) ?_
  refine L_arg (kk := 3) (ki := 3) rfl dL_law_1202 dL_law_1203 dL_law_1204 dL_law_1205 dL_law_1206 hro hL eI (by omega) ?_
  have hst : zE 11 (kL nm) 1215 (zlwl i) [.int w, .int (xs (i + 2)), .int (xs (i + 1)), .ref 0] Z I J o → zE 11 (kL nm) 1207 (zlwl i) (.int (xs (i + 3)) :: [.int (xs (i + 2)), .int (xs (i + 1)), .ref 0]) Z I J o := fun ho => by
    refine ex_if (pc' := 1214) dL_law_1207 (by decide) (fun c => ?_) (fun c => ?_)
    · rw [hw0 c] at ho
      exact ex_step (pc' := 1215) dL_law_1214 rfl ho
    · rw [hw1 c] at ho
      refine ex_step (pc' := 1211) (st' := [.int 1, .int (xs (i + 2)), .int (xs (i + 1)), .ref 0]) dL_law_1210 rfl ?_
      exact ex_step (pc' := 1215) dL_law_1211 rfl ho
  refine hst ?_
  refine ex_callV (as := [.int (xs (i + 1)), .int (xs (i + 2)), .int w]) (st := []) (ci := 11) dL_law_1215 zmX11_tell zl_RL_170 ziX11_tell zvX11_tell (by decide) (ly_a0 hF.1.L) rfl (Nat.le_of_ble_eq_true rfl) (Nat.le_of_ble_eq_true rfl) hc ?_
  refine ex_step (pc' := 1219) dL_law_1218 rfl ?_
  refine L_arg (kk := 1) (ki := 1) rfl dL_law_1219 dL_law_1220 dL_law_1221 dL_law_1222 dL_law_1223 ro1 hL e1 (by omega) ?_
  refine L_arg (kk := 2) (ki := 2) rfl dL_law_1224 dL_law_1225 dL_law_1226 dL_law_1227 dL_law_1228 ro1 hL e1 (by omega) ?_
  refine L_arg (kk := 3) (ki := 3) rfl dL_law_1229 dL_law_1230 dL_law_1231 dL_law_1232 dL_law_1233 ro1 hL e1 (by omega) ?_
  have hst : zE 11 (kL nm) 1242 (zlwl i) [.int w, .int (xs (i + 2)), .int (xs (i + 1)), .ref 420, .int r] Z1 I1 J1 o → zE 11 (kL nm) 1234 (zlwl i) (.int (xs (i + 3)) :: [.int (xs (i + 2)), .int (xs (i + 1)), .ref 420, .int r]) Z1 I1 J1 o := fun ho => by
    refine ex_if (pc' := 1241) dL_law_1234 (by decide) (fun c => ?_) (fun c => ?_)
    · rw [hw0 c] at ho
      exact ex_step (pc' := 1242) dL_law_1241 rfl ho
    · rw [hw1 c] at ho
      refine ex_step (pc' := 1238) (st' := [.int 1, .int (xs (i + 2)), .int (xs (i + 1)), .ref 420, .int r]) dL_law_1237 rfl ?_
      exact ex_step (pc' := 1242) dL_law_1238 rfl ho
  refine hst ?_
  refine ex_callV (as := [.int (xs (i + 1)), .int (xs (i + 2)), .int w]) (st := [.int r]) (ci := 12) dL_law_1242 zmX12_tell zl_RL_174 ziX12_tell zvX12_tell (by decide) w1 rfl (Nat.le_of_ble_eq_true rfl) (Nat.le_of_ble_eq_true rfl) hm ?_
  exact ex_icmp (pc' := 1375) dL_law_1245 (by decide) (fun _ => hend) (fun c => absurd rfl c)
theorem L_forget (H : zAll Z I J b xs L) (hb : b + 2000 < 500000000) (hL : L ≤ 3072) (hi : i + 6 ≤ L) : ∃ (Z1 : zZ) (I2 : zI) (J2 : zJ), zAll Z1 I2 J2 (b + 2000) xs L ∧ ∀ o, zE 11 (kL nm) 1375 (zlwl i) [] Z1 I2 J2 o → zE 11 (kL nm) 1250 (zlwl i) [] Z I J o := by
  obtain ⟨⟨t, u, v, τ, Λ, ρ, n, nx0, hs, sl, kt, A, hF⟩, -, eI, hro, -⟩ := id H
  obtain ⟨r, Z1, I1, J1, I2, J2, hc, hm, H2, e1, ro1, w1⟩ := zStp_of hF H (X_forget hF hb)
  refine ⟨Z1, I2, J2, H2, fun o hend => ?_⟩
  refine ex_step (pc' := 1251) dL_law_1250 rfl ?_
  refine ex_callV (as := []) (st := []) (ci := 11) dL_law_1251 zmX11_forget zl_RL_175 ziX11_forget zvX11_forget (by decide) (ly_a0 hF.1.L) rfl (Nat.le_of_ble_eq_true rfl) (Nat.le_of_ble_eq_true rfl) hc ?_
  refine ex_step (pc' := 1255) dL_law_1254 rfl ?_
  refine ex_callV (as := []) (st := [.int r]) (ci := 12) dL_law_1255 zmX12_forget zl_RL_178 ziX12_forget zvX12_forget (by decide) w1 rfl (Nat.le_of_ble_eq_true rfl) (Nat.le_of_ble_eq_true rfl) hm ?_
  exact ex_icmp (pc' := 1375) dL_law_1258 (by decide) (fun _ => hend) (fun c => absurd rfl c)
theorem L_starts (H : zAll Z I J b xs L) (hb : b + 2000 < 500000000) (hL : L ≤ 3072) (hi : i + 6 ≤ L) : ∃ (Z1 : zZ) (I2 : zI) (J2 : zJ), zAll Z1 I2 J2 (b + 2000) xs L ∧ ∀ o, zE 11 (kL nm) 1375 (zlwl i) [] Z1 I2 J2 o → zE 11 (kL nm) 1263 (zlwl i) [] Z I J o := by
  obtain ⟨⟨t, u, v, τ, Λ, ρ, n, nx0, hs, sl, kt, A, hF⟩, -, eI, hro, -⟩ := id H
  obtain ⟨r, Z1, I1, J1, I2, J2, hc, hm, H2, e1, ro1, w1⟩ := zStp_of hF H (zX.q hF hb (Q_starts hF.1 hF.2.2.2.2.1 hF.2.2.2.2.2.1 hF.2.2.2.1 (xs (i + 1)) (xs (i + 2)) (xs (i + 3))))
  refine ⟨Z1, I2, J2, H2, fun o hend => ?_⟩
  refine ex_step (pc' := 1264) dL_law_1263 rfl ?_
  refine L_arg (kk := 1) (ki := 1) rfl dL_law_1264 dL_law_1265 dL_law_1266 dL_law_1267 dL_law_1268 hro hL eI (by omega) ?_
  refine L_arg (kk := 2) (ki := 2) rfl dL_law_1269 dL_law_1270 dL_law_1271 dL_law_1272 dL_law_1273 hro hL eI (by omega) ?_
  refine L_arg (kk := 3) (ki := 3) rfl dL_law_1274 dL_law_1275 dL_law_1276 dL_law_1277 dL_law_1278 hro hL eI (by omega) ?_
  refine ex_callV (as := [.int (xs (i + 1)), .int (xs (i + 2)), .int (xs (i + 3))]) (st := []) (ci := 11) dL_law_1279 zmX11_starts zl_RL_179 ziX11_starts zvX11_starts (by decide) (ly_a0 hF.1.L) rfl (Nat.le_of_ble_eq_true rfl) (Nat.le_of_ble_eq_true rfl) hc ?_
  refine ex_step (pc' := 1283) dL_law_1282 rfl ?_
  refine L_arg (kk := 1) (ki := 1) rfl dL_law_1283 dL_law_1284 dL_law_1285 dL_law_1286 dL_law_1287 ro1 hL e1 (by omega) ?_
  refine L_arg (kk := 2) (ki := 2) rfl dL_law_1288 dL_law_1289 dL_law_1290 dL_law_1291 dL_law_1292 ro1 hL e1 (by omega) ?_
  refine L_arg (kk := 3) (ki := 3) rfl dL_law_1293 dL_law_1294 dL_law_1295 dL_law_1296 dL_law_1297 ro1 hL e1 (by omega) ?_
  refine ex_callV (as := [.int (xs (i + 1)), .int (xs (i + 2)), .int (xs (i + 3))]) (st := [.int r]) (ci := 12) dL_law_1298 zmX12_starts zl_RL_182 ziX12_starts zvX12_starts (by decide) w1 rfl (Nat.le_of_ble_eq_true rfl) (Nat.le_of_ble_eq_true rfl) hm ?_
  exact ex_icmp (pc' := 1375) dL_law_1301 (by decide) (fun _ => hend) (fun c => absurd rfl c)
theorem L_hold (H : zAll Z I J b xs L) (hb : b + 2000 < 500000000) (hL : L ≤ 3072) (hi : i + 6 ≤ L) : ∃ (Z1 : zZ) (I2 : zI) (J2 : zJ), zAll Z1 I2 J2 (b + 2000) xs L ∧ ∀ o, zE 11 (kL nm) 1375 (zlwl i) [] Z1 I2 J2 o → zE 11 (kL nm) 1306 (zlwl i) [] Z I J o := by
  obtain ⟨⟨t, u, v, τ, Λ, ρ, n, nx0, hs, sl, kt, A, hF⟩, -, eI, hro, -⟩ := id H
  obtain ⟨r, Z1, I1, J1, I2, J2, hc, hm, H2, e1, ro1, w1⟩ := zStp_of hF H (X_hold hF hb (xs (i + 1)))
  refine ⟨Z1, I2, J2, H2, fun o hend => ?_⟩
  refine ex_step (pc' := 1307) dL_law_1306 rfl ?_
  refine L_arg (kk := 1) (ki := 1) rfl dL_law_1307 dL_law_1308 dL_law_1309 dL_law_1310 dL_law_1311 hro hL eI (by omega) ?_
  refine ex_callV (as := [.int (xs (i + 1))]) (st := []) (ci := 11) dL_law_1312 zmX11_hold zl_RL_183 ziX11_hold zvX11_hold (by decide) (ly_a0 hF.1.L) rfl (Nat.le_of_ble_eq_true rfl) (Nat.le_of_ble_eq_true rfl) hc ?_
  refine ex_step (pc' := 1316) dL_law_1315 rfl ?_
  refine L_arg (kk := 1) (ki := 1) rfl dL_law_1316 dL_law_1317 dL_law_1318 dL_law_1319 dL_law_1320 ro1 hL e1 (by omega) ?_
  refine ex_callV (as := [.int (xs (i + 1))]) (st := [.int r]) (ci := 12) dL_law_1321 zmX12_hold zl_RL_186 ziX12_hold zvX12_hold (by decide) w1 rfl (Nat.le_of_ble_eq_true rfl) (Nat.le_of_ble_eq_true rfl) hm ?_
  exact ex_icmp (pc' := 1375) dL_law_1324 (by decide) (fun _ => hend) (fun c => absurd rfl c)
theorem L_restore (H : zAll Z I J b xs L) (hb : b + 2000 < 500000000) (hL : L ≤ 3072) (hi : i + 6 ≤ L) : ∃ (Z1 : zZ) (I2 : zI) (J2 : zJ), zAll Z1 I2 J2 (b + 2000) xs L ∧ ∀ o, zE 11 (kL nm) 1375 (zlwl i) [] Z1 I2 J2 o → zE 11 (kL nm) 1329 (zlwl i) [] Z I J o := by
  obtain ⟨⟨t, u, v, τ, Λ, ρ, n, nx0, hs, sl, kt, A, hF⟩, -, eI, hro, -⟩ := id H
  obtain ⟨r, Z1, I1, J1, I2, J2, hc, hm, H2, e1, ro1, w1⟩ := zStp_of hF H (X_restore hF hb (xs (i + 1)))
  refine ⟨Z1, I2, J2, H2, fun o hend => ?_⟩
  refine ex_step (pc' := 1330) dL_law_1329 rfl ?_
  refine L_arg (kk := 1) (ki := 1) rfl dL_law_1330 dL_law_1331 dL_law_1332 dL_law_1333 dL_law_1334 hro hL eI (by omega) ?_
  refine ex_callV (as := [.int (xs (i + 1))]) (st := []) (ci := 11) dL_law_1335 zmX11_restore zl_RL_187 ziX11_restore zvX11_restore (by decide) (ly_a0 hF.1.L) rfl (Nat.le_of_ble_eq_true rfl) (Nat.le_of_ble_eq_true rfl) hc ?_
  refine ex_step (pc' := 1339) dL_law_1338 rfl ?_
  refine L_arg (kk := 1) (ki := 1) rfl dL_law_1339 dL_law_1340 dL_law_1341 dL_law_1342 dL_law_1343 ro1 hL e1 (by omega) ?_
  refine ex_callV (as := [.int (xs (i + 1))]) (st := [.int r]) (ci := 12) dL_law_1344 zmX12_restore zl_RL_190 ziX12_restore zvX12_restore (by decide) w1 rfl (Nat.le_of_ble_eq_true rfl) (Nat.le_of_ble_eq_true rfl) hm ?_
  exact ex_icmp (pc' := 1375) dL_law_1347 (by decide) (fun _ => hend) (fun c => absurd rfl c)
theorem L_count (H : zAll Z I J b xs L) (hb : b + 2000 < 500000000) (hL : L ≤ 3072) (hi : i + 6 ≤ L) : ∃ (Z1 : zZ) (I2 : zI) (J2 : zJ), zAll Z1 I2 J2 (b + 2000) xs L ∧ ∀ o, zE 11 (kL nm) 1375 (zlwl i) [] Z1 I2 J2 o → zE 11 (kL nm) 1352 (zlwl i) [] Z I J o := by
  obtain ⟨⟨t, u, v, τ, Λ, ρ, n, nx0, hs, sl, kt, A, hF⟩, -, eI, hro, -⟩ := id H
  obtain ⟨r, Z1, I1, J1, I2, J2, hc, hm, H2, e1, ro1, w1⟩ := zStp_of hF H (X_count hF hb (xs (i + 1)))
  refine ⟨Z1, I2, J2, H2, fun o hend => ?_⟩
  refine ex_step (pc' := 1353) dL_law_1352 rfl ?_
  refine L_arg (kk := 1) (ki := 1) rfl dL_law_1353 dL_law_1354 dL_law_1355 dL_law_1356 dL_law_1357 hro hL eI (by omega) ?_
  refine ex_callV (as := [.int (xs (i + 1))]) (st := []) (ci := 11) dL_law_1358 zmX11_count zl_RL_191 ziX11_count zvX11_count (by decide) (ly_a0 hF.1.L) rfl (Nat.le_of_ble_eq_true rfl) (Nat.le_of_ble_eq_true rfl) hc ?_
  refine ex_step (pc' := 1362) dL_law_1361 rfl ?_
  refine L_arg (kk := 1) (ki := 1) rfl dL_law_1362 dL_law_1363 dL_law_1364 dL_law_1365 dL_law_1366 ro1 hL e1 (by omega) ?_
  refine ex_callV (as := [.int (xs (i + 1))]) (st := [.int r]) (ci := 12) dL_law_1367 zmX12_count zl_RL_194 ziX12_count zvX12_count (by decide) w1 rfl (Nat.le_of_ble_eq_true rfl) (Nat.le_of_ble_eq_true rfl) hm ?_
  exact ex_icmp (pc' := 1375) dL_law_1370 (by decide) (fun _ => hend) (fun c => absurd rfl c)
end

theorem wf_RX12_341 : zF RX12 341 12 54 := ⟨by decide, by decide, Or.inl (z_mem (z_m6 155 rfl) rfl)⟩
theorem zl_RX12_356 : zlink RX12 356 yX12_tellsBy := Or.inl (z_mem (z_m7 233 rfl) rfl)
theorem zl_RX12_359 : zlink RX12 359 yX12_longOf := Or.inl (z_mem (z_m7 229 rfl) rfl)
theorem zl_RX12_362 : zlink RX12 362 yX12_leftOf := Or.inl (z_mem (z_m7 225 rfl) rfl)
theorem zl_RX12_365 : zlink RX12 365 yX12_lotOf := Or.inl (z_mem (z_m8 8 rfl) rfl)
theorem zl_RX12_368 : zlink RX12 368 yX12_dx := Or.inl (z_mem (z_m8 31 rfl) rfl)
theorem zl_RX12_371 : zlink RX12 371 yX12_dy := Or.inl (z_mem (z_m8 34 rfl) rfl)
theorem zl_RX12_374 : zlink RX12 374 yX12_isCorner := Or.inl (z_mem (z_m8 37 rfl) rfl)
theorem zl_RX12_378 : zlink RX12 378 yX12_streetOf := Or.inl (z_mem (z_m8 41 rfl) rfl)
theorem zl_RX12_381 : zlink RX12 381 yX12_others := Or.inl (z_mem (z_m8 19 rfl) rfl)
theorem zl_RX12_385 : zlink RX12 385 yX12_goesOf := Or.inl (z_mem (z_m8 4 rfl) rfl)
theorem zl_RX12_388 : zlink RX12 388 yX12_steps := Or.inl (z_mem (z_m8 27 rfl) rfl)
theorem zl_RX12_391 : zlink RX12 391 yX12_winds := Or.inl (z_mem (z_m8 53 rfl) rfl)
theorem zl_RX12_394 : zlink RX12 394 yX12_isMan := Or.inl (z_mem (z_m7 214 rfl) rfl)
theorem zl_RX12_397 : zlink RX12 397 yX12_copies := Or.inl (z_mem (z_m7 221 rfl) rfl)
theorem zl_RX12_400 : zlink RX12 400 yX12_apart := Or.inl (z_mem (z_m8 1 rfl) rfl)
theorem wf_RX12_283 : zF RX12 283 12 58 := ⟨by decide, by decide, Or.inl (z_mem (z_m6 159 rfl) rfl)⟩
theorem zk_RX12_403 : Cond.constant RX12 403 (37410) ∈ zT := (z_mem (z_m8 48 rfl) rfl)
theorem wf_RX12_138 : zF RX12 138 12 59 := ⟨by decide, by decide, Or.inl (z_mem (z_m6 160 rfl) rfl)⟩
theorem zl_RX12_404 : zlink RX12 404 yX12_keeps := Or.inl (z_mem (z_m8 44 rfl) rfl)
theorem zl_RX12_407 : zlink RX12 407 yX12_minuteGoes := Or.inl (z_mem (z_m8 69 rfl) rfl)
theorem wf_RX12_141 : zF RX12 141 12 60 := ⟨by decide, by decide, Or.inl (z_mem (z_m6 161 rfl) rfl)⟩
theorem zl_RX12_410 : zlink RX12 410 yX12_overOf := Or.inl (z_mem (z_m8 85 rfl) rfl)
theorem zl_RX12_413 : zlink RX12 413 yX12_areTwo := Or.inl (z_mem (z_m8 81 rfl) rfl)
theorem zl_RX12_416 : zlink RX12 416 yX12_fillsWaits := Or.inl (z_mem (z_m8 93 rfl) rfl)
theorem wf_RX12_144 : zF RX12 144 12 61 := ⟨by decide, by decide, Or.inl (z_mem (z_m6 162 rfl) rfl)⟩
theorem zl_RX12_419 : zlink RX12 419 yX12_fillsOrders := Or.inl (z_mem (z_m8 101 rfl) rfl)
theorem zl_RX12_422 : zlink RX12 422 yX12_bits := Or.inl (z_mem (z_m8 113 rfl) rfl)
theorem zl_RX12_425 : zlink RX12 425 yX12_piecesOf := Or.inl (z_mem (z_m8 116 rfl) rfl)
theorem wf_RX12_147 : zF RX12 147 12 62 := ⟨by decide, by decide, Or.inl (z_mem (z_m6 163 rfl) rfl)⟩
theorem wf_RX12_150 : zF RX12 150 12 63 := ⟨by decide, by decide, Or.inl (z_mem (z_m6 164 rfl) rfl)⟩
theorem zl_RX12_428 : zlink RX12 428 yX12_nextOrder := Or.inl (z_mem (z_m8 132 rfl) rfl)
theorem zl_RX12_431 : zlink RX12 431 yX12_wayFrom := Or.inl (z_mem (z_m8 128 rfl) rfl)
theorem zl_RX12_434 : zlink RX12 434 yX12_wayOf := Or.inl (z_mem (z_m8 124 rfl) rfl)
theorem zl_RX12_437 : zlink RX12 437 yX12_turnsOf := Or.inl (z_mem (z_m8 148 rfl) rfl)
theorem zl_RX12_440 : zlink RX12 440 yX12_overAll := Or.inl (z_mem (z_m8 164 rfl) rfl)
theorem zl_RX12_443 : zlink RX12 443 yX12_manyOn := Or.inl (z_mem (z_m8 184 rfl) rfl)
theorem zl_RX12_446 : zlink RX12 446 yX12_whoseAt := Or.inl (z_mem (z_m8 188 rfl) rfl)
theorem zl_RX12_449 : zlink RX12 449 yX12_isStreet := Or.inl (z_mem (z_m8 180 rfl) rfl)
theorem zl_RX12_452 : zlink RX12 452 yX12_topOf := Or.inl (z_mem (z_m8 196 rfl) rfl)
theorem wp_RX12_455 (k0 : zK) : zFput RX12 455 12 64 k0 := ⟨by decide, by decide, (z_mem (z_m6 165 rfl) rfl), Or.inl (by decide +kernel)⟩
theorem wp_RX12_458 (k0 : zK) : zFput RX12 458 12 65 k0 := ⟨by decide, by decide, (z_mem (z_m6 166 rfl) rfl), Or.inl (by decide +kernel)⟩
theorem wf_RX12_153 : zF RX12 153 12 66 := ⟨by decide, by decide, Or.inl (z_mem (z_m6 167 rfl) rfl)⟩
theorem wf_RX12_455 : zF RX12 455 12 64 := ⟨by decide, by decide, Or.inl (z_mem (z_m6 165 rfl) rfl)⟩
theorem wf_RX12_458 : zF RX12 458 12 65 := ⟨by decide, by decide, Or.inl (z_mem (z_m6 166 rfl) rfl)⟩
theorem zl_RX12_461 : zlink RX12 461 yX12_duskBy := Or.inl (z_mem (z_m8 212 rfl) rfl)
theorem zl_RX12_464 : zlink RX12 464 yX12_knowsNow := Or.inl (z_mem (z_m8 224 rfl) rfl)
theorem zl_RX12_467 : zlink RX12 467 yX12_linkedTo := Or.inl (z_mem (z_m8 232 rfl) rfl)
theorem zl_RX12_470 : zlink RX12 470 yX12_comesTo := Or.inl (z_mem (z_m9 4 rfl) rfl)
theorem wf_RX12_156 : zF RX12 156 12 67 := ⟨by decide, by decide, Or.inl (z_mem (z_m6 168 rfl) rfl)⟩
theorem zl_RX12_473 : zlink RX12 473 yX12_walks := Or.inl (z_mem (z_m9 12 rfl) rfl)
theorem wf_RX12_159 : zF RX12 159 12 68 := ⟨by decide, by decide, Or.inl (z_mem (z_m6 169 rfl) rfl)⟩
theorem wf_RX12_286 : zF RX12 286 12 69 := ⟨by decide, by decide, Or.inl (z_mem (z_m6 170 rfl) rfl)⟩
theorem wf_RX12_162 : zF RX12 162 12 70 := ⟨by decide, by decide, Or.inl (z_mem (z_m6 171 rfl) rfl)⟩
theorem wf_RX12_165 : zF RX12 165 12 71 := ⟨by decide, by decide, Or.inl (z_mem (z_m6 172 rfl) rfl)⟩
theorem wf_RX12_168 : zF RX12 168 12 72 := ⟨by decide, by decide, Or.inl (z_mem (z_m6 173 rfl) rfl)⟩
theorem zl_RX12_476 : zlink RX12 476 yX12_isSo := Or.inl (z_mem (z_m9 28 rfl) rfl)
theorem wf_RX12_174 : zF RX12 174 12 74 := ⟨by decide, by decide, Or.inl (z_mem (z_m6 175 rfl) rfl)⟩
theorem zl_RX0_3 : Cond.methodLink RX0 3 objectInit ∈ zT := (z_mem (z_m2 62 rfl) rfl)
theorem wp_RX0_9 (k0 : zK) (h : k0.2.2.2.2.name = "<init>") : zFput RX0 9 0 1 k0 := ⟨by decide, by decide, (z_mem (z_m2 66 rfl) rfl), Or.inr ⟨h, by decide +kernel⟩⟩
theorem wp_RX0_15 (k0 : zK) (h : k0.2.2.2.2.name = "<init>") : zFput RX0 15 0 2 k0 := ⟨by decide, by decide, (z_mem (z_m2 68 rfl) rfl), Or.inr ⟨h, by decide +kernel⟩⟩
theorem wp_RX0_18 (k0 : zK) (h : k0.2.2.2.2.name = "<init>") : zFput RX0 18 0 3 k0 := ⟨by decide, by decide, (z_mem (z_m2 70 rfl) rfl), Or.inr ⟨h, by decide +kernel⟩⟩
theorem wp_RX0_21 (k0 : zK) (h : k0.2.2.2.2.name = "<init>") : zFput RX0 21 0 4 k0 := ⟨by decide, by decide, (z_mem (z_m2 74 rfl) rfl), Or.inr ⟨h, by decide +kernel⟩⟩
theorem wp_RX0_24 (k0 : zK) (h : k0.2.2.2.2.name = "<init>") : zFput RX0 24 0 5 k0 := ⟨by decide, by decide, (z_mem (z_m2 76 rfl) rfl), Or.inr ⟨h, by decide +kernel⟩⟩
theorem wp_RX0_27 (k0 : zK) (h : k0.2.2.2.2.name = "<init>") : zFput RX0 27 0 6 k0 := ⟨by decide, by decide, (z_mem (z_m2 79 rfl) rfl), Or.inr ⟨h, by decide +kernel⟩⟩
theorem wp_RX0_30 (k0 : zK) (h : k0.2.2.2.2.name = "<init>") : zFput RX0 30 0 7 k0 := ⟨by decide, by decide, (z_mem (z_m2 81 rfl) rfl), Or.inr ⟨h, by decide +kernel⟩⟩
theorem wp_RX0_33 (k0 : zK) (h : k0.2.2.2.2.name = "<init>") : zFput RX0 33 0 8 k0 := ⟨by decide, by decide, (z_mem (z_m2 83 rfl) rfl), Or.inr ⟨h, by decide +kernel⟩⟩
theorem wp_RX0_36 (k0 : zK) (h : k0.2.2.2.2.name = "<init>") : zFput RX0 36 0 9 k0 := ⟨by decide, by decide, (z_mem (z_m2 85 rfl) rfl), Or.inr ⟨h, by decide +kernel⟩⟩
theorem wp_RX0_39 (k0 : zK) : zFput RX0 39 0 0 k0 := ⟨by decide, by decide, (z_mem (z_m2 63 rfl) rfl), Or.inl (by decide +kernel)⟩
theorem wp_RX0_43 (k0 : zK) : zFput RX0 43 0 10 k0 := ⟨by decide, by decide, (z_mem (z_m2 88 rfl) rfl), Or.inl (by decide +kernel)⟩
theorem wf_RX0_46 : zF RX0 46 6 7 := ⟨by decide, by decide, Or.inl (z_mem (z_m1 92 rfl) rfl)⟩
theorem wf_RX0_9 : zF RX0 9 0 1 := ⟨by decide, by decide, Or.inl (z_mem (z_m2 66 rfl) rfl)⟩
theorem zl_RX0_51 : zlink RX0 51 yX11_copyRow := Or.inr ⟨"ThreadTown", (z_m3 9 rfl)⟩
theorem wf_RX0_55 : zF RX0 55 6 8 := ⟨by decide, by decide, Or.inl (z_mem (z_m1 98 rfl) rfl)⟩
theorem wf_RX0_15 : zF RX0 15 0 2 := ⟨by decide, by decide, Or.inl (z_mem (z_m2 68 rfl) rfl)⟩
theorem wf_RX0_18 : zF RX0 18 0 3 := ⟨by decide, by decide, Or.inl (z_mem (z_m2 70 rfl) rfl)⟩
theorem zl_RX0_58 : zlink RX0 58 yJ7_fill_53178 := Or.inl (z_mem (z_m3 18 rfl) rfl)
theorem wf_RX0_21 : zF RX0 21 0 4 := ⟨by decide, by decide, Or.inl (z_mem (z_m2 74 rfl) rfl)⟩
theorem wf_RX0_36 : zF RX0 36 0 9 := ⟨by decide, by decide, Or.inl (z_mem (z_m2 85 rfl) rfl)⟩
theorem wf_RX0_39 : zF RX0 39 0 0 := ⟨by decide, by decide, Or.inl (z_mem (z_m2 63 rfl) rfl)⟩
theorem wf_RX0_43 : zF RX0 43 0 10 := ⟨by decide, by decide, Or.inl (z_mem (z_m2 88 rfl) rfl)⟩
theorem wf_RX0_24 : zF RX0 24 0 5 := ⟨by decide, by decide, Or.inl (z_mem (z_m2 76 rfl) rfl)⟩
theorem wf_RX0_27 : zF RX0 27 0 6 := ⟨by decide, by decide, Or.inl (z_mem (z_m2 79 rfl) rfl)⟩
theorem wf_RX0_30 : zF RX0 30 0 7 := ⟨by decide, by decide, Or.inl (z_mem (z_m2 81 rfl) rfl)⟩
theorem wf_RX0_33 : zF RX0 33 0 8 := ⟨by decide, by decide, Or.inl (z_mem (z_m2 83 rfl) rfl)⟩
theorem wf_RX0_64 : zF RX0 64 6 10 := ⟨by decide, by decide, Or.inl (z_mem (z_m1 106 rfl) rfl)⟩
theorem zl_RX0_67 : zlink RX0 67 yX11_at := Or.inr ⟨"ThreadTown", (z_m4 42 rfl)⟩
theorem zl_RX0_71 : zlink RX0 71 yX0_left := Or.inl (z_mem (z_m4 53 rfl) rfl)
theorem zl_RX0_75 : zlink RX0 75 yX6_hasStreet := Or.inl (z_mem (z_m4 89 rfl) rfl)
theorem zl_RX0_79 : zlink RX0 79 yX0_canLay := Or.inl (z_mem (z_m4 111 rfl) rfl)
theorem zl_RX0_83 : zlink RX0 83 yX11_pieceOf := Or.inr ⟨"ThreadTown", (z_m4 112 rfl)⟩
theorem zl_RX0_87 : zlink RX0 87 yX11_streetOf := Or.inr ⟨"ThreadTown", (z_m4 113 rfl)⟩
theorem zl_RX0_91 : zlink RX0 91 yX11_put := Or.inr ⟨"ThreadTown", (z_m4 116 rfl)⟩
theorem zg_RX0_95 : zgl RX0 95 "STEP_X" := Or.inr ⟨"ThreadTown", (z_m4 117 rfl)⟩
theorem zg_RX0_98 : zgl RX0 98 "STEP_Y" := Or.inr ⟨"ThreadTown", (z_m4 118 rfl)⟩
theorem zl_RX0_101 : zlink RX0 101 yX0_lastOf := Or.inl (z_mem (z_m4 127 rfl) rfl)
theorem zl_RX0_105 : zlink RX0 105 yX0_canTakeUp := Or.inl (z_mem (z_m4 135 rfl) rfl)
theorem zl_RX0_109 : zlink RX0 109 yX0_takeUp := Or.inl (z_mem (z_m4 144 rfl) rfl)
theorem zl_RX0_112 : zlink RX0 112 yX0_pullOut := Or.inl (z_mem (z_m4 153 rfl) rfl)
theorem zl_RX0_116 : zlink RX0 116 yX6_goesAt := Or.inl (z_mem (z_m4 54 rfl) rfl)
theorem zl_RX0_120 : zlink RX0 120 yX0_wants := Or.inl (z_mem (z_m4 169 rfl) rfl)
theorem zl_RX0_124 : zlink RX0 124 yX0_lay := Or.inl (z_mem (z_m4 170 rfl) rfl)
theorem wf_RX0_128 : zF RX0 128 6 2 := ⟨by decide, by decide, Or.inl (z_mem (z_m1 79 rfl) rfl)⟩
theorem zl_RX0_131 : zlink RX0 131 yX0_act := Or.inl (z_mem (z_m4 165 rfl) rfl)
theorem zl_RX0_134 : zlink RX0 134 yX0_countUnder := Or.inl (z_mem (z_m4 80 rfl) rfl)
theorem zl_RX0_137 : zlink RX0 137 yX11_ownerOf := Or.inr ⟨"ThreadTown", (z_m4 191 rfl)⟩
theorem zl_RX0_140 : zlink RX0 140 yX0_countOver := Or.inl (z_mem (z_m5 90 rfl) rfl)
theorem zl_RX0_143 : zlink RX0 143 yX11_apart := Or.inr ⟨"ThreadTown", (z_m5 81 rfl)⟩
theorem zl_RX1_3 : Cond.methodLink RX1 3 objectInit ∈ zT := (z_mem (z_m2 209 rfl) rfl)
theorem wp_RX1_9 (k0 : zK) (h : k0.2.2.2.2.name = "<init>") : zFput RX1 9 1 2 k0 := ⟨by decide, by decide, (z_mem (z_m2 214 rfl) rfl), Or.inr ⟨h, by decide +kernel⟩⟩
theorem zl_RX1_15 : zlink RX1 15 yX0_copy := Or.inl (z_mem (z_m5 110 rfl) rfl)
theorem wp_RX1_21 (k0 : zK) : zFput RX1 21 1 0 k0 := ⟨by decide, by decide, (z_mem (z_m2 210 rfl) rfl), Or.inl (by decide +kernel)⟩
theorem wp_RX1_25 (k0 : zK) : zFput RX1 25 1 1 k0 := ⟨by decide, by decide, (z_mem (z_m2 212 rfl) rfl), Or.inl (by decide +kernel)⟩
theorem wf_RX1_28 : zF RX1 28 6 2 := ⟨by decide, by decide, Or.inl (z_mem (z_m1 75 rfl) rfl)⟩
theorem wf_RX1_9 : zF RX1 9 1 2 := ⟨by decide, by decide, Or.inl (z_mem (z_m2 214 rfl) rfl)⟩
theorem zl_RX1_33 : zlink RX1 33 yX1_wishOf := Or.inl (z_mem (z_m5 111 rfl) rfl)
theorem zl_RX1_37 : zlink RX1 37 yX11_put := Or.inr ⟨"ThreadTown", (z_m5 119 rfl)⟩
theorem zl_RX1_41 : zlink RX1 41 yX1_windOnce := Or.inl (z_mem (z_m5 120 rfl) rfl)
theorem wf_RX1_21 : zF RX1 21 1 0 := ⟨by decide, by decide, Or.inl (z_mem (z_m2 210 rfl) rfl)⟩
theorem wf_RX1_25 : zF RX1 25 1 1 := ⟨by decide, by decide, Or.inl (z_mem (z_m2 212 rfl) rfl)⟩
theorem wf_RX1_45 : zF RX1 45 0 3 := ⟨by decide, by decide, Or.inl (z_mem (z_m2 71 rfl) rfl)⟩
theorem zl_RX1_48 : zlink RX1 48 yX11_at := Or.inr ⟨"ThreadTown", (z_m5 115 rfl)⟩
theorem zl_RX1_52 : zlink RX1 52 yX0_left := Or.inl (z_mem (z_m5 116 rfl) rfl)
theorem wf_RX1_56 : zF RX1 56 0 8 := ⟨by decide, by decide, Or.inl (z_mem (z_m2 84 rfl) rfl)⟩
theorem zl_RX1_59 : zlink RX1 59 yX0_lastOf := Or.inl (z_mem (z_m5 117 rfl) rfl)
theorem wf_RX1_63 : zF RX1 63 6 4 := ⟨by decide, by decide, Or.inl (z_mem (z_m1 85 rfl) rfl)⟩
theorem wf_RX1_66 : zF RX1 66 0 0 := ⟨by decide, by decide, Or.inl (z_mem (z_m2 64 rfl) rfl)⟩
theorem zl_RX1_69 : zlink RX1 69 yX11_lot := Or.inr ⟨"ThreadTown", (z_m5 118 rfl)⟩
theorem zl_RX1_73 : zlink RX1 73 yX1_greatest := Or.inl (z_mem (z_m5 124 rfl) rfl)
theorem zl_RX1_76 : zlink RX1 76 yX0_takeUp := Or.inl (z_mem (z_m5 128 rfl) rfl)
theorem zl_RX2_3 : Cond.methodLink RX2 3 objectInit ∈ zT := (z_mem (z_m1 47 rfl) rfl)
theorem wp_RX2_9 (k0 : zK) (h : k0.2.2.2.2.name = "<init>") : zFput RX2 9 2 1 k0 := ⟨by decide, by decide, (z_mem (z_m1 51 rfl) rfl), Or.inr ⟨h, by decide +kernel⟩⟩
theorem wp_RX2_15 (k0 : zK) (h : k0.2.2.2.2.name = "<init>") : zFput RX2 15 2 2 k0 := ⟨by decide, by decide, (z_mem (z_m1 52 rfl) rfl), Or.inr ⟨h, by decide +kernel⟩⟩
theorem wp_RX2_18 (k0 : zK) (h : k0.2.2.2.2.name = "<init>") : zFput RX2 18 2 3 k0 := ⟨by decide, by decide, (z_mem (z_m1 53 rfl) rfl), Or.inr ⟨h, by decide +kernel⟩⟩
theorem wp_RX2_21 (k0 : zK) (h : k0.2.2.2.2.name = "<init>") : zFput RX2 21 2 4 k0 := ⟨by decide, by decide, (z_mem (z_m1 54 rfl) rfl), Or.inr ⟨h, by decide +kernel⟩⟩
theorem wf_RX2_9 : zF RX2 9 2 1 := ⟨by decide, by decide, Or.inl (z_mem (z_m1 51 rfl) rfl)⟩
theorem wf_RX2_24 : zF RX2 24 2 0 := ⟨by decide, by decide, Or.inl (z_mem (z_m1 48 rfl) rfl)⟩
theorem zl_RX2_28 : zlink RX2 28 yX11_put := Or.inr ⟨"ThreadTown", (z_m3 191 rfl)⟩
theorem wf_RX2_15 : zF RX2 15 2 2 := ⟨by decide, by decide, Or.inl (z_mem (z_m1 52 rfl) rfl)⟩
theorem wp_RX2_24 (k0 : zK) : zFput RX2 24 2 0 k0 := ⟨by decide, by decide, (z_mem (z_m1 48 rfl) rfl), Or.inl (by decide +kernel)⟩
theorem wf_RX2_18 : zF RX2 18 2 3 := ⟨by decide, by decide, Or.inl (z_mem (z_m1 53 rfl) rfl)⟩
theorem zl_RX2_32 : zlink RX2 32 yX11_at := Or.inr ⟨"ThreadTown", (z_m4 12 rfl)⟩
theorem wf_RX2_21 : zF RX2 21 2 4 := ⟨by decide, by decide, Or.inl (z_mem (z_m1 54 rfl) rfl)⟩
theorem zl_RX2_36 : zlink RX2 36 yX2_reckon := Or.inl (z_mem (z_m4 13 rfl) rfl)
theorem zl_RX3_3 : Cond.methodLink RX3 3 objectInit ∈ zT := (z_mem (z_m2 117 rfl) rfl)
theorem zn_RX3_9 : Cond.classLink RX3 9 (zcR 0) ∈ zT := (z_mem (z_m2 118 rfl) rfl)
theorem wp_RX3_11 (k0 : zK) (h : k0.2.2.2.2.name = "<init>") : zFput RX3 11 3 1 k0 := ⟨by decide, by decide, (z_mem (z_m2 123 rfl) rfl), Or.inr ⟨h, by decide +kernel⟩⟩
theorem wp_RX3_17 (k0 : zK) (h : k0.2.2.2.2.name = "<init>") : zFput RX3 17 3 2 k0 := ⟨by decide, by decide, (z_mem (z_m2 124 rfl) rfl), Or.inr ⟨h, by decide +kernel⟩⟩
theorem wp_RX3_20 (k0 : zK) (h : k0.2.2.2.2.name = "<init>") : zFput RX3 20 3 3 k0 := ⟨by decide, by decide, (z_mem (z_m2 125 rfl) rfl), Or.inr ⟨h, by decide +kernel⟩⟩
theorem wf_RX3_11 : zF RX3 11 3 1 := ⟨by decide, by decide, Or.inl (z_mem (z_m2 123 rfl) rfl)⟩
theorem zl_RX3_24 : zlink RX3 24 yX0_init := Or.inr ⟨"ThreadTown", (z_m2 120 rfl)⟩
theorem wf_RX3_17 : zF RX3 17 3 2 := ⟨by decide, by decide, Or.inl (z_mem (z_m2 124 rfl) rfl)⟩
theorem wp_RX3_25 (k0 : zK) : zFput RX3 25 3 0 k0 := ⟨by decide, by decide, (z_mem (z_m2 121 rfl) rfl), Or.inl (by decide +kernel)⟩
theorem wf_RX3_20 : zF RX3 20 3 3 := ⟨by decide, by decide, Or.inl (z_mem (z_m2 125 rfl) rfl)⟩
theorem zl_RX3_29 : zlink RX3 29 yJ7_fill_53178 := Or.inl (z_mem (z_m4 24 rfl) rfl)
theorem wf_RX3_35 : zF RX3 35 3 4 := ⟨by decide, by decide, Or.inl (z_mem (z_m2 126 rfl) rfl)⟩
theorem zl_RX3_38 : zlink RX3 38 yX0_copy := Or.inl (z_mem (z_m4 102 rfl) rfl)
theorem wp_RX3_35 (k0 : zK) : zFput RX3 35 3 4 k0 := ⟨by decide, by decide, (z_mem (z_m2 126 rfl) rfl), Or.inl (by decide +kernel)⟩
theorem wf_RX3_25 : zF RX3 25 3 0 := ⟨by decide, by decide, Or.inl (z_mem (z_m2 121 rfl) rfl)⟩
theorem zl_RX3_42 : Cond.methodLink RX3 42 Lib.Math.min.name ∈ zT := (z_mem (z_m4 106 rfl) rfl)
theorem zl_RX3_48 : zlink RX3 48 yX3_slotAt := Or.inl (z_mem (z_m6 50 rfl) rfl)
theorem zl_RX3_52 : zlink RX3 52 yX11_put := Or.inr ⟨"ThreadTown", (z_m6 54 rfl)⟩
theorem zl_RX3_56 : zlink RX3 56 yX11_at := Or.inr ⟨"ThreadTown", (z_m6 63 rfl)⟩
theorem zl_RX4_3 : Cond.methodLink RX4 3 objectInit ∈ zT := (z_mem (z_m2 188 rfl) rfl)
theorem wp_RX4_9 (k0 : zK) (h : k0.2.2.2.2.name = "<init>") : zFput RX4 9 4 2 k0 := ⟨by decide, by decide, (z_mem (z_m2 193 rfl) rfl), Or.inr ⟨h, by decide +kernel⟩⟩
theorem wp_RX4_15 (k0 : zK) (h : k0.2.2.2.2.name = "<init>") : zFput RX4 15 4 3 k0 := ⟨by decide, by decide, (z_mem (z_m2 194 rfl) rfl), Or.inr ⟨h, by decide +kernel⟩⟩
theorem wf_RX4_9 : zF RX4 9 4 2 := ⟨by decide, by decide, Or.inl (z_mem (z_m2 193 rfl) rfl)⟩
theorem zl_RX4_18 : zlink RX4 18 yJ7_fill_53178 := Or.inl (z_mem (z_m5 201 rfl) rfl)
theorem wf_RX4_24 : zF RX4 24 6 2 := ⟨by decide, by decide, Or.inl (z_mem (z_m1 73 rfl) rfl)⟩
theorem zl_RX4_30 : zlink RX4 30 yX10_prepare := Or.inl (z_mem (z_m5 202 rfl) rfl)
theorem zl_RX4_36 : zlink RX4 36 yX10_findOrder := Or.inl (z_mem (z_m5 203 rfl) rfl)
theorem zl_RX4_39 : zlink RX4 39 yX4_walk := Or.inl (z_mem (z_m5 204 rfl) rfl)
theorem wf_RX4_15 : zF RX4 15 4 3 := ⟨by decide, by decide, Or.inl (z_mem (z_m2 194 rfl) rfl)⟩
theorem zl_RX4_43 : zlink RX4 43 yX4_countMeetings := Or.inl (z_mem (z_m5 221 rfl) rfl)
theorem zl_RX4_47 : zlink RX4 47 yX11_put := Or.inr ⟨"ThreadTown", (z_m5 216 rfl)⟩
theorem zk_RX4_51 : Cond.constant RX4 51 (1000000) ∈ zT := (z_mem (z_m5 225 rfl) rfl)
theorem wp_RX4_52 (k0 : zK) : zFput RX4 52 4 0 k0 := ⟨by decide, by decide, (z_mem (z_m2 189 rfl) rfl), Or.inl (by decide +kernel)⟩
theorem zl_RX4_55 : zlink RX4 55 yX4_countAll := Or.inl (z_mem (z_m5 226 rfl) rfl)
theorem wf_RX4_52 : zF RX4 52 4 0 := ⟨by decide, by decide, Or.inl (z_mem (z_m2 189 rfl) rfl)⟩
theorem wp_RX4_58 (k0 : zK) : zFput RX4 58 4 1 k0 := ⟨by decide, by decide, (z_mem (z_m2 191 rfl) rfl), Or.inl (by decide +kernel)⟩
theorem wf_RX4_61 : zF RX4 61 6 7 := ⟨by decide, by decide, Or.inl (z_mem (z_m1 93 rfl) rfl)⟩
theorem zl_RX4_64 : zlink RX4 64 yX11_at := Or.inr ⟨"ThreadTown", (z_m5 208 rfl)⟩
theorem wf_RX4_68 : zF RX4 68 6 8 := ⟨by decide, by decide, Or.inl (z_mem (z_m1 99 rfl) rfl)⟩
theorem wf_RX4_71 : zF RX4 71 6 12 := ⟨by decide, by decide, Or.inl (z_mem (z_m1 113 rfl) rfl)⟩
theorem wf_RX4_74 : zF RX4 74 10 0 := ⟨by decide, by decide, Or.inl (z_mem (z_m2 175 rfl) rfl)⟩
theorem wf_RX4_77 : zF RX4 77 6 13 := ⟨by decide, by decide, Or.inl (z_mem (z_m1 118 rfl) rfl)⟩
theorem wf_RX4_80 : zF RX4 80 6 14 := ⟨by decide, by decide, Or.inl (z_mem (z_m1 121 rfl) rfl)⟩
theorem zl_RX4_83 : Cond.methodLink RX4 83 Lib.Math.min.name ∈ zT := (z_mem (z_m5 209 rfl) rfl)
theorem zl_RX4_88 : Cond.methodLink RX4 88 Lib.Math.max.name ∈ zT := (z_mem (z_m5 210 rfl) rfl)
theorem zl_RX4_91 : zlink RX4 91 yX4_layAlongX := Or.inl (z_mem (z_m5 211 rfl) rfl)
theorem zl_RX4_95 : zlink RX4 95 yX4_layAlongY := Or.inl (z_mem (z_m5 217 rfl) rfl)
theorem zl_RX4_98 : zlink RX4 98 yX11_streetOf := Or.inr ⟨"ThreadTown", (z_m5 215 rfl)⟩
theorem zl_RX5_5 : Cond.methodLink RX5 5 objectInit ∈ zT := (z_mem (z_m1 35 rfl) rfl)
theorem zn_RX5_11 : Cond.classLink RX5 11 (zcR 6) ∈ zT := (z_mem (z_m1 36 rfl) rfl)
theorem zl_RX5_13 : zlink RX5 13 yX6_init := Or.inl (z_mem (z_m1 38 rfl) rfl)
theorem wp_RX5_14 (k0 : zK) : zFput RX5 14 5 0 k0 := ⟨by decide, by decide, (z_mem (z_m2 4 rfl) rfl), Or.inl (by decide +kernel)⟩
theorem zn_RX5_18 : Cond.classLink RX5 18 (zcR 8) ∈ zT := (z_mem (z_m1 165 rfl) rfl)
theorem zl_RX5_20 : zlink RX5 20 yX8_init := Or.inl (z_mem (z_m1 167 rfl) rfl)
theorem wp_RX5_21 (k0 : zK) (h : k0.2.2.2.2.name = "<init>") : zFput RX5 21 5 2 k0 := ⟨by decide, by decide, (z_mem (z_m2 8 rfl) rfl), Or.inr ⟨h, by decide +kernel⟩⟩
theorem wp_RX5_25 (k0 : zK) (h : k0.2.2.2.2.name = "<init>") : zFput RX5 25 5 9 k0 := ⟨by decide, by decide, (z_mem (z_m2 15 rfl) rfl), Or.inr ⟨h, by decide +kernel⟩⟩
theorem wp_RX5_29 (k0 : zK) (h : k0.2.2.2.2.name = "<init>") : zFput RX5 29 5 10 k0 := ⟨by decide, by decide, (z_mem (z_m2 16 rfl) rfl), Or.inr ⟨h, by decide +kernel⟩⟩
theorem wp_RX5_32 (k0 : zK) (h : k0.2.2.2.2.name = "<init>") : zFput RX5 32 5 11 k0 := ⟨by decide, by decide, (z_mem (z_m2 17 rfl) rfl), Or.inr ⟨h, by decide +kernel⟩⟩
theorem wp_RX5_35 (k0 : zK) (h : k0.2.2.2.2.name = "<init>") : zFput RX5 35 5 13 k0 := ⟨by decide, by decide, (z_mem (z_m2 19 rfl) rfl), Or.inr ⟨h, by decide +kernel⟩⟩
theorem wf_RX5_21 : zF RX5 21 5 2 := ⟨by decide, by decide, Or.inl (z_mem (z_m2 8 rfl) rfl)⟩
theorem zl_RX5_38 : zlink RX5 38 yX8_split := Or.inl (z_mem (z_m3 84 rfl) rfl)
theorem wf_RX5_14 : zF RX5 14 5 0 := ⟨by decide, by decide, Or.inl (z_mem (z_m2 4 rfl) rfl)⟩
theorem zl_RX5_42 : zlink RX5 42 yX6_clear := Or.inl (z_mem (z_m3 120 rfl) rfl)
theorem wp_RX5_45 (k0 : zK) : zFput RX5 45 5 6 k0 := ⟨by decide, by decide, (z_mem (z_m2 12 rfl) rfl), Or.inl (by decide +kernel)⟩
theorem wp_RX5_49 (k0 : zK) : zFput RX5 49 5 7 k0 := ⟨by decide, by decide, (z_mem (z_m2 13 rfl) rfl), Or.inl (by decide +kernel)⟩
theorem wp_RX5_52 (k0 : zK) : zFput RX5 52 5 12 k0 := ⟨by decide, by decide, (z_mem (z_m2 18 rfl) rfl), Or.inl (by decide +kernel)⟩
theorem wp_RX5_55 (k0 : zK) : zFput RX5 55 5 3 k0 := ⟨by decide, by decide, (z_mem (z_m2 9 rfl) rfl), Or.inl (by decide +kernel)⟩
theorem zl_RX5_58 : zlink RX5 58 yX5_look := Or.inl (z_mem (z_m3 124 rfl) rfl)
theorem wf_RX5_45 : zF RX5 45 5 6 := ⟨by decide, by decide, Or.inl (z_mem (z_m2 12 rfl) rfl)⟩
theorem wf_RX5_61 : zF RX5 61 5 4 := ⟨by decide, by decide, Or.inl (z_mem (z_m2 10 rfl) rfl)⟩
theorem zl_RX5_64 : zlink RX5 64 yX5_take := Or.inl (z_mem (z_m3 133 rfl) rfl)
theorem zl_RX5_68 : zlink RX5 68 yX5_takeInt := Or.inl (z_mem (z_m3 141 rfl) rfl)
theorem wp_RX5_72 (k0 : zK) : zFput RX5 72 6 0 k0 := ⟨by decide, by decide, (z_mem (z_m1 68 rfl) rfl), Or.inl (by decide +kernel)⟩
theorem wp_RX5_75 (k0 : zK) : zFput RX5 75 6 1 k0 := ⟨by decide, by decide, (z_mem (z_m1 71 rfl) rfl), Or.inl (by decide +kernel)⟩
theorem zl_RX5_78 : zlink RX5 78 yX5_readMan := Or.inl (z_mem (z_m3 149 rfl) rfl)
theorem wf_RX5_81 : zF RX5 81 6 9 := ⟨by decide, by decide, Or.inl (z_mem (z_m1 104 rfl) rfl)⟩
theorem zl_RX5_84 : zlink RX5 84 yX5_takeMan := Or.inl (z_mem (z_m3 171 rfl) rfl)
theorem zl_RX5_88 : zlink RX5 88 yX5_readLaw := Or.inl (z_mem (z_m3 175 rfl) rfl)
theorem zl_RX5_91 : zlink RX5 91 yX11_put := Or.inr ⟨"ThreadTown", (z_m3 165 rfl)⟩
theorem wp_RX5_95 (k0 : zK) : zFput RX5 95 6 5 k0 := ⟨by decide, by decide, (z_mem (z_m1 88 rfl) rfl), Or.inl (by decide +kernel)⟩
theorem zl_RX5_98 : zlink RX5 98 yX5_readErrand := Or.inl (z_mem (z_m3 215 rfl) rfl)
theorem zl_RX5_101 : zlink RX5 101 yX5_readPillar := Or.inl (z_mem (z_m3 224 rfl) rfl)
theorem wf_RX5_104 : zF RX5 104 6 11 := ⟨by decide, by decide, Or.inl (z_mem (z_m1 109 rfl) rfl)⟩
theorem wp_RX5_107 (k0 : zK) : zFput RX5 107 6 4 k0 := ⟨by decide, by decide, (z_mem (z_m1 86 rfl) rfl), Or.inl (by decide +kernel)⟩
theorem wf_RX5_110 : zF RX5 110 5 5 := ⟨by decide, by decide, Or.inl (z_mem (z_m2 11 rfl) rfl)⟩
theorem zl_RX5_113 : zlink RX5 113 yX5_fail := Or.inl (z_mem (z_m3 137 rfl) rfl)
theorem wf_RX5_49 : zF RX5 49 5 7 := ⟨by decide, by decide, Or.inl (z_mem (z_m2 13 rfl) rfl)⟩
theorem wf_RX5_117 : zF RX5 117 5 8 := ⟨by decide, by decide, Or.inl (z_mem (z_m2 14 rfl) rfl)⟩
theorem zl_RX5_120 : zlink RX5 120 yX5_findOutside := Or.inl (z_mem (z_m3 236 rfl) rfl)
theorem zl_RX5_123 : zlink RX5 123 yX6_measure := Or.inl (z_mem (z_m4 4 rfl) rfl)
theorem wf_RX5_52 : zF RX5 52 5 12 := ⟨by decide, by decide, Or.inl (z_mem (z_m2 18 rfl) rfl)⟩
theorem wf_RX5_29 : zF RX5 29 5 10 := ⟨by decide, by decide, Or.inl (z_mem (z_m2 16 rfl) rfl)⟩
theorem zl_RX5_126 : zlink RX5 126 yX11_at := Or.inr ⟨"ThreadTown", (z_m3 128 rfl)⟩
theorem wf_RX5_32 : zF RX5 32 5 11 := ⟨by decide, by decide, Or.inl (z_mem (z_m2 17 rfl) rfl)⟩
theorem zl_RX5_130 : zlink RX5 130 yX6_hasCorner := Or.inl (z_mem (z_m4 0 rfl) rfl)
theorem wf_RX5_25 : zF RX5 25 5 9 := ⟨by decide, by decide, Or.inl (z_mem (z_m2 15 rfl) rfl)⟩
theorem wf_RX5_134 : zF RX5 134 8 0 := ⟨by decide, by decide, Or.inl (z_mem (z_m1 222 rfl) rfl)⟩
theorem wf_RX5_55 : zF RX5 55 5 3 := ⟨by decide, by decide, Or.inl (z_mem (z_m2 9 rfl) rfl)⟩
theorem wp_RX5_61 (k0 : zK) : zFput RX5 61 5 4 k0 := ⟨by decide, by decide, (z_mem (z_m2 10 rfl) rfl), Or.inl (by decide +kernel)⟩
theorem wf_RX5_137 : zF RX5 137 8 1 := ⟨by decide, by decide, Or.inl (z_mem (z_m1 224 rfl) rfl)⟩
theorem wp_RX5_110 (k0 : zK) : zFput RX5 110 5 5 k0 := ⟨by decide, by decide, (z_mem (z_m2 11 rfl) rfl), Or.inl (by decide +kernel)⟩
theorem wp_RX5_140 (k0 : zK) : zFput RX5 140 5 1 k0 := ⟨by decide, by decide, (z_mem (z_m2 7 rfl) rfl), Or.inl (by decide +kernel)⟩
theorem wp_RX5_117 (k0 : zK) : zFput RX5 117 5 8 k0 := ⟨by decide, by decide, (z_mem (z_m2 14 rfl) rfl), Or.inl (by decide +kernel)⟩
theorem wf_RX5_143 : zF RX5 143 8 2 := ⟨by decide, by decide, Or.inl (z_mem (z_m1 226 rfl) rfl)⟩
theorem zl_RX5_146 : zlink RX5 146 yX5_failLater := Or.inl (z_mem (z_m3 145 rfl) rfl)
theorem zl_RX5_149 : zlink RX5 149 yX8_nameAt := Or.inl (z_mem (z_m3 153 rfl) rfl)
theorem zl_RX5_153 : zlink RX5 153 yX6_manNamed := Or.inl (z_mem (z_m3 157 rfl) rfl)
theorem wf_RX5_157 : zF RX5 157 6 2 := ⟨by decide, by decide, Or.inl (z_mem (z_m1 77 rfl) rfl)⟩
theorem zl_RX5_160 : zlink RX5 160 yX5_readCorner := Or.inl (z_mem (z_m3 161 rfl) rfl)
theorem zl_RX5_163 : zlink RX5 163 yX6_addMan := Or.inl (z_mem (z_m3 166 rfl) rfl)
theorem wf_RX5_167 : zF RX5 167 6 12 := ⟨by decide, by decide, Or.inl (z_mem (z_m1 114 rfl) rfl)⟩
theorem zl_RX5_170 : zlink RX5 170 yX6_addErrand := Or.inl (z_mem (z_m3 219 rfl) rfl)
theorem wf_RX5_174 : zF RX5 174 6 3 := ⟨by decide, by decide, Or.inl (z_mem (z_m1 82 rfl) rfl)⟩
theorem zl_RX5_177 : zlink RX5 177 yX6_addPillar := Or.inl (z_mem (z_m3 228 rfl) rfl)
theorem wf_RX5_180 : zF RX5 180 6 6 := ⟨by decide, by decide, Or.inl (z_mem (z_m1 90 rfl) rfl)⟩
theorem wf_RX5_184 : zF RX5 184 2 0 := ⟨by decide, by decide, Or.inl (z_mem (z_m1 50 rfl) rfl)⟩
theorem zl_RX5_189 : zlink RX5 189 yX5_readE := Or.inl (z_mem (z_m3 179 rfl) rfl)
theorem zl_RX5_192 : zlink RX5 192 yX2_add := Or.inl (z_mem (z_m3 187 rfl) rfl)
theorem zl_RX5_195 : zlink RX5 195 yX2_aim := Or.inl (z_mem (z_m3 211 rfl) rfl)
theorem wp_RX5_198 (k0 : zK) : zFput RX5 198 5 14 k0 := ⟨by decide, by decide, (z_mem (z_m2 20 rfl) rfl), Or.inl (by decide +kernel)⟩
theorem wp_RX5_201 (k0 : zK) : zFput RX5 201 5 15 k0 := ⟨by decide, by decide, (z_mem (z_m2 21 rfl) rfl), Or.inl (by decide +kernel)⟩
theorem zl_RX5_204 : zlink RX5 204 yX5_readUnit := Or.inl (z_mem (z_m3 183 rfl) rfl)
theorem zl_RX5_208 : zlink RX5 208 yX5_bindingOf := Or.inl (z_mem (z_m3 196 rfl) rfl)
theorem zl_RX5_212 : zlink RX5 212 yX5_readOperator := Or.inl (z_mem (z_m3 199 rfl) rfl)
theorem wf_RX5_201 : zF RX5 201 5 15 := ⟨by decide, by decide, Or.inl (z_mem (z_m2 21 rfl) rfl)⟩
theorem zl_RX5_215 : zlink RX5 215 yX5_readClosing := Or.inl (z_mem (z_m3 207 rfl) rfl)
theorem zl_RX5_218 : zlink RX5 218 yX5_release := Or.inl (z_mem (z_m3 203 rfl) rfl)
theorem zl_RX5_221 : zlink RX5 221 yX5_lineUp := Or.inl (z_mem (z_m3 192 rfl) rfl)
theorem wf_RX5_198 : zF RX5 198 5 14 := ⟨by decide, by decide, Or.inl (z_mem (z_m2 20 rfl) rfl)⟩
theorem wf_RX5_35 : zF RX5 35 5 13 := ⟨by decide, by decide, Or.inl (z_mem (z_m2 19 rfl) rfl)⟩
theorem zl_RX6_3 : Cond.methodLink RX6 3 objectInit ∈ zT := (z_mem (z_m1 41 rfl) rfl)
theorem zn_RX6_9 : Cond.classLink RX6 9 (zcR 2) ∈ zT := (z_mem (z_m1 42 rfl) rfl)
theorem zl_RX6_11 : zlink RX6 11 yX2_init := Or.inr ⟨"ThreadTown", (z_m1 44 rfl)⟩
theorem wp_RX6_12 (k0 : zK) (h : k0.2.2.2.2.name = "<init>") : zFput RX6 12 6 6 k0 := ⟨by decide, by decide, (z_mem (z_m1 89 rfl) rfl), Or.inr ⟨h, by decide +kernel⟩⟩
theorem wp_RX6_18 (k0 : zK) (h : k0.2.2.2.2.name = "<init>") : zFput RX6 18 6 7 k0 := ⟨by decide, by decide, (z_mem (z_m1 91 rfl) rfl), Or.inr ⟨h, by decide +kernel⟩⟩
theorem wp_RX6_22 (k0 : zK) (h : k0.2.2.2.2.name = "<init>") : zFput RX6 22 6 8 k0 := ⟨by decide, by decide, (z_mem (z_m1 97 rfl) rfl), Or.inr ⟨h, by decide +kernel⟩⟩
theorem wp_RX6_25 (k0 : zK) (h : k0.2.2.2.2.name = "<init>") : zFput RX6 25 6 9 k0 := ⟨by decide, by decide, (z_mem (z_m1 103 rfl) rfl), Or.inr ⟨h, by decide +kernel⟩⟩
theorem wp_RX6_28 (k0 : zK) (h : k0.2.2.2.2.name = "<init>") : zFput RX6 28 6 10 k0 := ⟨by decide, by decide, (z_mem (z_m1 105 rfl) rfl), Or.inr ⟨h, by decide +kernel⟩⟩
theorem wp_RX6_31 (k0 : zK) (h : k0.2.2.2.2.name = "<init>") : zFput RX6 31 6 11 k0 := ⟨by decide, by decide, (z_mem (z_m1 108 rfl) rfl), Or.inr ⟨h, by decide +kernel⟩⟩
theorem wp_RX6_34 (k0 : zK) (h : k0.2.2.2.2.name = "<init>") : zFput RX6 34 6 12 k0 := ⟨by decide, by decide, (z_mem (z_m1 111 rfl) rfl), Or.inr ⟨h, by decide +kernel⟩⟩
theorem wp_RX6_37 (k0 : zK) (h : k0.2.2.2.2.name = "<init>") : zFput RX6 37 6 13 k0 := ⟨by decide, by decide, (z_mem (z_m1 116 rfl) rfl), Or.inr ⟨h, by decide +kernel⟩⟩
theorem wp_RX6_40 (k0 : zK) (h : k0.2.2.2.2.name = "<init>") : zFput RX6 40 6 14 k0 := ⟨by decide, by decide, (z_mem (z_m1 119 rfl) rfl), Or.inr ⟨h, by decide +kernel⟩⟩
theorem wp_RX6_43 (k0 : zK) (h : k0.2.2.2.2.name = "<init>") : zFput RX6 43 6 15 k0 := ⟨by decide, by decide, (z_mem (z_m1 122 rfl) rfl), Or.inr ⟨h, by decide +kernel⟩⟩
theorem wp_RX6_46 (k0 : zK) (h : k0.2.2.2.2.name = "<init>") : zFput RX6 46 6 16 k0 := ⟨by decide, by decide, (z_mem (z_m1 124 rfl) rfl), Or.inr ⟨h, by decide +kernel⟩⟩
theorem wp_RX6_49 (k0 : zK) (h : k0.2.2.2.2.name = "<init>") : zFput RX6 49 6 17 k0 := ⟨by decide, by decide, (z_mem (z_m1 126 rfl) rfl), Or.inr ⟨h, by decide +kernel⟩⟩
theorem wp_RX6_53 (k0 : zK) : zFput RX6 53 6 0 k0 := ⟨by decide, by decide, (z_mem (z_m1 67 rfl) rfl), Or.inl (by decide +kernel)⟩
theorem wp_RX6_57 (k0 : zK) : zFput RX6 57 6 1 k0 := ⟨by decide, by decide, (z_mem (z_m1 70 rfl) rfl), Or.inl (by decide +kernel)⟩
theorem wp_RX6_60 (k0 : zK) : zFput RX6 60 6 5 k0 := ⟨by decide, by decide, (z_mem (z_m1 87 rfl) rfl), Or.inl (by decide +kernel)⟩
theorem wp_RX6_63 (k0 : zK) : zFput RX6 63 6 2 k0 := ⟨by decide, by decide, (z_mem (z_m1 74 rfl) rfl), Or.inl (by decide +kernel)⟩
theorem wp_RX6_66 (k0 : zK) : zFput RX6 66 6 3 k0 := ⟨by decide, by decide, (z_mem (z_m1 81 rfl) rfl), Or.inl (by decide +kernel)⟩
theorem wp_RX6_69 (k0 : zK) : zFput RX6 69 6 4 k0 := ⟨by decide, by decide, (z_mem (z_m1 84 rfl) rfl), Or.inl (by decide +kernel)⟩
theorem wf_RX6_12 : zF RX6 12 6 6 := ⟨by decide, by decide, Or.inl (z_mem (z_m1 89 rfl) rfl)⟩
theorem wp_RX6_72 (k0 : zK) : zFput RX6 72 2 0 k0 := ⟨by decide, by decide, (z_mem (z_m1 49 rfl) rfl), Or.inl (by decide +kernel)⟩
theorem wf_RX6_63 : zF RX6 63 6 2 := ⟨by decide, by decide, Or.inl (z_mem (z_m1 74 rfl) rfl)⟩
theorem wf_RX6_49 : zF RX6 49 6 17 := ⟨by decide, by decide, Or.inl (z_mem (z_m1 126 rfl) rfl)⟩
theorem wf_RX6_18 : zF RX6 18 6 7 := ⟨by decide, by decide, Or.inl (z_mem (z_m1 91 rfl) rfl)⟩
theorem zl_RX6_75 : zlink RX6 75 yX11_put := Or.inr ⟨"ThreadTown", (z_m3 170 rfl)⟩
theorem wf_RX6_22 : zF RX6 22 6 8 := ⟨by decide, by decide, Or.inl (z_mem (z_m1 97 rfl) rfl)⟩
theorem wf_RX6_25 : zF RX6 25 6 9 := ⟨by decide, by decide, Or.inl (z_mem (z_m1 103 rfl) rfl)⟩
theorem wf_RX6_31 : zF RX6 31 6 11 := ⟨by decide, by decide, Or.inl (z_mem (z_m1 108 rfl) rfl)⟩
theorem wf_RX6_34 : zF RX6 34 6 12 := ⟨by decide, by decide, Or.inl (z_mem (z_m1 111 rfl) rfl)⟩
theorem zl_RX6_79 : zlink RX6 79 yX11_at := Or.inr ⟨"ThreadTown", (z_m3 223 rfl)⟩
theorem wf_RX6_37 : zF RX6 37 6 13 := ⟨by decide, by decide, Or.inl (z_mem (z_m1 116 rfl) rfl)⟩
theorem wf_RX6_40 : zF RX6 40 6 14 := ⟨by decide, by decide, Or.inl (z_mem (z_m1 119 rfl) rfl)⟩
theorem wf_RX6_43 : zF RX6 43 6 15 := ⟨by decide, by decide, Or.inl (z_mem (z_m1 122 rfl) rfl)⟩
theorem wf_RX6_66 : zF RX6 66 6 3 := ⟨by decide, by decide, Or.inl (z_mem (z_m1 81 rfl) rfl)⟩
theorem wf_RX6_46 : zF RX6 46 6 16 := ⟨by decide, by decide, Or.inl (z_mem (z_m1 124 rfl) rfl)⟩
theorem wf_RX6_60 : zF RX6 60 6 5 := ⟨by decide, by decide, Or.inl (z_mem (z_m1 87 rfl) rfl)⟩
theorem zl_RX6_83 : zlink RX6 83 yX2_value := Or.inl (z_mem (z_m4 8 rfl) rfl)
theorem wf_RX6_28 : zF RX6 28 6 10 := ⟨by decide, by decide, Or.inl (z_mem (z_m1 105 rfl) rfl)⟩
theorem zl_RX6_87 : Cond.methodLink RX6 87 Lib.Math.min.name ∈ zT := (z_mem (z_m4 16 rfl) rfl)
theorem zl_RX6_93 : Cond.methodLink RX6 93 Lib.Math.max.name ∈ zT := (z_mem (z_m4 17 rfl) rfl)
theorem wf_RX6_69 : zF RX6 69 6 4 := ⟨by decide, by decide, Or.inl (z_mem (z_m1 84 rfl) rfl)⟩
theorem zl_RX6_96 : zlink RX6 96 yX11_lot := Or.inr ⟨"ThreadTown", (z_m4 58 rfl)⟩
theorem wf_RX6_53 : zF RX6 53 6 0 := ⟨by decide, by decide, Or.inl (z_mem (z_m1 67 rfl) rfl)⟩
theorem wf_RX6_57 : zF RX6 57 6 1 := ⟨by decide, by decide, Or.inl (z_mem (z_m1 70 rfl) rfl)⟩
theorem zl_RX6_100 : zlink RX6 100 yX6_hasCorner := Or.inl (z_mem (z_m4 93 rfl) rfl)
theorem zg_RX6_104 : zgl RX6 104 "STEP_X" := Or.inr ⟨"ThreadTown", (z_m4 94 rfl)⟩
theorem zg_RX6_107 : zgl RX6 107 "STEP_Y" := Or.inr ⟨"ThreadTown", (z_m4 96 rfl)⟩
theorem zl_RX6_110 : zlink RX6 110 yX11_apart := Or.inr ⟨"ThreadTown", (z_m5 40 rfl)⟩
theorem zl_RX7_3 : Cond.methodLink RX7 3 objectInit ∈ zT := (z_mem (z_m2 143 rfl) rfl)
theorem wp_RX7_9 (k0 : zK) (h : k0.2.2.2.2.name = "<init>") : zFput RX7 9 7 0 k0 := ⟨by decide, by decide, (z_mem (z_m2 144 rfl) rfl), Or.inr ⟨h, by decide +kernel⟩⟩
theorem wp_RX7_15 (k0 : zK) (h : k0.2.2.2.2.name = "<init>") : zFput RX7 15 7 1 k0 := ⟨by decide, by decide, (z_mem (z_m2 146 rfl) rfl), Or.inr ⟨h, by decide +kernel⟩⟩
theorem wp_RX7_18 (k0 : zK) (h : k0.2.2.2.2.name = "<init>") : zFput RX7 18 7 2 k0 := ⟨by decide, by decide, (z_mem (z_m2 148 rfl) rfl), Or.inr ⟨h, by decide +kernel⟩⟩
theorem wp_RX7_21 (k0 : zK) (h : k0.2.2.2.2.name = "<init>") : zFput RX7 21 7 4 k0 := ⟨by decide, by decide, (z_mem (z_m2 152 rfl) rfl), Or.inr ⟨h, by decide +kernel⟩⟩
theorem wp_RX7_24 (k0 : zK) (h : k0.2.2.2.2.name = "<init>") : zFput RX7 24 7 5 k0 := ⟨by decide, by decide, (z_mem (z_m2 154 rfl) rfl), Or.inr ⟨h, by decide +kernel⟩⟩
theorem zl_RX7_27 : zlink RX7 27 yX0_whoseThreadLies := Or.inl (z_mem (z_m4 202 rfl) rfl)
theorem wp_RX7_33 (k0 : zK) : zFput RX7 33 7 3 k0 := ⟨by decide, by decide, (z_mem (z_m2 150 rfl) rfl), Or.inl (by decide +kernel)⟩
theorem wf_RX7_9 : zF RX7 9 7 0 := ⟨by decide, by decide, Or.inl (z_mem (z_m2 144 rfl) rfl)⟩
theorem zl_RX7_37 : zlink RX7 37 yJ7_fill_53178 := Or.inl (z_mem (z_m4 206 rfl) rfl)
theorem wf_RX7_15 : zF RX7 15 7 1 := ⟨by decide, by decide, Or.inl (z_mem (z_m2 146 rfl) rfl)⟩
theorem wf_RX7_43 : zF RX7 43 0 9 := ⟨by decide, by decide, Or.inl (z_mem (z_m2 86 rfl) rfl)⟩
theorem zl_RX7_46 : zlink RX7 46 yX11_at := Or.inr ⟨"ThreadTown", (z_m4 207 rfl)⟩
theorem zl_RX7_50 : zlink RX7 50 yX7_lookAt := Or.inl (z_mem (z_m4 208 rfl) rfl)
theorem zl_RX7_54 : zlink RX7 54 yX11_ownerOf := Or.inr ⟨"ThreadTown", (z_m4 212 rfl)⟩
theorem zl_RX7_58 : zlink RX7 58 yX11_put := Or.inr ⟨"ThreadTown", (z_m4 213 rfl)⟩
theorem wf_RX7_62 : zF RX7 62 0 7 := ⟨by decide, by decide, Or.inl (z_mem (z_m2 82 rfl) rfl)⟩
theorem wf_RX7_24 : zF RX7 24 7 5 := ⟨by decide, by decide, Or.inl (z_mem (z_m2 154 rfl) rfl)⟩
theorem wf_RX7_33 : zF RX7 33 7 3 := ⟨by decide, by decide, Or.inl (z_mem (z_m2 150 rfl) rfl)⟩
theorem zl_RX7_65 : zlink RX7 65 yX7_firstFree := Or.inl (z_mem (z_m4 230 rfl) rfl)
theorem wf_RX7_18 : zF RX7 18 7 2 := ⟨by decide, by decide, Or.inl (z_mem (z_m2 148 rfl) rfl)⟩
theorem zl_RX7_68 : zlink RX7 68 yX7_findOrder := Or.inl (z_mem (z_m5 8 rfl) rfl)
theorem zl_RX7_72 : zlink RX7 72 yX7_isLess := Or.inl (z_mem (z_m5 9 rfl) rfl)
theorem zl_RX7_76 : zlink RX7 76 yJ6_bitCount_0f7a4 := Or.inl (z_mem (z_m5 12 rfl) rfl)
theorem zl_RX7_81 : zlink RX7 81 yX0_countLying := Or.inl (z_mem (z_m5 13 rfl) rfl)
theorem zl_RX7_85 : zlink RX7 85 yX7_widened := Or.inl (z_mem (z_m5 166 rfl) rfl)
theorem wf_RX7_21 : zF RX7 21 7 4 := ⟨by decide, by decide, Or.inl (z_mem (z_m2 152 rfl) rfl)⟩
theorem wf_RX7_88 : zF RX7 88 6 2 := ⟨by decide, by decide, Or.inl (z_mem (z_m1 78 rfl) rfl)⟩
theorem wf_RX7_93 : zF RX7 93 0 3 := ⟨by decide, by decide, Or.inl (z_mem (z_m2 73 rfl) rfl)⟩
theorem zl_RX7_96 : zlink RX7 96 yX7_visit := Or.inl (z_mem (z_m5 186 rfl) rfl)
theorem wf_RX7_100 : zF RX7 100 6 8 := ⟨by decide, by decide, Or.inl (z_mem (z_m1 102 rfl) rfl)⟩
theorem wf_RX7_103 : zF RX7 103 6 7 := ⟨by decide, by decide, Or.inl (z_mem (z_m1 96 rfl) rfl)⟩
theorem wf_RX7_106 : zF RX7 106 0 5 := ⟨by decide, by decide, Or.inl (z_mem (z_m2 78 rfl) rfl)⟩
theorem zl_RX7_109 : zlink RX7 109 yX11_pieceOf := Or.inr ⟨"ThreadTown", (z_m5 190 rfl)⟩
theorem zg_RX7_113 : zgl RX7 113 "STEP_Y" := Or.inr ⟨"ThreadTown", (z_m5 191 rfl)⟩
theorem zg_RX7_116 : zgl RX7 116 "STEP_X" := Or.inr ⟨"ThreadTown", (z_m5 192 rfl)⟩
theorem zl_RX8_3 : Cond.methodLink RX8 3 objectInit ∈ zT := (z_mem (z_m1 170 rfl) rfl)
theorem wp_RX8_9 (k0 : zK) (h : k0.2.2.2.2.name = "<init>") : zFput RX8 9 8 0 k0 := ⟨by decide, by decide, (z_mem (z_m1 221 rfl) rfl), Or.inr ⟨h, by decide +kernel⟩⟩
theorem wp_RX8_15 (k0 : zK) (h : k0.2.2.2.2.name = "<init>") : zFput RX8 15 8 1 k0 := ⟨by decide, by decide, (z_mem (z_m1 223 rfl) rfl), Or.inr ⟨h, by decide +kernel⟩⟩
theorem wp_RX8_18 (k0 : zK) (h : k0.2.2.2.2.name = "<init>") : zFput RX8 18 8 2 k0 := ⟨by decide, by decide, (z_mem (z_m1 225 rfl) rfl), Or.inr ⟨h, by decide +kernel⟩⟩
theorem wp_RX8_21 (k0 : zK) (h : k0.2.2.2.2.name = "<init>") : zFput RX8 21 8 3 k0 := ⟨by decide, by decide, (z_mem (z_m1 227 rfl) rfl), Or.inr ⟨h, by decide +kernel⟩⟩
theorem wp_RX8_25 (k0 : zK) (h : k0.2.2.2.2.name = "<init>") : zFput RX8 25 8 4 k0 := ⟨by decide, by decide, (z_mem (z_m1 228 rfl) rfl), Or.inr ⟨h, by decide +kernel⟩⟩
theorem zl_RX8_30 : zlink RX8 30 yJ0_length_8abf5 := Or.inl (z_mem (z_m1 172 rfl) rfl)
theorem zl_RX8_36 : zlink RX8 36 yJ0_charAt_5068e := Or.inl (z_mem (z_m1 182 rfl) rfl)
theorem zk_RX8_40 : Cond.constantLong RX8 40 (32) ∈ zT := (z_mem (z_m1 220 rfl) rfl)
theorem wf_RX8_25 : zF RX8 25 8 4 := ⟨by decide, by decide, Or.inl (z_mem (z_m1 228 rfl) rfl)⟩
theorem wf_RX8_21 : zF RX8 21 8 3 := ⟨by decide, by decide, Or.inl (z_mem (z_m1 227 rfl) rfl)⟩
theorem wp_RX8_42 (k0 : zK) : zFput RX8 42 8 5 k0 := ⟨by decide, by decide, (z_mem (z_m1 229 rfl) rfl), Or.inl (by decide +kernel)⟩
theorem zl_RX8_46 : zlink RX8 46 yX8_afterBlanks := Or.inl (z_mem (z_m3 88 rfl) rfl)
theorem zl_RX8_50 : zlink RX8 50 yX8_tokenEnd := Or.inl (z_mem (z_m3 97 rfl) rfl)
theorem zl_RX8_53 : zlink RX8 53 yX8_kindOf := Or.inl (z_mem (z_m3 106 rfl) rfl)
theorem wf_RX8_9 : zF RX8 9 8 0 := ⟨by decide, by decide, Or.inl (z_mem (z_m1 221 rfl) rfl)⟩
theorem wf_RX8_42 : zF RX8 42 8 5 := ⟨by decide, by decide, Or.inl (z_mem (z_m1 229 rfl) rfl)⟩
theorem zl_RX8_56 : zlink RX8 56 yX11_put := Or.inr ⟨"ThreadTown", (z_m3 118 rfl)⟩
theorem wf_RX8_15 : zF RX8 15 8 1 := ⟨by decide, by decide, Or.inl (z_mem (z_m1 223 rfl) rfl)⟩
theorem zl_RX8_60 : zlink RX8 60 yX11_at := Or.inr ⟨"ThreadTown", (z_m3 91 rfl)⟩
theorem zl_RX8_64 : zlink RX8 64 yX8_isBlank := Or.inl (z_mem (z_m3 94 rfl) rfl)
theorem zl_RX8_68 : zlink RX8 68 yX8_isLetter := Or.inl (z_mem (z_m3 100 rfl) rfl)
theorem zl_RX8_71 : zlink RX8 71 yX8_isDigit := Or.inl (z_mem (z_m3 103 rfl) rfl)
theorem zl_RX8_74 : zlink RX8 74 yX8_wordKind := Or.inl (z_mem (z_m3 110 rfl) rfl)
theorem zl_RX8_77 : zlink RX8 77 yX8_intKind := Or.inl (z_mem (z_m3 114 rfl) rfl)
theorem wf_RX8_18 : zF RX8 18 8 2 := ⟨by decide, by decide, Or.inl (z_mem (z_m1 225 rfl) rfl)⟩
theorem zl_RX9_3 : Cond.methodLink RX9 3 objectInit ∈ zT := (z_mem (z_m2 227 rfl) rfl)
theorem wp_RX9_9 (k0 : zK) (h : k0.2.2.2.2.name = "<init>") : zFput RX9 9 9 1 k0 := ⟨by decide, by decide, (z_mem (z_m2 230 rfl) rfl), Or.inr ⟨h, by decide +kernel⟩⟩
theorem wp_RX9_15 (k0 : zK) (h : k0.2.2.2.2.name = "<init>") : zFput RX9 15 9 2 k0 := ⟨by decide, by decide, (z_mem (z_m2 231 rfl) rfl), Or.inr ⟨h, by decide +kernel⟩⟩
theorem wp_RX9_18 (k0 : zK) (h : k0.2.2.2.2.name = "<init>") : zFput RX9 18 9 3 k0 := ⟨by decide, by decide, (z_mem (z_m2 232 rfl) rfl), Or.inr ⟨h, by decide +kernel⟩⟩
theorem wp_RX9_21 (k0 : zK) (h : k0.2.2.2.2.name = "<init>") : zFput RX9 21 9 4 k0 := ⟨by decide, by decide, (z_mem (z_m2 233 rfl) rfl), Or.inr ⟨h, by decide +kernel⟩⟩
theorem wf_RX9_24 : zF RX9 24 9 0 := ⟨by decide, by decide, Or.inl (z_mem (z_m2 228 rfl) rfl)⟩
theorem wf_RX9_9 : zF RX9 9 9 1 := ⟨by decide, by decide, Or.inl (z_mem (z_m2 230 rfl) rfl)⟩
theorem zl_RX9_28 : zlink RX9 28 yX11_put := Or.inr ⟨"ThreadTown", (z_m6 12 rfl)⟩
theorem wf_RX9_15 : zF RX9 15 9 2 := ⟨by decide, by decide, Or.inl (z_mem (z_m2 231 rfl) rfl)⟩
theorem wf_RX9_18 : zF RX9 18 9 3 := ⟨by decide, by decide, Or.inl (z_mem (z_m2 232 rfl) rfl)⟩
theorem wp_RX9_24 (k0 : zK) : zFput RX9 24 9 0 k0 := ⟨by decide, by decide, (z_mem (z_m2 228 rfl) rfl), Or.inl (by decide +kernel)⟩
theorem wf_RX9_32 : zF RX9 32 6 2 := ⟨by decide, by decide, Or.inl (z_mem (z_m1 76 rfl) rfl)⟩
theorem wf_RX9_21 : zF RX9 21 9 4 := ⟨by decide, by decide, Or.inl (z_mem (z_m2 233 rfl) rfl)⟩
theorem zl_RX9_36 : zlink RX9 36 yJ7_fill_53178 := Or.inl (z_mem (z_m6 25 rfl) rfl)
theorem zl_RX9_42 : zlink RX9 42 yX9_play := Or.inl (z_mem (z_m6 26 rfl) rfl)
theorem zl_RX9_46 : zlink RX9 46 yX9_fits := Or.inl (z_mem (z_m6 33 rfl) rfl)
theorem zl_RX9_50 : zlink RX9 50 yX9_advance := Or.inl (z_mem (z_m6 38 rfl) rfl)
theorem zl_RX9_54 : zlink RX9 54 yX0_begin := Or.inl (z_mem (z_m6 30 rfl) rfl)
theorem zl_RX9_60 : zlink RX9 60 yX11_at := Or.inr ⟨"ThreadTown", (z_m6 31 rfl)⟩
theorem zl_RX9_64 : zlink RX9 64 yX0_act := Or.inl (z_mem (z_m6 32 rfl) rfl)
theorem zl_RX9_68 : zlink RX9 68 yX0_countOver := Or.inl (z_mem (z_m6 37 rfl) rfl)
theorem zl_RX10_3 : Cond.methodLink RX10 3 objectInit ∈ zT := (z_mem (z_m2 173 rfl) rfl)
theorem wp_RX10_9 (k0 : zK) (h : k0.2.2.2.2.name = "<init>") : zFput RX10 9 10 0 k0 := ⟨by decide, by decide, (z_mem (z_m2 174 rfl) rfl), Or.inr ⟨h, by decide +kernel⟩⟩
theorem wp_RX10_15 (k0 : zK) (h : k0.2.2.2.2.name = "<init>") : zFput RX10 15 10 1 k0 := ⟨by decide, by decide, (z_mem (z_m2 177 rfl) rfl), Or.inr ⟨h, by decide +kernel⟩⟩
theorem wf_RX10_18 : zF RX10 18 6 12 := ⟨by decide, by decide, Or.inl (z_mem (z_m1 112 rfl) rfl)⟩
theorem zl_RX10_23 : zlink RX10 23 yX11_at := Or.inr ⟨"ThreadTown", (z_m5 26 rfl)⟩
theorem wf_RX10_27 : zF RX10 27 6 13 := ⟨by decide, by decide, Or.inl (z_mem (z_m1 117 rfl) rfl)⟩
theorem wf_RX10_30 : zF RX10 30 6 14 := ⟨by decide, by decide, Or.inl (z_mem (z_m1 120 rfl) rfl)⟩
theorem wf_RX10_15 : zF RX10 15 10 1 := ⟨by decide, by decide, Or.inl (z_mem (z_m2 177 rfl) rfl)⟩
theorem zl_RX10_33 : zlink RX10 33 yX10_cheapest := Or.inl (z_mem (z_m5 27 rfl) rfl)
theorem zl_RX10_37 : zlink RX10 37 yX11_put := Or.inr ⟨"ThreadTown", (z_m5 41 rfl)⟩
theorem zk_RX10_41 : Cond.constant RX10 41 (1000000) ∈ zT := (z_mem (z_m5 35 rfl) rfl)
theorem zl_RX10_42 : zlink RX10 42 yX6_errandFrom := Or.inl (z_mem (z_m5 36 rfl) rfl)
theorem zl_RX10_46 : zlink RX10 46 yX10_nextOf := Or.inl (z_mem (z_m5 31 rfl) rfl)
theorem wf_RX10_49 : zF RX10 49 6 7 := ⟨by decide, by decide, Or.inl (z_mem (z_m1 94 rfl) rfl)⟩
theorem wf_RX10_52 : zF RX10 52 6 8 := ⟨by decide, by decide, Or.inl (z_mem (z_m1 100 rfl) rfl)⟩
theorem wf_RX10_9 : zF RX10 9 10 0 := ⟨by decide, by decide, Or.inl (z_mem (z_m2 174 rfl) rfl)⟩
theorem zl_RX10_55 : zlink RX10 55 yX6_hasCorner := Or.inl (z_mem (z_m5 62 rfl) rfl)
theorem zl_RX10_59 : zlink RX10 59 yX10_fewest := Or.inl (z_mem (z_m5 63 rfl) rfl)
theorem wf_RX10_63 : zF RX10 63 6 10 := ⟨by decide, by decide, Or.inl (z_mem (z_m1 107 rfl) rfl)⟩
theorem zn_RL_7 : Cond.classLink RL 7 (zcR 11) ∈ zT := (z_mem (z_m1 22 rfl) rfl)
theorem zl_RL_9 : zlink RL 9 yX11_init := Or.inl (z_mem (z_m1 24 rfl) rfl)
theorem zn_RL_10 : Cond.classLink RL 10 (zcR 12) ∈ zT := (z_mem (z_m6 76 rfl) rfl)
theorem zl_RL_12 : zlink RL 12 yX12_init := Or.inl (z_mem (z_m6 78 rfl) rfl)
theorem zl_RL_13 : zlink RL 13 yX11_feed := Or.inl (z_mem (z_m3 61 rfl) rfl)
theorem zl_RL_17 : zlink RL 17 yX12_feed := Or.inl (z_mem (z_m7 88 rfl) rfl)
theorem zl_RL_18 : zlink RL 18 yX11_back := Or.inl (z_mem (z_m3 72 rfl) rfl)
theorem zl_RL_22 : zlink RL 22 yX12_back := Or.inl (z_mem (z_m7 96 rfl) rfl)
theorem zl_RL_23 : zlink RL 23 yX11_read := Or.inl (z_mem (z_m3 76 rfl) rfl)
theorem zl_RL_27 : zlink RL 27 yX12_read := Or.inl (z_mem (z_m7 100 rfl) rfl)
theorem zl_RL_28 : zlink RL 28 yX11_place := Or.inl (z_mem (z_m4 25 rfl) rfl)
theorem zl_RL_31 : zlink RL 31 yX12_place := Or.inl (z_mem (z_m7 206 rfl) rfl)
theorem zl_RL_32 : zlink RL 32 yX11_man := Or.inl (z_mem (z_m4 29 rfl) rfl)
theorem zl_RL_36 : zlink RL 36 yX12_man := Or.inl (z_mem (z_m7 210 rfl) rfl)
theorem zl_RL_37 : zlink RL 37 yX11_piece := Or.inl (z_mem (z_m4 65 rfl) rfl)
theorem zl_RL_41 : zlink RL 41 yX12_piece := Or.inl (z_mem (z_m8 15 rfl) rfl)
theorem zl_RL_42 : zlink RL 42 yX11_step := Or.inl (z_mem (z_m4 81 rfl) rfl)
theorem zl_RL_46 : zlink RL 46 yX12_step := Or.inl (z_mem (z_m8 23 rfl) rfl)
theorem zl_RL_47 : zlink RL 47 yX11_wind := Or.inl (z_mem (z_m4 119 rfl) rfl)
theorem zl_RL_51 : zlink RL 51 yX12_wind := Or.inl (z_mem (z_m8 49 rfl) rfl)
theorem zl_RL_52 : zlink RL 52 yX11_home := Or.inl (z_mem (z_m4 136 rfl) rfl)
theorem zl_RL_55 : zlink RL 55 yX12_home := Or.inl (z_mem (z_m8 57 rfl) rfl)
theorem zl_RL_56 : zlink RL 56 yX11_cut := Or.inl (z_mem (z_m4 145 rfl) rfl)
theorem zl_RL_59 : zlink RL 59 yX12_cut := Or.inl (z_mem (z_m8 61 rfl) rfl)
theorem zl_RL_60 : zlink RL 60 yX11_run := Or.inl (z_mem (z_m4 157 rfl) rfl)
theorem zl_RL_63 : zlink RL 63 yX12_run := Or.inl (z_mem (z_m8 65 rfl) rfl)
theorem zl_RL_64 : zlink RL 64 yX11_undo := Or.inl (z_mem (z_m4 171 rfl) rfl)
theorem zl_RL_68 : zlink RL 68 yX12_undo := Or.inl (z_mem (z_m8 73 rfl) rfl)
theorem zl_RL_69 : zlink RL 69 yX11_over := Or.inl (z_mem (z_m4 179 rfl) rfl)
theorem zl_RL_72 : zlink RL 72 yX12_over := Or.inl (z_mem (z_m8 77 rfl) rfl)
theorem zl_RL_73 : zlink RL 73 yX11_waits := Or.inl (z_mem (z_m4 194 rfl) rfl)
theorem zl_RL_76 : zlink RL 76 yX12_waits := Or.inl (z_mem (z_m8 89 rfl) rfl)
theorem zl_RL_77 : zlink RL 77 yX11_orders := Or.inl (z_mem (z_m4 214 rfl) rfl)
theorem zl_RL_80 : zlink RL 80 yX12_orders := Or.inl (z_mem (z_m8 97 rfl) rfl)
theorem zl_RL_81 : zlink RL 81 yX11_orderAt := Or.inl (z_mem (z_m4 222 rfl) rfl)
theorem zl_RL_84 : zlink RL 84 yX12_orderAt := Or.inl (z_mem (z_m8 105 rfl) rfl)
theorem zl_RL_85 : zlink RL 85 yX11_cuts := Or.inl (z_mem (z_m5 0 rfl) rfl)
theorem zl_RL_88 : zlink RL 88 yX12_cuts := Or.inl (z_mem (z_m8 109 rfl) rfl)
theorem zl_RL_89 : zlink RL 89 yX11_way := Or.inl (z_mem (z_m5 18 rfl) rfl)
theorem zl_RL_92 : zlink RL 92 yX12_way := Or.inl (z_mem (z_m8 120 rfl) rfl)
theorem zl_RL_93 : zlink RL 93 yX11_wayAt := Or.inl (z_mem (z_m5 46 rfl) rfl)
theorem zl_RL_96 : zlink RL 96 yX12_wayAt := Or.inl (z_mem (z_m8 136 rfl) rfl)
theorem zl_RL_97 : zlink RL 97 yX11_lives := Or.inl (z_mem (z_m5 54 rfl) rfl)
theorem zl_RL_100 : zlink RL 100 yX12_lives := Or.inl (z_mem (z_m8 140 rfl) rfl)
theorem zl_RL_101 : zlink RL 101 yX11_turns := Or.inl (z_mem (z_m5 64 rfl) rfl)
theorem zl_RL_104 : zlink RL 104 yX12_turns := Or.inl (z_mem (z_m8 144 rfl) rfl)
theorem zl_RL_105 : zlink RL 105 yX11_meet := Or.inl (z_mem (z_m5 72 rfl) rfl)
theorem zl_RL_108 : zlink RL 108 yX12_meet := Or.inl (z_mem (z_m8 156 rfl) rfl)
theorem zl_RL_109 : zlink RL 109 yX11_most := Or.inl (z_mem (z_m5 82 rfl) rfl)
theorem zl_RL_112 : zlink RL 112 yX12_most := Or.inl (z_mem (z_m8 160 rfl) rfl)
theorem zl_RL_113 : zlink RL 113 yX11_street := Or.inl (z_mem (z_m5 91 rfl) rfl)
theorem zl_RL_117 : zlink RL 117 yX12_street := Or.inl (z_mem (z_m8 176 rfl) rfl)
theorem zl_RL_118 : zlink RL 118 yX11_dusk := Or.inl (z_mem (z_m5 102 rfl) rfl)
theorem zl_RL_121 : zlink RL 121 yX12_dusk := Or.inl (z_mem (z_m8 208 rfl) rfl)
theorem zl_RL_122 : zlink RL 122 yX11_bestDusk := Or.inl (z_mem (z_m5 134 rfl) rfl)
theorem zl_RL_125 : zlink RL 125 yX12_bestDusk := Or.inl (z_mem (z_m8 216 rfl) rfl)
theorem zl_RL_126 : zlink RL 126 yX11_shows := Or.inl (z_mem (z_m5 138 rfl) rfl)
theorem zl_RL_129 : zlink RL 129 yX12_shows := Or.inl (z_mem (z_m8 192 rfl) rfl)
theorem zl_RL_130 : zlink RL 130 yX11_shown := Or.inl (z_mem (z_m5 142 rfl) rfl)
theorem zl_RL_133 : zlink RL 133 yX12_shown := Or.inl (z_mem (z_m8 200 rfl) rfl)
theorem zl_RL_134 : zlink RL 134 yX11_uppermost := Or.inl (z_mem (z_m5 150 rfl) rfl)
theorem zl_RL_137 : zlink RL 137 yX12_uppermost := Or.inl (z_mem (z_m8 204 rfl) rfl)
theorem zl_RL_138 : zlink RL 138 yX11_knows := Or.inl (z_mem (z_m5 154 rfl) rfl)
theorem zl_RL_141 : zlink RL 141 yX12_knows := Or.inl (z_mem (z_m8 220 rfl) rfl)
theorem zl_RL_142 : zlink RL 142 yX11_links := Or.inl (z_mem (z_m5 158 rfl) rfl)
theorem zl_RL_145 : zlink RL 145 yX12_links := Or.inl (z_mem (z_m8 228 rfl) rfl)
theorem zl_RL_146 : zlink RL 146 yX11_rounds := Or.inl (z_mem (z_m5 170 rfl) rfl)
theorem zl_RL_149 : zlink RL 149 yX12_rounds := Or.inl (z_mem (z_m8 236 rfl) rfl)
theorem zl_RL_150 : zlink RL 150 yX11_crowd := Or.inl (z_mem (z_m5 178 rfl) rfl)
theorem zl_RL_153 : zlink RL 153 yX12_crowd := Or.inl (z_mem (z_m9 0 rfl) rfl)
theorem zl_RL_154 : zlink RL 154 yX11_plain := Or.inl (z_mem (z_m5 193 rfl) rfl)
theorem zl_RL_157 : zlink RL 157 yX12_plain := Or.inl (z_mem (z_m9 8 rfl) rfl)
theorem zl_RL_158 : zlink RL 158 yX11_thieves := Or.inl (z_mem (z_m5 230 rfl) rfl)
theorem zl_RL_161 : zlink RL 161 yX12_thieves := Or.inl (z_mem (z_m8 152 rfl) rfl)

/-! the constructors' ends: the first day; all is tied -/
set_option maxHeartbeats 4000000 in
theorem BX12_init_439 {d : Nat} {Z : zZ} {I : zI} {J : zJ} {o : zO} {t u : Nat}  (hL : zLY Z t u)  (h : (∃ (I1 : zI), zE (d + 1) kX12_plain0 0 [some (.ref 420), some (.int 0), none] [] Z I J (none, Z, I1, J) ∧ (∃ (v2 : Int64), zE (d + 1) kX12_word 0 [some (.int 116), some (.int 111), some (.int 119), some (.int 110), some (.int 0), some (.int 0), some (.int 0)] [] Z I1 J (some (.long v2), Z, I1, J) ∧ (∀ J3 : zJ, J3 = zu J 427 0 v2 → (∃ (v4 : Int64), zE (d + 1) kX12_word 0 [some (.int 109), some (.int 97), some (.int 110), some (.int 0), some (.int 0), some (.int 0), some (.int 0)] [] Z I1 J3 (some (.long v4), Z, I1, J3) ∧ (∀ J5 : zJ, J5 = zu J3 427 1 v4 → (∃ (v6 : Int64), zE (d + 1) kX12_word 0 [some (.int 103), some (.int 111), some (.int 101), some (.int 115), some (.int 0), some (.int 0), some (.int 0)] [] Z I1 J5 (some (.long v6), Z, I1, J5) ∧ (∀ J7 : zJ, J7 = zu J5 427 2 v6 → (∃ (v8 : Int64), zE (d + 1) kX12_word 0 [some (.int 108), some (.int 111), some (.int 110), some (.int 103), some (.int 0), some (.int 0), some (.int 0)] [] Z I1 J7 (some (.long v8), Z, I1, J7) ∧ (∀ J9 : zJ, J9 = zu J7 427 3 v8 → (∃ (v10 : Int64), zE (d + 1) kX12_word 0 [some (.int 101), some (.int 114), some (.int 114), some (.int 97), some (.int 110), some (.int 100), some (.int 0)] [] Z I1 J9 (some (.long v10), Z, I1, J9) ∧ (∀ J11 : zJ, J11 = zu J9 427 4 v10 → (∃ (v12 : Int64), zE (d + 1) kX12_word 0 [some (.int 112), some (.int 105), some (.int 108), some (.int 108), some (.int 97), some (.int 114), some (.int 0)] [] Z I1 J11 (some (.long v12), Z, I1, J11) ∧ (∀ J13 : zJ, J13 = zu J11 427 5 v12 → (∃ (v14 : Int64), zE (d + 1) kX12_word 0 [some (.int 100), some (.int 121), some (.int 101), some (.int 0), some (.int 0), some (.int 0), some (.int 0)] [] Z I1 J13 (some (.long v14), Z, I1, J13) ∧ (∀ J15 : zJ, J15 = zu J13 427 6 v14 → (∃ (v16 : Int64), zE (d + 1) kX12_word 0 [some (.int 115), some (.int 101), some (.int 101), some (.int 100), some (.int 0), some (.int 0), some (.int 0)] [] Z I1 J15 (some (.long v16), Z, I1, J15) ∧ (∀ J17 : zJ, J17 = zu J15 427 7 v16 → (∃ (v18 : Int64), zE (d + 1) kX12_word 0 [some (.int 105), some (.int 102), some (.int 0), some (.int 0), some (.int 0), some (.int 0), some (.int 0)] [] Z I1 J17 (some (.long v18), Z, I1, J17) ∧ (∀ J19 : zJ, J19 = zu J17 427 8 v18 → (∃ (v20 : Int64), zE (d + 1) kX12_word 0 [some (.int 116), some (.int 104), some (.int 101), some (.int 110), some (.int 0), some (.int 0), some (.int 0)] [] Z I1 J19 (some (.long v20), Z, I1, J19) ∧ (∀ J21 : zJ, J21 = zu J19 427 9 v20 → (∃ (v22 : Int64), zE (d + 1) kX12_word 0 [some (.int 101), some (.int 108), some (.int 115), some (.int 101), some (.int 0), some (.int 0), some (.int 0)] [] Z I1 J21 (some (.long v22), Z, I1, J21) ∧ (∀ J23 : zJ, J23 = zu J21 427 10 v22 → (∃ (v24 : Int64), zE (d + 1) kX12_word 0 [some (.int 120), some (.int 0), some (.int 0), some (.int 0), some (.int 0), some (.int 0), some (.int 0)] [] Z I1 J23 (some (.long v24), Z, I1, J23) ∧ (∀ J25 : zJ, J25 = zu J23 427 11 v24 → (∃ (v26 : Int64), zE (d + 1) kX12_word 0 [some (.int 121), some (.int 0), some (.int 0), some (.int 0), some (.int 0), some (.int 0), some (.int 0)] [] Z I1 J25 (some (.long v26), Z, I1, J25) ∧ (∀ J27 : zJ, J27 = zu J25 427 12 v26 → (∃ (v28 : Int64), zE (d + 1) kX12_word 0 [some (.int 109), some (.int 105), some (.int 110), some (.int 117), some (.int 116), some (.int 101), some (.int 0)] [] Z I1 J27 (some (.long v28), Z, I1, J27) ∧ (∀ J29 : zJ, J29 = zu J27 427 13 v28 → (∃ (v30 : Int64), zE (d + 1) kX12_word 0 [some (.int 108), some (.int 101), some (.int 102), some (.int 116), some (.int 0), some (.int 0), some (.int 0)] [] Z I1 J29 (some (.long v30), Z, I1, J29) ∧ (∀ J31 : zJ, J31 = zu J29 427 14 v30 → (∃ (v32 : Int64), zE (d + 1) kX12_word 0 [some (.int 108), some (.int 111), some (.int 116), some (.int 0), some (.int 0), some (.int 0), some (.int 0)] [] Z I1 J31 (some (.long v32), Z, I1, J31) ∧ (∀ J33 : zJ, J33 = zu J31 427 15 v32 → (∃ (v34 : Int64), zE (d + 1) kX12_word 0 [some (.int 114), some (.int 97), some (.int 110), some (.int 107), some (.int 0), some (.int 0), some (.int 0)] [] Z I1 J33 (some (.long v34), Z, I1, J33) ∧ (∀ J35 : zJ, J35 = zu J33 427 16 v34 → (∃ (I36 : zI), zE (d + 1) kX12_begins 0 [some (.ref 420), none] [] Z I1 J35 (none, Z, I36, J35) ∧ (∃ (I37 : zI), zE (d + 1) kX12_keepsRow 0 [some (.ref 420), none] [] Z I36 J35 (none, Z, I37, J35) ∧ o = (none, Z, I37, J35))))))))))))))))))))))))))))))))))))))) : zE (d + 2) kX12_init 439 [some (.ref 420)] [] Z I J o := by
  refine ex_step (pc' := 440) dX12_init_439 rfl ?_
  refine ex_step (pc' := 441) (st' := [.int 0, .ref 420]) dX12_init_440 rfl ?_
  obtain ⟨I1, hc, h⟩ := h
  refine ex_callV (as := [.int 0]) (st := []) (ci := 12) dX12_init_441 zmX12_plain0 zl_RX12_177 ziX12_plain0 zvX12_plain0 (by decide) (ly_a420 hL) rfl (Nat.le_of_ble_eq_true rfl) (Nat.le_of_ble_eq_true rfl) hc ?_
  refine ex_step (pc' := 445) dX12_init_444 rfl ?_
  refine ex_getr dX12_init_445 wf_RX12_34 (ly_a420 hL) rfl (ly_r420_9 hL) ?_
  refine ex_step (pc' := 449) (st' := [.int 0, .ref 427]) dX12_init_448 rfl ?_
  refine ex_step (pc' := 451) (st' := [.int 116, .int 0, .ref 427]) dX12_init_449 rfl ?_
  refine ex_step (pc' := 453) (st' := [.int 111, .int 116, .int 0, .ref 427]) dX12_init_451 rfl ?_
  refine ex_step (pc' := 455) (st' := [.int 119, .int 111, .int 116, .int 0, .ref 427]) dX12_init_453 rfl ?_
  refine ex_step (pc' := 457) (st' := [.int 110, .int 119, .int 111, .int 116, .int 0, .ref 427]) dX12_init_455 rfl ?_
  refine ex_step (pc' := 458) (st' := [.int 0, .int 110, .int 119, .int 111, .int 116, .int 0, .ref 427]) dX12_init_457 rfl ?_
  refine ex_step (pc' := 459) (st' := [.int 0, .int 0, .int 110, .int 119, .int 111, .int 116, .int 0, .ref 427]) dX12_init_458 rfl ?_
  refine ex_step (pc' := 460) (st' := [.int 0, .int 0, .int 0, .int 110, .int 119, .int 111, .int 116, .int 0, .ref 427]) dX12_init_459 rfl ?_
  obtain ⟨v2, hc, h⟩ := h
  refine ex_callS (as := [.int 116, .int 111, .int 119, .int 110, .int 0, .int 0, .int 0]) (st := [.int 0, .ref 427]) dX12_init_460 zmX12_word zl_RX12_181 zsX12_word rfl (Nat.le_of_ble_eq_true rfl) (Nat.le_of_ble_eq_true rfl) hc ?_
  have hv : vp_in 0 17 := by unfold vp_in; decide
  refine ex_lastN dX12_init_463 (ly_a427 hL) hv (fun J3 eJ3 => ?_)
  have h := h J3 eJ3
  refine ex_step (pc' := 465) dX12_init_464 rfl ?_
  refine ex_getr dX12_init_465 wf_RX12_34 (ly_a420 hL) rfl (ly_r420_9 hL) ?_
  refine ex_step (pc' := 469) (st' := [.int 1, .ref 427]) dX12_init_468 rfl ?_
  refine ex_step (pc' := 471) (st' := [.int 109, .int 1, .ref 427]) dX12_init_469 rfl ?_
  refine ex_step (pc' := 473) (st' := [.int 97, .int 109, .int 1, .ref 427]) dX12_init_471 rfl ?_
  refine ex_step (pc' := 475) (st' := [.int 110, .int 97, .int 109, .int 1, .ref 427]) dX12_init_473 rfl ?_
  refine ex_step (pc' := 476) (st' := [.int 0, .int 110, .int 97, .int 109, .int 1, .ref 427]) dX12_init_475 rfl ?_
  refine ex_step (pc' := 477) (st' := [.int 0, .int 0, .int 110, .int 97, .int 109, .int 1, .ref 427]) dX12_init_476 rfl ?_
  refine ex_step (pc' := 478) (st' := [.int 0, .int 0, .int 0, .int 110, .int 97, .int 109, .int 1, .ref 427]) dX12_init_477 rfl ?_
  refine ex_step (pc' := 479) (st' := [.int 0, .int 0, .int 0, .int 0, .int 110, .int 97, .int 109, .int 1, .ref 427]) dX12_init_478 rfl ?_
  obtain ⟨v4, hc, h⟩ := h
  refine ex_callS (as := [.int 109, .int 97, .int 110, .int 0, .int 0, .int 0, .int 0]) (st := [.int 1, .ref 427]) dX12_init_479 zmX12_word zl_RX12_181 zsX12_word rfl (Nat.le_of_ble_eq_true rfl) (Nat.le_of_ble_eq_true rfl) hc ?_
  have hv : vp_in 1 17 := by unfold vp_in; decide
  refine ex_lastN dX12_init_482 (ly_a427 hL) hv (fun J5 eJ5 => ?_)
  have h := h J5 eJ5
  refine ex_step (pc' := 484) dX12_init_483 rfl ?_
  refine ex_getr dX12_init_484 wf_RX12_34 (ly_a420 hL) rfl (ly_r420_9 hL) ?_
  refine ex_step (pc' := 488) (st' := [.int 2, .ref 427]) dX12_init_487 rfl ?_
  refine ex_step (pc' := 490) (st' := [.int 103, .int 2, .ref 427]) dX12_init_488 rfl ?_
  refine ex_step (pc' := 492) (st' := [.int 111, .int 103, .int 2, .ref 427]) dX12_init_490 rfl ?_
  refine ex_step (pc' := 494) (st' := [.int 101, .int 111, .int 103, .int 2, .ref 427]) dX12_init_492 rfl ?_
  refine ex_step (pc' := 496) (st' := [.int 115, .int 101, .int 111, .int 103, .int 2, .ref 427]) dX12_init_494 rfl ?_
  refine ex_step (pc' := 497) (st' := [.int 0, .int 115, .int 101, .int 111, .int 103, .int 2, .ref 427]) dX12_init_496 rfl ?_
  refine ex_step (pc' := 498) (st' := [.int 0, .int 0, .int 115, .int 101, .int 111, .int 103, .int 2, .ref 427]) dX12_init_497 rfl ?_
  refine ex_step (pc' := 499) (st' := [.int 0, .int 0, .int 0, .int 115, .int 101, .int 111, .int 103, .int 2, .ref 427]) dX12_init_498 rfl ?_
  obtain ⟨v6, hc, h⟩ := h
  refine ex_callS (as := [.int 103, .int 111, .int 101, .int 115, .int 0, .int 0, .int 0]) (st := [.int 2, .ref 427]) dX12_init_499 zmX12_word zl_RX12_181 zsX12_word rfl (Nat.le_of_ble_eq_true rfl) (Nat.le_of_ble_eq_true rfl) hc ?_
  have hv : vp_in 2 17 := by unfold vp_in; decide
  refine ex_lastN dX12_init_502 (ly_a427 hL) hv (fun J7 eJ7 => ?_)
  have h := h J7 eJ7
  refine ex_step (pc' := 504) dX12_init_503 rfl ?_
  refine ex_getr dX12_init_504 wf_RX12_34 (ly_a420 hL) rfl (ly_r420_9 hL) ?_
  refine ex_step (pc' := 508) (st' := [.int 3, .ref 427]) dX12_init_507 rfl ?_
  refine ex_step (pc' := 510) (st' := [.int 108, .int 3, .ref 427]) dX12_init_508 rfl ?_
  refine ex_step (pc' := 512) (st' := [.int 111, .int 108, .int 3, .ref 427]) dX12_init_510 rfl ?_
  refine ex_step (pc' := 514) (st' := [.int 110, .int 111, .int 108, .int 3, .ref 427]) dX12_init_512 rfl ?_
  refine ex_step (pc' := 516) (st' := [.int 103, .int 110, .int 111, .int 108, .int 3, .ref 427]) dX12_init_514 rfl ?_
  refine ex_step (pc' := 517) (st' := [.int 0, .int 103, .int 110, .int 111, .int 108, .int 3, .ref 427]) dX12_init_516 rfl ?_
  refine ex_step (pc' := 518) (st' := [.int 0, .int 0, .int 103, .int 110, .int 111, .int 108, .int 3, .ref 427]) dX12_init_517 rfl ?_
  refine ex_step (pc' := 519) (st' := [.int 0, .int 0, .int 0, .int 103, .int 110, .int 111, .int 108, .int 3, .ref 427]) dX12_init_518 rfl ?_
  obtain ⟨v8, hc, h⟩ := h
  refine ex_callS (as := [.int 108, .int 111, .int 110, .int 103, .int 0, .int 0, .int 0]) (st := [.int 3, .ref 427]) dX12_init_519 zmX12_word zl_RX12_181 zsX12_word rfl (Nat.le_of_ble_eq_true rfl) (Nat.le_of_ble_eq_true rfl) hc ?_
  have hv : vp_in 3 17 := by unfold vp_in; decide
  refine ex_lastN dX12_init_522 (ly_a427 hL) hv (fun J9 eJ9 => ?_)
  have h := h J9 eJ9
  refine ex_step (pc' := 524) dX12_init_523 rfl ?_
  refine ex_getr dX12_init_524 wf_RX12_34 (ly_a420 hL) rfl (ly_r420_9 hL) ?_
  refine ex_step (pc' := 528) (st' := [.int 4, .ref 427]) dX12_init_527 rfl ?_
  refine ex_step (pc' := 530) (st' := [.int 101, .int 4, .ref 427]) dX12_init_528 rfl ?_
  refine ex_step (pc' := 532) (st' := [.int 114, .int 101, .int 4, .ref 427]) dX12_init_530 rfl ?_
  refine ex_step (pc' := 534) (st' := [.int 114, .int 114, .int 101, .int 4, .ref 427]) dX12_init_532 rfl ?_
  refine ex_step (pc' := 536) (st' := [.int 97, .int 114, .int 114, .int 101, .int 4, .ref 427]) dX12_init_534 rfl ?_
  refine ex_step (pc' := 538) (st' := [.int 110, .int 97, .int 114, .int 114, .int 101, .int 4, .ref 427]) dX12_init_536 rfl ?_
  refine ex_step (pc' := 540) (st' := [.int 100, .int 110, .int 97, .int 114, .int 114, .int 101, .int 4, .ref 427]) dX12_init_538 rfl ?_
  refine ex_step (pc' := 541) (st' := [.int 0, .int 100, .int 110, .int 97, .int 114, .int 114, .int 101, .int 4, .ref 427]) dX12_init_540 rfl ?_
  obtain ⟨v10, hc, h⟩ := h
  refine ex_callS (as := [.int 101, .int 114, .int 114, .int 97, .int 110, .int 100, .int 0]) (st := [.int 4, .ref 427]) dX12_init_541 zmX12_word zl_RX12_181 zsX12_word rfl (Nat.le_of_ble_eq_true rfl) (Nat.le_of_ble_eq_true rfl) hc ?_
  have hv : vp_in 4 17 := by unfold vp_in; decide
  refine ex_lastN dX12_init_544 (ly_a427 hL) hv (fun J11 eJ11 => ?_)
  have h := h J11 eJ11
  refine ex_step (pc' := 546) dX12_init_545 rfl ?_
  refine ex_getr dX12_init_546 wf_RX12_34 (ly_a420 hL) rfl (ly_r420_9 hL) ?_
  refine ex_step (pc' := 550) (st' := [.int 5, .ref 427]) dX12_init_549 rfl ?_
  refine ex_step (pc' := 552) (st' := [.int 112, .int 5, .ref 427]) dX12_init_550 rfl ?_
  refine ex_step (pc' := 554) (st' := [.int 105, .int 112, .int 5, .ref 427]) dX12_init_552 rfl ?_
  refine ex_step (pc' := 556) (st' := [.int 108, .int 105, .int 112, .int 5, .ref 427]) dX12_init_554 rfl ?_
  refine ex_step (pc' := 558) (st' := [.int 108, .int 108, .int 105, .int 112, .int 5, .ref 427]) dX12_init_556 rfl ?_
  refine ex_step (pc' := 560) (st' := [.int 97, .int 108, .int 108, .int 105, .int 112, .int 5, .ref 427]) dX12_init_558 rfl ?_
  refine ex_step (pc' := 562) (st' := [.int 114, .int 97, .int 108, .int 108, .int 105, .int 112, .int 5, .ref 427]) dX12_init_560 rfl ?_
  refine ex_step (pc' := 563) (st' := [.int 0, .int 114, .int 97, .int 108, .int 108, .int 105, .int 112, .int 5, .ref 427]) dX12_init_562 rfl ?_
  obtain ⟨v12, hc, h⟩ := h
  refine ex_callS (as := [.int 112, .int 105, .int 108, .int 108, .int 97, .int 114, .int 0]) (st := [.int 5, .ref 427]) dX12_init_563 zmX12_word zl_RX12_181 zsX12_word rfl (Nat.le_of_ble_eq_true rfl) (Nat.le_of_ble_eq_true rfl) hc ?_
  have hv : vp_in 5 17 := by unfold vp_in; decide
  refine ex_lastN dX12_init_566 (ly_a427 hL) hv (fun J13 eJ13 => ?_)
  have h := h J13 eJ13
  refine ex_step (pc' := 568) dX12_init_567 rfl ?_
  refine ex_getr dX12_init_568 wf_RX12_34 (ly_a420 hL) rfl (ly_r420_9 hL) ?_
  refine ex_step (pc' := 573) (st' := [.int 6, .ref 427]) dX12_init_571 rfl ?_
  refine ex_step (pc' := 575) (st' := [.int 100, .int 6, .ref 427]) dX12_init_573 rfl ?_
  refine ex_step (pc' := 577) (st' := [.int 121, .int 100, .int 6, .ref 427]) dX12_init_575 rfl ?_
  refine ex_step (pc' := 579) (st' := [.int 101, .int 121, .int 100, .int 6, .ref 427]) dX12_init_577 rfl ?_
  refine ex_step (pc' := 580) (st' := [.int 0, .int 101, .int 121, .int 100, .int 6, .ref 427]) dX12_init_579 rfl ?_
  refine ex_step (pc' := 581) (st' := [.int 0, .int 0, .int 101, .int 121, .int 100, .int 6, .ref 427]) dX12_init_580 rfl ?_
  refine ex_step (pc' := 582) (st' := [.int 0, .int 0, .int 0, .int 101, .int 121, .int 100, .int 6, .ref 427]) dX12_init_581 rfl ?_
  refine ex_step (pc' := 583) (st' := [.int 0, .int 0, .int 0, .int 0, .int 101, .int 121, .int 100, .int 6, .ref 427]) dX12_init_582 rfl ?_
  obtain ⟨v14, hc, h⟩ := h
  refine ex_callS (as := [.int 100, .int 121, .int 101, .int 0, .int 0, .int 0, .int 0]) (st := [.int 6, .ref 427]) dX12_init_583 zmX12_word zl_RX12_181 zsX12_word rfl (Nat.le_of_ble_eq_true rfl) (Nat.le_of_ble_eq_true rfl) hc ?_
  have hv : vp_in 6 17 := by unfold vp_in; decide
  refine ex_lastN dX12_init_586 (ly_a427 hL) hv (fun J15 eJ15 => ?_)
  have h := h J15 eJ15
  refine ex_step (pc' := 588) dX12_init_587 rfl ?_
  refine ex_getr dX12_init_588 wf_RX12_34 (ly_a420 hL) rfl (ly_r420_9 hL) ?_
  refine ex_step (pc' := 593) (st' := [.int 7, .ref 427]) dX12_init_591 rfl ?_
  refine ex_step (pc' := 595) (st' := [.int 115, .int 7, .ref 427]) dX12_init_593 rfl ?_
  refine ex_step (pc' := 597) (st' := [.int 101, .int 115, .int 7, .ref 427]) dX12_init_595 rfl ?_
  refine ex_step (pc' := 599) (st' := [.int 101, .int 101, .int 115, .int 7, .ref 427]) dX12_init_597 rfl ?_
  refine ex_step (pc' := 601) (st' := [.int 100, .int 101, .int 101, .int 115, .int 7, .ref 427]) dX12_init_599 rfl ?_
  refine ex_step (pc' := 602) (st' := [.int 0, .int 100, .int 101, .int 101, .int 115, .int 7, .ref 427]) dX12_init_601 rfl ?_
  refine ex_step (pc' := 603) (st' := [.int 0, .int 0, .int 100, .int 101, .int 101, .int 115, .int 7, .ref 427]) dX12_init_602 rfl ?_
  refine ex_step (pc' := 604) (st' := [.int 0, .int 0, .int 0, .int 100, .int 101, .int 101, .int 115, .int 7, .ref 427]) dX12_init_603 rfl ?_
  obtain ⟨v16, hc, h⟩ := h
  refine ex_callS (as := [.int 115, .int 101, .int 101, .int 100, .int 0, .int 0, .int 0]) (st := [.int 7, .ref 427]) dX12_init_604 zmX12_word zl_RX12_181 zsX12_word rfl (Nat.le_of_ble_eq_true rfl) (Nat.le_of_ble_eq_true rfl) hc ?_
  have hv : vp_in 7 17 := by unfold vp_in; decide
  refine ex_lastN dX12_init_607 (ly_a427 hL) hv (fun J17 eJ17 => ?_)
  have h := h J17 eJ17
  refine ex_step (pc' := 609) dX12_init_608 rfl ?_
  refine ex_getr dX12_init_609 wf_RX12_34 (ly_a420 hL) rfl (ly_r420_9 hL) ?_
  refine ex_step (pc' := 614) (st' := [.int 8, .ref 427]) dX12_init_612 rfl ?_
  refine ex_step (pc' := 616) (st' := [.int 105, .int 8, .ref 427]) dX12_init_614 rfl ?_
  refine ex_step (pc' := 618) (st' := [.int 102, .int 105, .int 8, .ref 427]) dX12_init_616 rfl ?_
  refine ex_step (pc' := 619) (st' := [.int 0, .int 102, .int 105, .int 8, .ref 427]) dX12_init_618 rfl ?_
  refine ex_step (pc' := 620) (st' := [.int 0, .int 0, .int 102, .int 105, .int 8, .ref 427]) dX12_init_619 rfl ?_
  refine ex_step (pc' := 621) (st' := [.int 0, .int 0, .int 0, .int 102, .int 105, .int 8, .ref 427]) dX12_init_620 rfl ?_
  refine ex_step (pc' := 622) (st' := [.int 0, .int 0, .int 0, .int 0, .int 102, .int 105, .int 8, .ref 427]) dX12_init_621 rfl ?_
  refine ex_step (pc' := 623) (st' := [.int 0, .int 0, .int 0, .int 0, .int 0, .int 102, .int 105, .int 8, .ref 427]) dX12_init_622 rfl ?_
  obtain ⟨v18, hc, h⟩ := h
  refine ex_callS (as := [.int 105, .int 102, .int 0, .int 0, .int 0, .int 0, .int 0]) (st := [.int 8, .ref 427]) dX12_init_623 zmX12_word zl_RX12_181 zsX12_word rfl (Nat.le_of_ble_eq_true rfl) (Nat.le_of_ble_eq_true rfl) hc ?_
  have hv : vp_in 8 17 := by unfold vp_in; decide
  refine ex_lastN dX12_init_626 (ly_a427 hL) hv (fun J19 eJ19 => ?_)
  have h := h J19 eJ19
  refine ex_step (pc' := 628) dX12_init_627 rfl ?_
  refine ex_getr dX12_init_628 wf_RX12_34 (ly_a420 hL) rfl (ly_r420_9 hL) ?_
  refine ex_step (pc' := 633) (st' := [.int 9, .ref 427]) dX12_init_631 rfl ?_
  refine ex_step (pc' := 635) (st' := [.int 116, .int 9, .ref 427]) dX12_init_633 rfl ?_
  refine ex_step (pc' := 637) (st' := [.int 104, .int 116, .int 9, .ref 427]) dX12_init_635 rfl ?_
  refine ex_step (pc' := 639) (st' := [.int 101, .int 104, .int 116, .int 9, .ref 427]) dX12_init_637 rfl ?_
  refine ex_step (pc' := 641) (st' := [.int 110, .int 101, .int 104, .int 116, .int 9, .ref 427]) dX12_init_639 rfl ?_
  refine ex_step (pc' := 642) (st' := [.int 0, .int 110, .int 101, .int 104, .int 116, .int 9, .ref 427]) dX12_init_641 rfl ?_
  refine ex_step (pc' := 643) (st' := [.int 0, .int 0, .int 110, .int 101, .int 104, .int 116, .int 9, .ref 427]) dX12_init_642 rfl ?_
  refine ex_step (pc' := 644) (st' := [.int 0, .int 0, .int 0, .int 110, .int 101, .int 104, .int 116, .int 9, .ref 427]) dX12_init_643 rfl ?_
  obtain ⟨v20, hc, h⟩ := h
  refine ex_callS (as := [.int 116, .int 104, .int 101, .int 110, .int 0, .int 0, .int 0]) (st := [.int 9, .ref 427]) dX12_init_644 zmX12_word zl_RX12_181 zsX12_word rfl (Nat.le_of_ble_eq_true rfl) (Nat.le_of_ble_eq_true rfl) hc ?_
  have hv : vp_in 9 17 := by unfold vp_in; decide
  refine ex_lastN dX12_init_647 (ly_a427 hL) hv (fun J21 eJ21 => ?_)
  have h := h J21 eJ21
  refine ex_step (pc' := 649) dX12_init_648 rfl ?_
  refine ex_getr dX12_init_649 wf_RX12_34 (ly_a420 hL) rfl (ly_r420_9 hL) ?_
  refine ex_step (pc' := 654) (st' := [.int 10, .ref 427]) dX12_init_652 rfl ?_
  refine ex_step (pc' := 656) (st' := [.int 101, .int 10, .ref 427]) dX12_init_654 rfl ?_
  refine ex_step (pc' := 658) (st' := [.int 108, .int 101, .int 10, .ref 427]) dX12_init_656 rfl ?_
  refine ex_step (pc' := 660) (st' := [.int 115, .int 108, .int 101, .int 10, .ref 427]) dX12_init_658 rfl ?_
  refine ex_step (pc' := 662) (st' := [.int 101, .int 115, .int 108, .int 101, .int 10, .ref 427]) dX12_init_660 rfl ?_
  refine ex_step (pc' := 663) (st' := [.int 0, .int 101, .int 115, .int 108, .int 101, .int 10, .ref 427]) dX12_init_662 rfl ?_
  refine ex_step (pc' := 664) (st' := [.int 0, .int 0, .int 101, .int 115, .int 108, .int 101, .int 10, .ref 427]) dX12_init_663 rfl ?_
  refine ex_step (pc' := 665) (st' := [.int 0, .int 0, .int 0, .int 101, .int 115, .int 108, .int 101, .int 10, .ref 427]) dX12_init_664 rfl ?_
  obtain ⟨v22, hc, h⟩ := h
  refine ex_callS (as := [.int 101, .int 108, .int 115, .int 101, .int 0, .int 0, .int 0]) (st := [.int 10, .ref 427]) dX12_init_665 zmX12_word zl_RX12_181 zsX12_word rfl (Nat.le_of_ble_eq_true rfl) (Nat.le_of_ble_eq_true rfl) hc ?_
  have hv : vp_in 10 17 := by unfold vp_in; decide
  refine ex_lastN dX12_init_668 (ly_a427 hL) hv (fun J23 eJ23 => ?_)
  have h := h J23 eJ23
  refine ex_step (pc' := 670) dX12_init_669 rfl ?_
  refine ex_getr dX12_init_670 wf_RX12_34 (ly_a420 hL) rfl (ly_r420_9 hL) ?_
  refine ex_step (pc' := 675) (st' := [.int 11, .ref 427]) dX12_init_673 rfl ?_
  refine ex_step (pc' := 677) (st' := [.int 120, .int 11, .ref 427]) dX12_init_675 rfl ?_
  refine ex_step (pc' := 678) (st' := [.int 0, .int 120, .int 11, .ref 427]) dX12_init_677 rfl ?_
  refine ex_step (pc' := 679) (st' := [.int 0, .int 0, .int 120, .int 11, .ref 427]) dX12_init_678 rfl ?_
  refine ex_step (pc' := 680) (st' := [.int 0, .int 0, .int 0, .int 120, .int 11, .ref 427]) dX12_init_679 rfl ?_
  refine ex_step (pc' := 681) (st' := [.int 0, .int 0, .int 0, .int 0, .int 120, .int 11, .ref 427]) dX12_init_680 rfl ?_
  refine ex_step (pc' := 682) (st' := [.int 0, .int 0, .int 0, .int 0, .int 0, .int 120, .int 11, .ref 427]) dX12_init_681 rfl ?_
  refine ex_step (pc' := 683) (st' := [.int 0, .int 0, .int 0, .int 0, .int 0, .int 0, .int 120, .int 11, .ref 427]) dX12_init_682 rfl ?_
  obtain ⟨v24, hc, h⟩ := h
  refine ex_callS (as := [.int 120, .int 0, .int 0, .int 0, .int 0, .int 0, .int 0]) (st := [.int 11, .ref 427]) dX12_init_683 zmX12_word zl_RX12_181 zsX12_word rfl (Nat.le_of_ble_eq_true rfl) (Nat.le_of_ble_eq_true rfl) hc ?_
  have hv : vp_in 11 17 := by unfold vp_in; decide
  refine ex_lastN dX12_init_686 (ly_a427 hL) hv (fun J25 eJ25 => ?_)
  have h := h J25 eJ25
  refine ex_step (pc' := 688) dX12_init_687 rfl ?_
  refine ex_getr dX12_init_688 wf_RX12_34 (ly_a420 hL) rfl (ly_r420_9 hL) ?_
  refine ex_step (pc' := 693) (st' := [.int 12, .ref 427]) dX12_init_691 rfl ?_
  refine ex_step (pc' := 695) (st' := [.int 121, .int 12, .ref 427]) dX12_init_693 rfl ?_
  refine ex_step (pc' := 696) (st' := [.int 0, .int 121, .int 12, .ref 427]) dX12_init_695 rfl ?_
  refine ex_step (pc' := 697) (st' := [.int 0, .int 0, .int 121, .int 12, .ref 427]) dX12_init_696 rfl ?_
  refine ex_step (pc' := 698) (st' := [.int 0, .int 0, .int 0, .int 121, .int 12, .ref 427]) dX12_init_697 rfl ?_
  refine ex_step (pc' := 699) (st' := [.int 0, .int 0, .int 0, .int 0, .int 121, .int 12, .ref 427]) dX12_init_698 rfl ?_
  refine ex_step (pc' := 700) (st' := [.int 0, .int 0, .int 0, .int 0, .int 0, .int 121, .int 12, .ref 427]) dX12_init_699 rfl ?_
  refine ex_step (pc' := 701) (st' := [.int 0, .int 0, .int 0, .int 0, .int 0, .int 0, .int 121, .int 12, .ref 427]) dX12_init_700 rfl ?_
  obtain ⟨v26, hc, h⟩ := h
  refine ex_callS (as := [.int 121, .int 0, .int 0, .int 0, .int 0, .int 0, .int 0]) (st := [.int 12, .ref 427]) dX12_init_701 zmX12_word zl_RX12_181 zsX12_word rfl (Nat.le_of_ble_eq_true rfl) (Nat.le_of_ble_eq_true rfl) hc ?_
  have hv : vp_in 12 17 := by unfold vp_in; decide
  refine ex_lastN dX12_init_704 (ly_a427 hL) hv (fun J27 eJ27 => ?_)
  have h := h J27 eJ27
  refine ex_step (pc' := 706) dX12_init_705 rfl ?_
  refine ex_getr dX12_init_706 wf_RX12_34 (ly_a420 hL) rfl (ly_r420_9 hL) ?_
  refine ex_step (pc' := 711) (st' := [.int 13, .ref 427]) dX12_init_709 rfl ?_
  refine ex_step (pc' := 713) (st' := [.int 109, .int 13, .ref 427]) dX12_init_711 rfl ?_
  refine ex_step (pc' := 715) (st' := [.int 105, .int 109, .int 13, .ref 427]) dX12_init_713 rfl ?_
  refine ex_step (pc' := 717) (st' := [.int 110, .int 105, .int 109, .int 13, .ref 427]) dX12_init_715 rfl ?_
  refine ex_step (pc' := 719) (st' := [.int 117, .int 110, .int 105, .int 109, .int 13, .ref 427]) dX12_init_717 rfl ?_
  refine ex_step (pc' := 721) (st' := [.int 116, .int 117, .int 110, .int 105, .int 109, .int 13, .ref 427]) dX12_init_719 rfl ?_
  refine ex_step (pc' := 723) (st' := [.int 101, .int 116, .int 117, .int 110, .int 105, .int 109, .int 13, .ref 427]) dX12_init_721 rfl ?_
  refine ex_step (pc' := 724) (st' := [.int 0, .int 101, .int 116, .int 117, .int 110, .int 105, .int 109, .int 13, .ref 427]) dX12_init_723 rfl ?_
  obtain ⟨v28, hc, h⟩ := h
  refine ex_callS (as := [.int 109, .int 105, .int 110, .int 117, .int 116, .int 101, .int 0]) (st := [.int 13, .ref 427]) dX12_init_724 zmX12_word zl_RX12_181 zsX12_word rfl (Nat.le_of_ble_eq_true rfl) (Nat.le_of_ble_eq_true rfl) hc ?_
  have hv : vp_in 13 17 := by unfold vp_in; decide
  refine ex_lastN dX12_init_727 (ly_a427 hL) hv (fun J29 eJ29 => ?_)
  have h := h J29 eJ29
  refine ex_step (pc' := 729) dX12_init_728 rfl ?_
  refine ex_getr dX12_init_729 wf_RX12_34 (ly_a420 hL) rfl (ly_r420_9 hL) ?_
  refine ex_step (pc' := 734) (st' := [.int 14, .ref 427]) dX12_init_732 rfl ?_
  refine ex_step (pc' := 736) (st' := [.int 108, .int 14, .ref 427]) dX12_init_734 rfl ?_
  refine ex_step (pc' := 738) (st' := [.int 101, .int 108, .int 14, .ref 427]) dX12_init_736 rfl ?_
  refine ex_step (pc' := 740) (st' := [.int 102, .int 101, .int 108, .int 14, .ref 427]) dX12_init_738 rfl ?_
  refine ex_step (pc' := 742) (st' := [.int 116, .int 102, .int 101, .int 108, .int 14, .ref 427]) dX12_init_740 rfl ?_
  refine ex_step (pc' := 743) (st' := [.int 0, .int 116, .int 102, .int 101, .int 108, .int 14, .ref 427]) dX12_init_742 rfl ?_
  refine ex_step (pc' := 744) (st' := [.int 0, .int 0, .int 116, .int 102, .int 101, .int 108, .int 14, .ref 427]) dX12_init_743 rfl ?_
  refine ex_step (pc' := 745) (st' := [.int 0, .int 0, .int 0, .int 116, .int 102, .int 101, .int 108, .int 14, .ref 427]) dX12_init_744 rfl ?_
  obtain ⟨v30, hc, h⟩ := h
  refine ex_callS (as := [.int 108, .int 101, .int 102, .int 116, .int 0, .int 0, .int 0]) (st := [.int 14, .ref 427]) dX12_init_745 zmX12_word zl_RX12_181 zsX12_word rfl (Nat.le_of_ble_eq_true rfl) (Nat.le_of_ble_eq_true rfl) hc ?_
  have hv : vp_in 14 17 := by unfold vp_in; decide
  refine ex_lastN dX12_init_748 (ly_a427 hL) hv (fun J31 eJ31 => ?_)
  have h := h J31 eJ31
  refine ex_step (pc' := 750) dX12_init_749 rfl ?_
  refine ex_getr dX12_init_750 wf_RX12_34 (ly_a420 hL) rfl (ly_r420_9 hL) ?_
  refine ex_step (pc' := 755) (st' := [.int 15, .ref 427]) dX12_init_753 rfl ?_
  refine ex_step (pc' := 757) (st' := [.int 108, .int 15, .ref 427]) dX12_init_755 rfl ?_
  refine ex_step (pc' := 759) (st' := [.int 111, .int 108, .int 15, .ref 427]) dX12_init_757 rfl ?_
  refine ex_step (pc' := 761) (st' := [.int 116, .int 111, .int 108, .int 15, .ref 427]) dX12_init_759 rfl ?_
  refine ex_step (pc' := 762) (st' := [.int 0, .int 116, .int 111, .int 108, .int 15, .ref 427]) dX12_init_761 rfl ?_
  refine ex_step (pc' := 763) (st' := [.int 0, .int 0, .int 116, .int 111, .int 108, .int 15, .ref 427]) dX12_init_762 rfl ?_
  refine ex_step (pc' := 764) (st' := [.int 0, .int 0, .int 0, .int 116, .int 111, .int 108, .int 15, .ref 427]) dX12_init_763 rfl ?_
  refine ex_step (pc' := 765) (st' := [.int 0, .int 0, .int 0, .int 0, .int 116, .int 111, .int 108, .int 15, .ref 427]) dX12_init_764 rfl ?_
  obtain ⟨v32, hc, h⟩ := h
  refine ex_callS (as := [.int 108, .int 111, .int 116, .int 0, .int 0, .int 0, .int 0]) (st := [.int 15, .ref 427]) dX12_init_765 zmX12_word zl_RX12_181 zsX12_word rfl (Nat.le_of_ble_eq_true rfl) (Nat.le_of_ble_eq_true rfl) hc ?_
  have hv : vp_in 15 17 := by unfold vp_in; decide
  refine ex_lastN dX12_init_768 (ly_a427 hL) hv (fun J33 eJ33 => ?_)
  have h := h J33 eJ33
  refine ex_step (pc' := 770) dX12_init_769 rfl ?_
  refine ex_getr dX12_init_770 wf_RX12_34 (ly_a420 hL) rfl (ly_r420_9 hL) ?_
  refine ex_step (pc' := 775) (st' := [.int 16, .ref 427]) dX12_init_773 rfl ?_
  refine ex_step (pc' := 777) (st' := [.int 114, .int 16, .ref 427]) dX12_init_775 rfl ?_
  refine ex_step (pc' := 779) (st' := [.int 97, .int 114, .int 16, .ref 427]) dX12_init_777 rfl ?_
  refine ex_step (pc' := 781) (st' := [.int 110, .int 97, .int 114, .int 16, .ref 427]) dX12_init_779 rfl ?_
  refine ex_step (pc' := 783) (st' := [.int 107, .int 110, .int 97, .int 114, .int 16, .ref 427]) dX12_init_781 rfl ?_
  refine ex_step (pc' := 784) (st' := [.int 0, .int 107, .int 110, .int 97, .int 114, .int 16, .ref 427]) dX12_init_783 rfl ?_
  refine ex_step (pc' := 785) (st' := [.int 0, .int 0, .int 107, .int 110, .int 97, .int 114, .int 16, .ref 427]) dX12_init_784 rfl ?_
  refine ex_step (pc' := 786) (st' := [.int 0, .int 0, .int 0, .int 107, .int 110, .int 97, .int 114, .int 16, .ref 427]) dX12_init_785 rfl ?_
  obtain ⟨v34, hc, h⟩ := h
  refine ex_callS (as := [.int 114, .int 97, .int 110, .int 107, .int 0, .int 0, .int 0]) (st := [.int 16, .ref 427]) dX12_init_786 zmX12_word zl_RX12_181 zsX12_word rfl (Nat.le_of_ble_eq_true rfl) (Nat.le_of_ble_eq_true rfl) hc ?_
  have hv : vp_in 16 17 := by unfold vp_in; decide
  refine ex_lastN dX12_init_789 (ly_a427 hL) hv (fun J35 eJ35 => ?_)
  have h := h J35 eJ35
  refine ex_step (pc' := 791) dX12_init_790 rfl ?_
  obtain ⟨I36, hc, h⟩ := h
  refine ex_callV (as := []) (st := []) (ci := 12) dX12_init_791 zmX12_begins zl_RX12_185 ziX12_begins zvX12_begins (by decide) (ly_a420 hL) rfl (Nat.le_of_ble_eq_true rfl) (Nat.le_of_ble_eq_true rfl) hc ?_
  refine ex_step (pc' := 795) dX12_init_794 rfl ?_
  obtain ⟨I37, hc, h⟩ := h
  refine ex_callV (as := []) (st := []) (ci := 12) dX12_init_795 zmX12_keepsRow zl_RX12_188 ziX12_keepsRow zvX12_keepsRow (by decide) (ly_a420 hL) rfl (Nat.le_of_ble_eq_true rfl) (Nat.le_of_ble_eq_true rfl) hc ?_
  rw [h]; exact ex_ret (v := none) ⟨dX12_init_798, rfl⟩
section
variable {d L : Nat} {Z : zZ} {I : zI} {J J0 J1 : zJ}
theorem M_word0 : zE (d + 1) kX12_word 0 [some (.int 116), some (.int 111), some (.int 119), some (.int 110), some (.int 0), some (.int 0), some (.int 0)] [] Z I J (some (.long (lN (zk27 0))), Z, I, J) := BX12_word_0 _ _ _ _ _ _ _ (by rw [show zapp (zapp (zapp (zapp (zapp (zapp (zapp 0 116) 111) 119) 110) 0) 0) 0 = lN (zk27 0) from by decide +kernel])
theorem M_word1 : zE (d + 1) kX12_word 0 [some (.int 109), some (.int 97), some (.int 110), some (.int 0), some (.int 0), some (.int 0), some (.int 0)] [] Z I J (some (.long (lN (zk27 1))), Z, I, J) := BX12_word_0 _ _ _ _ _ _ _ (by rw [show zapp (zapp (zapp (zapp (zapp (zapp (zapp 0 109) 97) 110) 0) 0) 0) 0 = lN (zk27 1) from by decide +kernel])
theorem M_word2 : zE (d + 1) kX12_word 0 [some (.int 103), some (.int 111), some (.int 101), some (.int 115), some (.int 0), some (.int 0), some (.int 0)] [] Z I J (some (.long (lN (zk27 2))), Z, I, J) := BX12_word_0 _ _ _ _ _ _ _ (by rw [show zapp (zapp (zapp (zapp (zapp (zapp (zapp 0 103) 111) 101) 115) 0) 0) 0 = lN (zk27 2) from by decide +kernel])
theorem M_word3 : zE (d + 1) kX12_word 0 [some (.int 108), some (.int 111), some (.int 110), some (.int 103), some (.int 0), some (.int 0), some (.int 0)] [] Z I J (some (.long (lN (zk27 3))), Z, I, J) := BX12_word_0 _ _ _ _ _ _ _ (by rw [show zapp (zapp (zapp (zapp (zapp (zapp (zapp 0 108) 111) 110) 103) 0) 0) 0 = lN (zk27 3) from by decide +kernel])
theorem M_word4 : zE (d + 1) kX12_word 0 [some (.int 101), some (.int 114), some (.int 114), some (.int 97), some (.int 110), some (.int 100), some (.int 0)] [] Z I J (some (.long (lN (zk27 4))), Z, I, J) := BX12_word_0 _ _ _ _ _ _ _ (by rw [show zapp (zapp (zapp (zapp (zapp (zapp (zapp 0 101) 114) 114) 97) 110) 100) 0 = lN (zk27 4) from by decide +kernel])
theorem M_word5 : zE (d + 1) kX12_word 0 [some (.int 112), some (.int 105), some (.int 108), some (.int 108), some (.int 97), some (.int 114), some (.int 0)] [] Z I J (some (.long (lN (zk27 5))), Z, I, J) := BX12_word_0 _ _ _ _ _ _ _ (by rw [show zapp (zapp (zapp (zapp (zapp (zapp (zapp 0 112) 105) 108) 108) 97) 114) 0 = lN (zk27 5) from by decide +kernel])
theorem M_word6 : zE (d + 1) kX12_word 0 [some (.int 100), some (.int 121), some (.int 101), some (.int 0), some (.int 0), some (.int 0), some (.int 0)] [] Z I J (some (.long (lN (zk27 6))), Z, I, J) := BX12_word_0 _ _ _ _ _ _ _ (by rw [show zapp (zapp (zapp (zapp (zapp (zapp (zapp 0 100) 121) 101) 0) 0) 0) 0 = lN (zk27 6) from by decide +kernel])
theorem M_word7 : zE (d + 1) kX12_word 0 [some (.int 115), some (.int 101), some (.int 101), some (.int 100), some (.int 0), some (.int 0), some (.int 0)] [] Z I J (some (.long (lN (zk27 7))), Z, I, J) := BX12_word_0 _ _ _ _ _ _ _ (by rw [show zapp (zapp (zapp (zapp (zapp (zapp (zapp 0 115) 101) 101) 100) 0) 0) 0 = lN (zk27 7) from by decide +kernel])
theorem M_word8 : zE (d + 1) kX12_word 0 [some (.int 105), some (.int 102), some (.int 0), some (.int 0), some (.int 0), some (.int 0), some (.int 0)] [] Z I J (some (.long (lN (zk27 8))), Z, I, J) := BX12_word_0 _ _ _ _ _ _ _ (by rw [show zapp (zapp (zapp (zapp (zapp (zapp (zapp 0 105) 102) 0) 0) 0) 0) 0 = lN (zk27 8) from by decide +kernel])
theorem M_word9 : zE (d + 1) kX12_word 0 [some (.int 116), some (.int 104), some (.int 101), some (.int 110), some (.int 0), some (.int 0), some (.int 0)] [] Z I J (some (.long (lN (zk27 9))), Z, I, J) := BX12_word_0 _ _ _ _ _ _ _ (by rw [show zapp (zapp (zapp (zapp (zapp (zapp (zapp 0 116) 104) 101) 110) 0) 0) 0 = lN (zk27 9) from by decide +kernel])
theorem M_word10 : zE (d + 1) kX12_word 0 [some (.int 101), some (.int 108), some (.int 115), some (.int 101), some (.int 0), some (.int 0), some (.int 0)] [] Z I J (some (.long (lN (zk27 10))), Z, I, J) := BX12_word_0 _ _ _ _ _ _ _ (by rw [show zapp (zapp (zapp (zapp (zapp (zapp (zapp 0 101) 108) 115) 101) 0) 0) 0 = lN (zk27 10) from by decide +kernel])
theorem M_word11 : zE (d + 1) kX12_word 0 [some (.int 120), some (.int 0), some (.int 0), some (.int 0), some (.int 0), some (.int 0), some (.int 0)] [] Z I J (some (.long (lN (zk27 11))), Z, I, J) := BX12_word_0 _ _ _ _ _ _ _ (by rw [show zapp (zapp (zapp (zapp (zapp (zapp (zapp 0 120) 0) 0) 0) 0) 0) 0 = lN (zk27 11) from by decide +kernel])
theorem M_word12 : zE (d + 1) kX12_word 0 [some (.int 121), some (.int 0), some (.int 0), some (.int 0), some (.int 0), some (.int 0), some (.int 0)] [] Z I J (some (.long (lN (zk27 12))), Z, I, J) := BX12_word_0 _ _ _ _ _ _ _ (by rw [show zapp (zapp (zapp (zapp (zapp (zapp (zapp 0 121) 0) 0) 0) 0) 0) 0 = lN (zk27 12) from by decide +kernel])
theorem M_word13 : zE (d + 1) kX12_word 0 [some (.int 109), some (.int 105), some (.int 110), some (.int 117), some (.int 116), some (.int 101), some (.int 0)] [] Z I J (some (.long (lN (zk27 13))), Z, I, J) := BX12_word_0 _ _ _ _ _ _ _ (by rw [show zapp (zapp (zapp (zapp (zapp (zapp (zapp 0 109) 105) 110) 117) 116) 101) 0 = lN (zk27 13) from by decide +kernel])
theorem M_word14 : zE (d + 1) kX12_word 0 [some (.int 108), some (.int 101), some (.int 102), some (.int 116), some (.int 0), some (.int 0), some (.int 0)] [] Z I J (some (.long (lN (zk27 14))), Z, I, J) := BX12_word_0 _ _ _ _ _ _ _ (by rw [show zapp (zapp (zapp (zapp (zapp (zapp (zapp 0 108) 101) 102) 116) 0) 0) 0 = lN (zk27 14) from by decide +kernel])
theorem M_word15 : zE (d + 1) kX12_word 0 [some (.int 108), some (.int 111), some (.int 116), some (.int 0), some (.int 0), some (.int 0), some (.int 0)] [] Z I J (some (.long (lN (zk27 15))), Z, I, J) := BX12_word_0 _ _ _ _ _ _ _ (by rw [show zapp (zapp (zapp (zapp (zapp (zapp (zapp 0 108) 111) 116) 0) 0) 0) 0 = lN (zk27 15) from by decide +kernel])
theorem M_word16 : zE (d + 1) kX12_word 0 [some (.int 114), some (.int 97), some (.int 110), some (.int 107), some (.int 0), some (.int 0), some (.int 0)] [] Z I J (some (.long (lN (zk27 16))), Z, I, J) := BX12_word_0 _ _ _ _ _ _ _ (by rw [show zapp (zapp (zapp (zapp (zapp (zapp (zapp 0 114) 97) 110) 107) 0) 0) 0 = lN (zk27 16) from by decide +kernel])
/-- the first i keys are laid -/
def zKys (J0 J : zJ) (i : Nat) : Prop := (∀ k, k < i → J 427 k = lN (zk27 k)) ∧ ∀ b, b ≠ 427 → J b = J0 b
theorem zKys_rf : zKys J J 0 := ⟨fun k hk => absurd hk (Nat.not_lt_zero _), fun _ _ => rfl⟩
theorem zKys_put {i : Nat} (h : zKys J0 J i) (e : J1 = zu J 427 i (lN (zk27 i))) : zKys J0 J1 (i + 1) := ⟨fun k hk => by
  rw [e, zu_at]
  by_cases c : k = i
  · rw [if_pos c, c]
  · rw [if_neg c]; exact h.1 k (by omega), fun b hb => by rw [e, zu_ne hb]; exact h.2 b hb⟩
/-- the day that begins where nothing is told -/
def zrho0 : Nat → Nat := zbg (fun _ => 0) (fun _ => 0) (fun _ => 0)
theorem M_init (hL : zLY Z 30 3) (h18 : I 420 18 = 0) (h432 : I 432 = fun _ => 0) (h433 : I 433 = fun _ => 0) (h458 : I 458 = fun _ => 0) : ∃ I' J', zE 10 kX12_init 439 [some (.ref 420)] [] Z I J (none, Z, I', J') ∧ zKys J J' 17 ∧ (I' 431 0 = 0 ∧ I' 429 0 = 6 ∧ I' 430 0 = 6 ∧ I' 441 0 = 0 ∧ I' 438 0 = 0) ∧ (I' 445 7 = 0 ∧ I' 446 7 = 0) ∧ (zRM I' 457 0 zrho0 ∧ zRM I' 458 0 zrho0) ∧ (I' 420 = I 420 ∧ I' 432 = I 432 ∧ I' 433 = I 433) ∧ ∀ a, ¬ (429 ≤ a ∧ a ≤ 454) → ¬ (457 ≤ a ∧ a ≤ 459) → I' a = I a := by
  obtain ⟨I1, p1, p2, ⟨p3, p4, p5⟩, p6, p7, p8⟩ := M_plain0 (d := 9) (J := J) (I := I) (s := 0) hL (by decide)
  obtain ⟨K0, e0⟩ : ∃ K : zJ, K = zu J 427 0 (lN (zk27 0)) := ⟨_, rfl⟩
  obtain ⟨K1, e1⟩ : ∃ K : zJ, K = zu K0 427 1 (lN (zk27 1)) := ⟨_, rfl⟩
  obtain ⟨K2, e2⟩ : ∃ K : zJ, K = zu K1 427 2 (lN (zk27 2)) := ⟨_, rfl⟩
  obtain ⟨K3, e3⟩ : ∃ K : zJ, K = zu K2 427 3 (lN (zk27 3)) := ⟨_, rfl⟩
  obtain ⟨K4, e4⟩ : ∃ K : zJ, K = zu K3 427 4 (lN (zk27 4)) := ⟨_, rfl⟩
  obtain ⟨K5, e5⟩ : ∃ K : zJ, K = zu K4 427 5 (lN (zk27 5)) := ⟨_, rfl⟩
  obtain ⟨K6, e6⟩ : ∃ K : zJ, K = zu K5 427 6 (lN (zk27 6)) := ⟨_, rfl⟩
  obtain ⟨K7, e7⟩ : ∃ K : zJ, K = zu K6 427 7 (lN (zk27 7)) := ⟨_, rfl⟩
  obtain ⟨K8, e8⟩ : ∃ K : zJ, K = zu K7 427 8 (lN (zk27 8)) := ⟨_, rfl⟩
  obtain ⟨K9, e9⟩ : ∃ K : zJ, K = zu K8 427 9 (lN (zk27 9)) := ⟨_, rfl⟩
  obtain ⟨K10, e10⟩ : ∃ K : zJ, K = zu K9 427 10 (lN (zk27 10)) := ⟨_, rfl⟩
  obtain ⟨K11, e11⟩ : ∃ K : zJ, K = zu K10 427 11 (lN (zk27 11)) := ⟨_, rfl⟩
  obtain ⟨K12, e12⟩ : ∃ K : zJ, K = zu K11 427 12 (lN (zk27 12)) := ⟨_, rfl⟩
  obtain ⟨K13, e13⟩ : ∃ K : zJ, K = zu K12 427 13 (lN (zk27 13)) := ⟨_, rfl⟩
  obtain ⟨K14, e14⟩ : ∃ K : zJ, K = zu K13 427 14 (lN (zk27 14)) := ⟨_, rfl⟩
  obtain ⟨K15, e15⟩ : ∃ K : zJ, K = zu K14 427 15 (lN (zk27 15)) := ⟨_, rfl⟩
  obtain ⟨K16, e16⟩ : ∃ K : zJ, K = zu K15 427 16 (lN (zk27 16)) := ⟨_, rfl⟩
  have k0 := zKys_put (zKys_rf (J := J)) e0
  have k1 := zKys_put k0 e1
  have k2 := zKys_put k1 e2
  have k3 := zKys_put k2 e3
  have k4 := zKys_put k3 e4
  have k5 := zKys_put k4 e5
  have k6 := zKys_put k5 e6
  have k7 := zKys_put k6 e7
  have k8 := zKys_put k7 e8
  have k9 := zKys_put k8 e9
  have k10 := zKys_put k9 e10
  have k11 := zKys_put k10 e11
  have k12 := zKys_put k11 e12
  have k13 := zKys_put k12 e13
  have k14 := zKys_put k13 e14
  have k15 := zKys_put k14 e15
  have k16 := zKys_put k15 e16
  have r1 : ∀ a, a ≠ 420 → ¬ (429 ≤ a ∧ a ≤ 454) → I1 a = I a := p2.1
  obtain ⟨I2, b1, b2, b3, b4⟩ := M_begins (d := 9) (Z := Z) (J := K16) (I := I1) (v := 0) (DX := fun _ => 0) (DY := fun _ => 0) (ρ := fun _ => 0) hL (by decide) (by rw [p3]; exact h18) (fun m hm => by rw [p4, p5, h432, h433]; exact ⟨rfl, rfl⟩) (fun k hk => by rw [r1 458 (by decide) (by decide), h458]; rfl)
  obtain ⟨I3, c1, c2, c3⟩ := M_keepsRow' (d := 9) (Z := Z) (J := K16) (I := I2) (ρ := zrho0) hL b2
  have row : ∀ a, a ≠ 457 → a ≠ 458 → a ≠ 459 → I3 a = I1 a := fun a x y z => by rw [c3 a x, b4 a y z]
  refine ⟨I3, K16, BX12_init_439 (d := 8) hL ⟨I1, p1, ?_⟩, k16, ?_, ?_, ⟨c2, ?_⟩, ⟨?_, ?_, ?_⟩, fun a x y => ?_⟩
  · refine ⟨lN (zk27 0), M_word0, fun y0 h0 => ?_⟩
    rw [← e0] at h0
    subst h0
    refine ⟨lN (zk27 1), M_word1, fun y1 h1 => ?_⟩
    rw [← e1] at h1
    subst h1
    refine ⟨lN (zk27 2), M_word2, fun y2 h2 => ?_⟩
    rw [← e2] at h2
    subst h2
    refine ⟨lN (zk27 3), M_word3, fun y3 h3 => ?_⟩
    rw [← e3] at h3
    subst h3
    refine ⟨lN (zk27 4), M_word4, fun y4 h4 => ?_⟩
    rw [← e4] at h4
    subst h4
    refine ⟨lN (zk27 5), M_word5, fun y5 h5 => ?_⟩
    rw [← e5] at h5
    subst h5
    refine ⟨lN (zk27 6), M_word6, fun y6 h6 => ?_⟩
    rw [← e6] at h6
    subst h6
    refine ⟨lN (zk27 7), M_word7, fun y7 h7 => ?_⟩
    rw [← e7] at h7
    subst h7
    refine ⟨lN (zk27 8), M_word8, fun y8 h8 => ?_⟩
    rw [← e8] at h8
    subst h8
    refine ⟨lN (zk27 9), M_word9, fun y9 h9 => ?_⟩
    rw [← e9] at h9
    subst h9
    refine ⟨lN (zk27 10), M_word10, fun y10 h10 => ?_⟩
    rw [← e10] at h10
    subst h10
    refine ⟨lN (zk27 11), M_word11, fun y11 h11 => ?_⟩
    rw [← e11] at h11
    subst h11
    refine ⟨lN (zk27 12), M_word12, fun y12 h12 => ?_⟩
    rw [← e12] at h12
    subst h12
    refine ⟨lN (zk27 13), M_word13, fun y13 h13 => ?_⟩
    rw [← e13] at h13
    subst h13
    refine ⟨lN (zk27 14), M_word14, fun y14 h14 => ?_⟩
    rw [← e14] at h14
    subst h14
    refine ⟨lN (zk27 15), M_word15, fun y15 h15 => ?_⟩
    rw [← e15] at h15
    subst h15
    refine ⟨lN (zk27 16), M_word16, fun y16 h16 => ?_⟩
    rw [← e16] at h16
    subst h16
    exact ⟨I2, b1, I3, c1, rfl⟩
  · rw [row 431 (by decide) (by decide) (by decide), row 429 (by decide) (by decide) (by decide), row 430 (by decide) (by decide) (by decide), row 441 (by decide) (by decide) (by decide), row 438 (by decide) (by decide) (by decide)]; exact p6
  · rw [row 445 (by decide) (by decide) (by decide), row 446 (by decide) (by decide) (by decide)]; exact p7 7 (by decide)
  · intro k hk
    rw [c3 458 (by decide)]; exact b2 k hk
  · rw [row 420 (by decide) (by decide) (by decide)]; exact p3
  · rw [row 432 (by decide) (by decide) (by decide)]; exact p4
  · rw [row 433 (by decide) (by decide) (by decide)]; exact p5
  · rw [row a (by omega) (by omega) (by omega)]
    by_cases e : a = 420
    · rw [e]; exact p3
    · exact r1 a e x
end
theorem zI0_z {xs : Nat → Int32} {b : Nat} (h : b < 1000000) : zI0 xs b = fun _ => 0 := by
  funext j
  unfold zI0
  rw [if_neg (by omega), if_neg (by omega), if_neg (by omega), if_neg (by omega), if_neg (by omega)]
theorem zTW_0 : zTW ztau0 (fun _ => none) := ⟨⟨by decide, by decide, by decide, by decide, by decide, by decide, by decide⟩, fun m hm => absurd hm (Nat.not_lt_zero _), fun m _ hm => absurd hm (Nat.not_lt_zero _), fun i hi => absurd hi (Nat.not_lt_zero _), fun m w _ h => by cases h⟩
/-- the class's ints where it was made -/
theorem zcI_0 (I : zI) : zcI I 0 2 = -1 ∧ ∀ k, k ≠ 2 → zcI I 0 k = I 0 k := ⟨by unfold zcI; rw [zu_a (by decide), zu_a (by decide), zu_a (by decide), zu_a (by decide), zu_a (by decide), zu_a (by decide), zu_eq], fun k hk => by unfold zcI; rw [zu_a (by decide), zu_a (by decide), zu_a (by decide), zu_a (by decide), zu_a (by decide), zu_a (by decide), zu_k hk]⟩
theorem zcI_30 (I : zI) : zcI I 30 0 = 6 ∧ zcI I 30 1 = 6 ∧ zcI I 30 5 = -1 ∧ ∀ k, k ≠ 0 → k ≠ 1 → k ≠ 5 → zcI I 30 k = I 30 k := ⟨by unfold zcI; rw [zu_k (by decide), zu_k (by decide), zu_eq], by unfold zcI; rw [zu_k (by decide), zu_eq], by unfold zcI; rw [zu_eq], fun k h0 h1 h5 => by unfold zcI; rw [zu_k h5, zu_k h1, zu_k h0, zu_a (by decide), zu_a (by decide), zu_a (by decide), zu_a (by decide)]⟩
theorem zcI_o (I : zI) {a : Nat} (h0 : a ≠ 0) (h1 : a ≠ 3) (h2 : a ≠ 30) : zcI I a = I a := by unfold zcI; rw [zu_ne h2, zu_ne h2, zu_ne h2, zu_ne h1, zu_ne h1, zu_ne h1, zu_ne h0]
/-- the class is made -/
theorem K_class {L : Nat} {xs : Nat → Int32} : ∃ I1 J1, zE 10 kX11_init 0 [some (.ref 0)] [] (zML L [(0, 11)] []) (zI0 xs) (fun _ _ => 0) (none, zML L zcSh zcRf, I1, J1) ∧ zAl zcSh zcRf I1 J1 420 ∧ zKc J1 ∧ (∀ b, b ≠ 25 → J1 b = fun _ => 0) ∧ zCT (zcI (zI0 xs)) 30 ztau0 (fun _ => none) ∧ (zCD I1 47 ztau0 zrho0 ∧ I1 47 0 = 0 ∧ I1 55 0 = 0) ∧ ∀ a, ¬ (47 ≤ a ∧ a ≤ 56) → I1 a = zcI (zI0 xs) a := by
  have A0 : zAl [(0, 11)] [] (zI0 xs) (fun _ _ => 0) 1 := ⟨rfl, fun e he => absurd he List.not_mem_nil, fun b _ hb => zI0_z hb, fun _ _ _ => rfl⟩
  have hI : ∀ j, j < 80 → zI0 xs 1000005 j = (zbytS.getD 0 []).getD j 0 := fun j _ => by
    unfold zI0
    rw [if_neg (by decide), if_neg (by decide), if_neg (by decide), if_pos rfl]
  obtain ⟨J1, a1, a2, a3, a4, a5⟩ := K_X11 (L := L) A0 hI
  have hl : zcSh.length ≤ 1000000 := by rw [zcSh_len]; decide
  have hd : zDy (zML L zcSh zcRf) 47 := zDy_of hl zcSh_d
  have ht : zTx (zML L zcSh zcRf) 30 := zTx_of hl zcSh_tA zcSh_tB zcSh_tL
  have z30 : ∀ k, zI0 xs 30 k = 0 := fun k => by rw [zI0_z (by decide)]
  obtain ⟨t0, t1, t5, tk⟩ := zcI_30 (zI0 xs)
  have hT : zCT (zcI (zI0 xs)) 30 ztau0 (fun _ => none) := ⟨⟨by rw [tk 2 (by decide) (by decide) (by decide), z30]; rfl, by rw [t0]; rfl, by rw [t1]; rfl, by rw [tk 4 (by decide) (by decide) (by decide), z30]; rfl, by rw [tk 3 (by decide) (by decide) (by decide), z30]; rfl⟩, fun m hm => absurd hm (Nat.not_lt_zero _), fun m _ hm => absurd hm (Nat.not_lt_zero _), fun i hi => absurd hi (Nat.not_lt_zero _), t5⟩
  obtain ⟨I1, g1, g2, g3, g4, g5⟩ := C_begin (d := 7) (J := J1) (I := zcI (zI0 xs)) (DX := fun _ => 0) (DY := fun _ => 0) (ρ := fun _ => 0) hd ht (by decide) zTW_0 hT (fun m hm => absurd hm (Nat.not_lt_zero _))
  have lk : ∀ {Z : zZ} {k x : Nat}, Z = zML L zcSh zcRf → zAlk zcRf 0 k = some x → Z.2.2.2 0 k = some x := fun e h => by rw [e]; exact h
  refine ⟨I1, J1, a5 _ ?_, ⟨a1.1, a1.2.1, fun b p q => by rw [g5 b (by omega)]; exact a1.2.2.1 b p q, a1.2.2.2⟩, a2, fun b hb => by rw [a3 b hb], hT, ⟨g2, g3, by rw [show (55 : Nat) = 47 + 8 from rfl, g4, zcI_o _ (by decide) (by decide) (by decide), zI0_z (by decide)]⟩, g5⟩
  have h0 : zis (zML L zcSh zcRf) 0 0 11 := a1.is (by decide) a4
  have l5 : (zML L zcSh zcRf).2.2.2 0 5 = some 47 := lk rfl zcRf_5
  have l4 : (zML L zcSh zcRf).2.2.2 0 4 = some 30 := lk rfl zcRf_4
  clear lk a5
  generalize zML L zcSh zcRf = Zc at *
  refine ex_step (pc' := 129) dX11_init_128 rfl ?_
  refine ex_getr dX11_init_129 wf_RX11_34 h0 rfl l5 ?_
  refine ex_step (pc' := 133) dX11_init_132 rfl ?_
  refine ex_getr dX11_init_133 wf_RX11_27 h0 rfl l4 ?_
  refine ex_callV (as := [.ref 30]) (st := []) (ci := 0) dX11_init_136 zmX0_begin zl_RX11_83 ziX0_begin zvX0_begin (by decide) (zDy_o hd) rfl (Nat.le_of_ble_eq_true rfl) (Nat.le_of_ble_eq_true rfl) g1 ?_
  exact ex_ret (v := none) ⟨dX11_init_139, rfl⟩
/-- both are made: all is tied -/
theorem X_start {L : Nat} {xs : Nat → Int32} : ∃ I1 J1 I2 J2, zE 10 kX11_init 0 [some (.ref 0)] [] (zML L [(0, 11)] []) (zI0 xs) (fun _ _ => 0) (none, zML L zcSh zcRf, I1, J1) ∧ zAl zcSh zcRf I1 J1 420 ∧ zE 10 kX12_init 0 [some (.ref 420)] [] (zML L ((0, 12) :: zcSh) zcRf) I1 J1 (none, zML L zmSh zmRf, I2, J2) ∧ (zKc J2 ∧ zKm J2) ∧ I2 1000000 = xs ∧ zFul (zML L zmSh zmRf) I2 30 3 0 ztau0 (fun _ => none) 10000 zrho0 0 0 (fun _ _ => 0) (fun _ => none) 0 (fun _ => (0, 0, false)) := by
  obtain ⟨I1, J1, c1, c2, c3, c4, c5, ⟨c6, c7, c8⟩, c9⟩ := K_class (L := L) (xs := xs)
  have w := zAsh_n (s := (0, 12)) c2.1
  obtain ⟨A, q1⟩ := K_X12 (L := L) c2.new w
  have z1 : ∀ a, ¬ (47 ≤ a ∧ a ≤ 56) → a ≠ 0 → a ≠ 3 → a ≠ 30 → I1 a = zI0 xs a := fun a p h0 h1 h2 => by rw [c9 a p, zcI_o _ h0 h1 h2]
  have z2 : ∀ a, 57 ≤ a → a < 1000000 → I1 a = fun _ => 0 := fun a h1 h2 => by rw [z1 a (by omega) (by omega) (by omega) (by omega), zI0_z h2]
  obtain ⟨I0, e0⟩ : ∃ I0 : zI, I0 = zu I1 420 17 (-1) := ⟨_, rfl⟩
  have r0 : ∀ a, a ≠ 420 → I0 a = I1 a := fun a h => by rw [e0, zu_ne h]
  have k0 : ∀ k, k ≠ 17 → I0 420 k = 0 := fun k h => by rw [e0, zu_k h, z2 420 (by decide) (by decide)]
  obtain ⟨I2, J2, m1, m2, ⟨n1, n2, n3, n4, n5⟩, ⟨n6, n7⟩, ⟨n8, n9⟩, ⟨n10, n11, n12⟩, n13⟩ := M_init (Z := zML L zmSh zmRf) (I := I0) (J := J1) zm_LY (k0 18 (by decide)) (by rw [r0 432 (by decide), z2 432 (by decide) (by decide)]) (by rw [r0 433 (by decide), z2 433 (by decide) (by decide)]) (by rw [r0 458 (by decide), z2 458 (by decide) (by decide)])
  have row : ∀ a, a ≠ 420 → ¬ (429 ≤ a ∧ a ≤ 454) → ¬ (457 ≤ a ∧ a ≤ 459) → I2 a = I1 a := fun a h1 h2 h3 => by rw [n13 a h2 h3, r0 a h1]
  have i420 : ∀ k, k ≠ 17 → I2 420 k = 0 := fun k h => by rw [n10]; exact k0 k h
  have i17 : I2 420 17 = -1 := by rw [n10, e0, zu_eq]
  have rz : ∀ a, a ≠ 420 → ¬ (429 ≤ a ∧ a ≤ 454) → ¬ (457 ≤ a ∧ a ≤ 459) → 57 ≤ a → a < 1000000 → I2 a = fun _ => 0 := fun a h1 h2 h3 h4 h5 => by rw [row a h1 h2 h3, z2 a h4 h5]
  have ro : ∀ a, 1000000 ≤ a → I2 a = zI0 xs a := fun a h => by rw [row a (by omega) (by omega) (by omega), z1 a (by omega) (by omega) (by omega) (by omega)]
  obtain ⟨y2, yk⟩ := zcI_0 (zI0 xs)
  have i0 : ∀ k, I2 0 k = zcI (zI0 xs) 0 k := fun k => by rw [row 0 (by decide) (by decide) (by decide), c9 0 (by decide)]
  have bd : zRb 10000 zrho0 := zRb_bg2 (Nat.le_refl _) (fun k hk => Nat.zero_le _) (fun m hm => ⟨Nat.zero_le _, Nat.zero_le _⟩)
  have m2' : ∀ b, b ≠ 427 → J2 b = J1 b := m2.2
  have hstart : zE 10 kX12_init 0 [some (.ref 420)] [] (zML L ((0, 12) :: zcSh) zcRf) I1 J1 (none, zML L zmSh zmRf, I2, J2) := q1 _ (by rw [← e0]; exact m1)
  refine ⟨I1, J1, I2, J2, c1, c2, hstart, ⟨fun k hk => by rw [m2' 25 (by decide)]; exact c3 k hk, fun k hk => m2.1 k hk⟩, ?_, ?_⟩
  · rw [ro 1000000 (Nat.le_refl _)]
    funext j
    unfold zI0
    rw [if_pos rfl]
  · refine ⟨⟨⟨zm_LY, by decide⟩, zTW_0, ⟨⟨by decide, i420 18 (by decide)⟩, ⟨n1, n2, n3, n4, n5⟩, fun m hm => absurd hm (Nat.not_lt_zero _), fun m _ hm => absurd hm (Nat.not_lt_zero _), fun i hi => absurd hi (Nat.not_lt_zero _), fun m hm => absurd hm (Nat.not_lt_zero _), by show I2 445 7 = I2 446 7; rw [n6, n7]⟩, c5.same (fun a p q _ _ => by rw [row a (by omega) (by omega) (by omega), c9 a (by omega)]), ?_, n8, bd, zDW_bg zTW_0 (fun m hm => absurd hm (Nat.not_lt_zero _)), c6.same (fun a p q => row a (by omega) (by omega) (by omega)), ?_, ?_⟩, ⟨⟨⟨?_, ?_⟩, fun i hi => absurd hi (Nat.not_lt_zero _)⟩, ⟨i420 58 (by decide), fun i hi => absurd hi (Nat.not_lt_zero _)⟩, ⟨by decide, by decide⟩, fun i hi => absurd hi (Nat.not_lt_zero _)⟩, ⟨fun s hs => ?_, fun s hs => ?_, fun s hs σ q => absurd q (by simp)⟩, ⟨⟨by decide, ?_, i420 69 (by decide)⟩, fun i hi => absurd hi (Nat.not_lt_zero _)⟩, fun k hk => ⟨0, 0, by decide, by decide, ?_, ?_⟩, zw.of n9 bd (by decide), ⟨0, fun _ => 0, ⟨by decide, ?_, i420 2 (by decide)⟩, fun i hi => absurd hi (Nat.not_lt_zero _)⟩, ?_, fun p w _ h => absurd h (by simp), fun j hj => ?_⟩
    · intro w hw
      rw [ro 1000001 (by decide), ro 1000002 (by decide)]
      exact (by decide : ∀ w, w ≤ 4 → (if (1000001 : Nat) = 1000000 then (0 : Int32) else ([0, 0, 1, 0, -1] : List Int32).getD w 0) = Int32.ofInt (zdi w) ∧ ([0, 1, 0, -1, 0] : List Int32).getD w 0 = Int32.ofInt (zdj w)) w hw
    · rw [row 47 (by decide) (by decide) (by decide)]; exact c7
    · show I2 55 0 = 0
      rw [row 55 (by decide) (by decide) (by decide)]; exact c8
    · rw [rz 67 (by decide) (by decide) (by decide) (by decide) (by decide)]; rfl
    · rw [rz 67 (by decide) (by decide) (by decide) (by decide) (by decide)]; rfl
    · show I2 70 s = 0
      rw [rz 70 (by decide) (by decide) (by decide) (by decide) (by decide)]
    · show I2 471 s = 0
      rw [rz 471 (by decide) (by decide) (by decide) (by decide) (by decide)]
    · rw [rz 415 (by decide) (by decide) (by decide) (by decide) (by decide)]; rfl
    · rw [n11, r0 432 (by decide), z2 432 (by decide) (by decide)]; rfl
    · rw [n12, r0 433 (by decide), z2 433 (by decide) (by decide)]; rfl
    · rw [i0, yk 1 (by decide), zI0_z (by decide)]; rfl
    · rw [i0, y2, i17]
    · rw [ro 1000006 (by decide)]
      unfold zI0
      rw [if_neg (by decide), if_neg (by decide), if_neg (by decide), if_neg (by decide), if_pos rfl]

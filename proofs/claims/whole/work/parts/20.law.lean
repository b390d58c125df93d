/-! by program: the law's pure function and its walk -/
def Sc_ (t : Ct) (V : Vt) (b L : Nat) (xs : Nat → Int32) : Prop := va_X b L xs (tS t) (tS t).heap ∧ b < (tS t).heap.size ∧ b < V.1
theorem lw_c {t : Ct} {k : Nat} (h : tR t = room_1) (hk : k ≤ 600000) : k ≤ (tR t).cells := by rw [h]; exact hk
theorem lw_s {t : Ct} {k : Nat} (h : tR t = room_1) (hk : k ≤ 7302250) : k ≤ (tR t).slots := by rw [h]; exact hk
section GRL
variable {t : Ct} {V : Vt} {cc : ByteArray} {nL ce sl : Nat} {own : String} {Q : State → Prop} {pc : Nat} {lv : List (Nat × Value)} {st : List Value} {w : Wd}
theorem g_sld (X : Cx t V cc nL own) {b L : Nat} {xs : Nat → Int32} {i : Int32} (S : Sc_ t V b L xs) (hi : ib i L = true) (d : decode cc pc = .ok (.iaload, 1)) (kk : Gd t V nL ce sl Q (pc + 1) lv (.int (xs (nx i)) :: st) w) : Gd t V nL ce sl Q pc lv (.int i :: .ref b :: st) w :=
  fun H locs ls h1 h2 h3 => va_sld X.1 X.2.1 S.1 S.2.1 (fun h => Nat.not_le.mpr S.2.2 h) h2 (ib_in hi) d (kk H locs ls h1 h2 h3)
theorem g_slen (X : Cx t V cc nL own) {b L : Nat} {xs : Nat → Int32} (S : Sc_ t V b L xs) (d : decode cc pc = .ok (.arraylength, 1)) (kk : Gd t V nL ce sl Q (pc + 1) lv (.int (nI L) :: st) w) : Gd t V nL ce sl Q pc lv (.ref b :: st) w :=
  fun H locs ls h1 h2 h3 => va_slen X.1 X.2.1 S.1 S.2.1 (fun h => Nat.not_le.mpr S.2.2 h) h2 d (kk H locs ls h1 h2 h3)
end GRL
theorem q_82 : Cond.classLink RL 7 RX8 ∈ gw := gw_of 82 (by decide +kernel) (by decide +kernel)
theorem q_83 : Cond.instantiable RX8 10 ∈ gw := gw_of 83 (by decide +kernel) (by decide +kernel)
theorem q_84 : Cond.methodLink RL 9 yX8_init ∈ gw := gw_of 84 (by decide +kernel) (by decide +kernel)
theorem q_85 : Cond.instanceMethod yX8_init ∈ gw := gw_of 85 (by decide +kernel) (by decide +kernel)
theorem q_86 : Cond.code yX8_init cX8_init 2 (none) ∈ gw := gw_of 86 (by decide +kernel) (by decide +kernel)
theorem q_352 : Cond.methodLink RL 13 yX8_bench ∈ gw := gw_of 352 (by decide +kernel) (by decide +kernel)
theorem q_353 : Cond.instanceMethod yX8_bench ∈ gw := gw_of 353 (by decide +kernel) (by decide +kernel)
theorem q_354 : Cond.selects RX8 yX8_bench yX8_bench ∈ gw := gw_of 354 (by decide +kernel) (by decide +kernel)
theorem q_355 : Cond.code yX8_bench cX8_bench 4 (some .int) ∈ gw := gw_of 355 (by decide +kernel) (by decide +kernel)
theorem q_386 : Cond.methodLink RL 18 yX8_sitter ∈ gw := gw_of 386 (by decide +kernel) (by decide +kernel)
theorem q_387 : Cond.instanceMethod yX8_sitter ∈ gw := gw_of 387 (by decide +kernel) (by decide +kernel)
theorem q_388 : Cond.selects RX8 yX8_sitter yX8_sitter ∈ gw := gw_of 388 (by decide +kernel) (by decide +kernel)
theorem q_389 : Cond.code yX8_sitter cX8_sitter 2 (some .int) ∈ gw := gw_of 389 (by decide +kernel) (by decide +kernel)
theorem q_402 : Cond.methodLink RL 23 yX8_told ∈ gw := gw_of 402 (by decide +kernel) (by decide +kernel)
theorem q_403 : Cond.instanceMethod yX8_told ∈ gw := gw_of 403 (by decide +kernel) (by decide +kernel)
theorem q_404 : Cond.selects RX8 yX8_told yX8_told ∈ gw := gw_of 404 (by decide +kernel) (by decide +kernel)
theorem q_405 : Cond.code yX8_told cX8_told 4 (some .int) ∈ gw := gw_of 405 (by decide +kernel) (by decide +kernel)
theorem q_459 : Cond.methodLink RL 28 yX8_as ∈ gw := gw_of 459 (by decide +kernel) (by decide +kernel)
theorem q_460 : Cond.instanceMethod yX8_as ∈ gw := gw_of 460 (by decide +kernel) (by decide +kernel)
theorem q_461 : Cond.selects RX8 yX8_as yX8_as ∈ gw := gw_of 461 (by decide +kernel) (by decide +kernel)
theorem q_462 : Cond.code yX8_as cX8_as 4 (some .int) ∈ gw := gw_of 462 (by decide +kernel) (by decide +kernel)
theorem q_465 : Cond.methodLink RL 32 yX8_turns ∈ gw := gw_of 465 (by decide +kernel) (by decide +kernel)
theorem q_466 : Cond.instanceMethod yX8_turns ∈ gw := gw_of 466 (by decide +kernel) (by decide +kernel)
theorem q_467 : Cond.selects RX8 yX8_turns yX8_turns ∈ gw := gw_of 467 (by decide +kernel) (by decide +kernel)
theorem q_468 : Cond.code yX8_turns cX8_turns 5 (some .int) ∈ gw := gw_of 468 (by decide +kernel) (by decide +kernel)
theorem q_471 : Cond.methodLink RL 36 yX8_sits ∈ gw := gw_of 471 (by decide +kernel) (by decide +kernel)
theorem q_472 : Cond.instanceMethod yX8_sits ∈ gw := gw_of 472 (by decide +kernel) (by decide +kernel)
theorem q_473 : Cond.selects RX8 yX8_sits yX8_sits ∈ gw := gw_of 473 (by decide +kernel) (by decide +kernel)
theorem q_474 : Cond.code yX8_sits cX8_sits 4 (some .int) ∈ gw := gw_of 474 (by decide +kernel) (by decide +kernel)
theorem q_508 : Cond.methodLink RL 40 yX8_rises ∈ gw := gw_of 508 (by decide +kernel) (by decide +kernel)
theorem q_509 : Cond.instanceMethod yX8_rises ∈ gw := gw_of 509 (by decide +kernel) (by decide +kernel)
theorem q_510 : Cond.selects RX8 yX8_rises yX8_rises ∈ gw := gw_of 510 (by decide +kernel) (by decide +kernel)
theorem q_511 : Cond.code yX8_rises cX8_rises 4 (some .int) ∈ gw := gw_of 511 (by decide +kernel) (by decide +kernel)
theorem q_512 : Cond.methodLink RL 44 yX8_who ∈ gw := gw_of 512 (by decide +kernel) (by decide +kernel)
theorem q_513 : Cond.instanceMethod yX8_who ∈ gw := gw_of 513 (by decide +kernel) (by decide +kernel)
theorem q_514 : Cond.selects RX8 yX8_who yX8_who ∈ gw := gw_of 514 (by decide +kernel) (by decide +kernel)
theorem q_515 : Cond.code yX8_who cX8_who 3 (some .int) ∈ gw := gw_of 515 (by decide +kernel) (by decide +kernel)
theorem q_517 : Cond.methodLink RL 48 yX8_cushion ∈ gw := gw_of 517 (by decide +kernel) (by decide +kernel)
theorem q_518 : Cond.instanceMethod yX8_cushion ∈ gw := gw_of 518 (by decide +kernel) (by decide +kernel)
theorem q_519 : Cond.selects RX8 yX8_cushion yX8_cushion ∈ gw := gw_of 519 (by decide +kernel) (by decide +kernel)
theorem q_520 : Cond.code yX8_cushion cX8_cushion 4 (some .int) ∈ gw := gw_of 520 (by decide +kernel) (by decide +kernel)
theorem q_521 : Cond.methodLink RL 52 yX8_rule ∈ gw := gw_of 521 (by decide +kernel) (by decide +kernel)
theorem q_522 : Cond.instanceMethod yX8_rule ∈ gw := gw_of 522 (by decide +kernel) (by decide +kernel)
theorem q_523 : Cond.selects RX8 yX8_rule yX8_rule ∈ gw := gw_of 523 (by decide +kernel) (by decide +kernel)
theorem q_524 : Cond.code yX8_rule cX8_rule 4 (some .int) ∈ gw := gw_of 524 (by decide +kernel) (by decide +kernel)
theorem q_527 : Cond.methodLink RL 56 yX8_deal ∈ gw := gw_of 527 (by decide +kernel) (by decide +kernel)
theorem q_528 : Cond.instanceMethod yX8_deal ∈ gw := gw_of 528 (by decide +kernel) (by decide +kernel)
theorem q_529 : Cond.selects RX8 yX8_deal yX8_deal ∈ gw := gw_of 529 (by decide +kernel) (by decide +kernel)
theorem q_530 : Cond.code yX8_deal cX8_deal 4 (some .int) ∈ gw := gw_of 530 (by decide +kernel) (by decide +kernel)
theorem q_539 : Cond.methodLink RL 60 yX8_seed ∈ gw := gw_of 539 (by decide +kernel) (by decide +kernel)
theorem q_540 : Cond.instanceMethod yX8_seed ∈ gw := gw_of 540 (by decide +kernel) (by decide +kernel)
theorem q_541 : Cond.selects RX8 yX8_seed yX8_seed ∈ gw := gw_of 541 (by decide +kernel) (by decide +kernel)
theorem q_542 : Cond.code yX8_seed cX8_seed 3 (some .int) ∈ gw := gw_of 542 (by decide +kernel) (by decide +kernel)
theorem q_543 : Cond.methodLink RL 64 yX8_minutes ∈ gw := gw_of 543 (by decide +kernel) (by decide +kernel)
theorem q_544 : Cond.instanceMethod yX8_minutes ∈ gw := gw_of 544 (by decide +kernel) (by decide +kernel)
theorem q_545 : Cond.selects RX8 yX8_minutes yX8_minutes ∈ gw := gw_of 545 (by decide +kernel) (by decide +kernel)
theorem q_546 : Cond.code yX8_minutes cX8_minutes 2 (some .int) ∈ gw := gw_of 546 (by decide +kernel) (by decide +kernel)
theorem q_579 : Cond.methodLink RL 68 yX8_inn ∈ gw := gw_of 579 (by decide +kernel) (by decide +kernel)
theorem q_580 : Cond.instanceMethod yX8_inn ∈ gw := gw_of 580 (by decide +kernel) (by decide +kernel)
theorem q_581 : Cond.selects RX8 yX8_inn yX8_inn ∈ gw := gw_of 581 (by decide +kernel) (by decide +kernel)
theorem q_582 : Cond.code yX8_inn cX8_inn 2 (some .int) ∈ gw := gw_of 582 (by decide +kernel) (by decide +kernel)
theorem q_586 : Cond.methodLink RL 72 yX8_goes ∈ gw := gw_of 586 (by decide +kernel) (by decide +kernel)
theorem q_587 : Cond.instanceMethod yX8_goes ∈ gw := gw_of 587 (by decide +kernel) (by decide +kernel)
theorem q_588 : Cond.selects RX8 yX8_goes yX8_goes ∈ gw := gw_of 588 (by decide +kernel) (by decide +kernel)
theorem q_589 : Cond.code yX8_goes cX8_goes 2 (some .int) ∈ gw := gw_of 589 (by decide +kernel) (by decide +kernel)
theorem q_602 : Cond.methodLink RL 76 yX8_game ∈ gw := gw_of 602 (by decide +kernel) (by decide +kernel)
theorem q_603 : Cond.instanceMethod yX8_game ∈ gw := gw_of 603 (by decide +kernel) (by decide +kernel)
theorem q_604 : Cond.selects RX8 yX8_game yX8_game ∈ gw := gw_of 604 (by decide +kernel) (by decide +kernel)
theorem q_605 : Cond.code yX8_game cX8_game 4 (some .int) ∈ gw := gw_of 605 (by decide +kernel) (by decide +kernel)
theorem q_611 : Cond.methodLink RL 80 yX8_worthy ∈ gw := gw_of 611 (by decide +kernel) (by decide +kernel)
theorem q_612 : Cond.instanceMethod yX8_worthy ∈ gw := gw_of 612 (by decide +kernel) (by decide +kernel)
theorem q_613 : Cond.selects RX8 yX8_worthy yX8_worthy ∈ gw := gw_of 613 (by decide +kernel) (by decide +kernel)
theorem q_614 : Cond.code yX8_worthy cX8_worthy 3 (some .int) ∈ gw := gw_of 614 (by decide +kernel) (by decide +kernel)
theorem q_632 : Cond.methodLink RL 84 yX8_behind ∈ gw := gw_of 632 (by decide +kernel) (by decide +kernel)
theorem q_633 : Cond.instanceMethod yX8_behind ∈ gw := gw_of 633 (by decide +kernel) (by decide +kernel)
theorem q_634 : Cond.selects RX8 yX8_behind yX8_behind ∈ gw := gw_of 634 (by decide +kernel) (by decide +kernel)
theorem q_635 : Cond.code yX8_behind cX8_behind 3 (some .int) ∈ gw := gw_of 635 (by decide +kernel) (by decide +kernel)
theorem q_652 : Cond.methodLink RL 88 yX8_fullUp ∈ gw := gw_of 652 (by decide +kernel) (by decide +kernel)
theorem q_653 : Cond.instanceMethod yX8_fullUp ∈ gw := gw_of 653 (by decide +kernel) (by decide +kernel)
theorem q_654 : Cond.selects RX8 yX8_fullUp yX8_fullUp ∈ gw := gw_of 654 (by decide +kernel) (by decide +kernel)
theorem q_655 : Cond.code yX8_fullUp cX8_fullUp 2 (some .int) ∈ gw := gw_of 655 (by decide +kernel) (by decide +kernel)
theorem q_661 : Cond.methodLink RL 93 yX8_rose ∈ gw := gw_of 661 (by decide +kernel) (by decide +kernel)
theorem q_662 : Cond.instanceMethod yX8_rose ∈ gw := gw_of 662 (by decide +kernel) (by decide +kernel)
theorem q_663 : Cond.selects RX8 yX8_rose yX8_rose ∈ gw := gw_of 663 (by decide +kernel) (by decide +kernel)
theorem q_664 : Cond.code yX8_rose cX8_rose 6 (some .int) ∈ gw := gw_of 664 (by decide +kernel) (by decide +kernel)
theorem q_665 : Cond.methodLink RL 97 yX8_book ∈ gw := gw_of 665 (by decide +kernel) (by decide +kernel)
theorem q_666 : Cond.instanceMethod yX8_book ∈ gw := gw_of 666 (by decide +kernel) (by decide +kernel)
theorem q_667 : Cond.selects RX8 yX8_book yX8_book ∈ gw := gw_of 667 (by decide +kernel) (by decide +kernel)
theorem q_668 : Cond.code yX8_book cX8_book 8 (some .int) ∈ gw := gw_of 668 (by decide +kernel) (by decide +kernel)
theorem q_678 : Cond.methodLink RL 101 yX8_fee ∈ gw := gw_of 678 (by decide +kernel) (by decide +kernel)
theorem q_679 : Cond.instanceMethod yX8_fee ∈ gw := gw_of 679 (by decide +kernel) (by decide +kernel)
theorem q_680 : Cond.selects RX8 yX8_fee yX8_fee ∈ gw := gw_of 680 (by decide +kernel) (by decide +kernel)
theorem q_681 : Cond.code yX8_fee cX8_fee 2 (some .int) ∈ gw := gw_of 681 (by decide +kernel) (by decide +kernel)
theorem q_684 : Cond.methodLink RL 105 yX8_fine ∈ gw := gw_of 684 (by decide +kernel) (by decide +kernel)
theorem q_685 : Cond.instanceMethod yX8_fine ∈ gw := gw_of 685 (by decide +kernel) (by decide +kernel)
theorem q_686 : Cond.selects RX8 yX8_fine yX8_fine ∈ gw := gw_of 686 (by decide +kernel) (by decide +kernel)
theorem q_687 : Cond.code yX8_fine cX8_fine 4 (some .int) ∈ gw := gw_of 687 (by decide +kernel) (by decide +kernel)
theorem q_688 : Cond.methodLink RL 109 yX8_feed ∈ gw := gw_of 688 (by decide +kernel) (by decide +kernel)
theorem q_689 : Cond.instanceMethod yX8_feed ∈ gw := gw_of 689 (by decide +kernel) (by decide +kernel)
theorem q_690 : Cond.selects RX8 yX8_feed yX8_feed ∈ gw := gw_of 690 (by decide +kernel) (by decide +kernel)
theorem q_691 : Cond.code yX8_feed cX8_feed 4 (some .int) ∈ gw := gw_of 691 (by decide +kernel) (by decide +kernel)
theorem q_697 : Cond.methodLink RL 113 yX8_trim ∈ gw := gw_of 697 (by decide +kernel) (by decide +kernel)
theorem q_698 : Cond.instanceMethod yX8_trim ∈ gw := gw_of 698 (by decide +kernel) (by decide +kernel)
theorem q_699 : Cond.selects RX8 yX8_trim yX8_trim ∈ gw := gw_of 699 (by decide +kernel) (by decide +kernel)
theorem q_700 : Cond.code yX8_trim cX8_trim 2 (some .int) ∈ gw := gw_of 700 (by decide +kernel) (by decide +kernel)
theorem q_701 : Cond.methodLink RL 117 yX8_text ∈ gw := gw_of 701 (by decide +kernel) (by decide +kernel)
theorem q_702 : Cond.instanceMethod yX8_text ∈ gw := gw_of 702 (by decide +kernel) (by decide +kernel)
theorem q_703 : Cond.selects RX8 yX8_text yX8_text ∈ gw := gw_of 703 (by decide +kernel) (by decide +kernel)
theorem q_704 : Cond.code yX8_text cX8_text 2 (some .int) ∈ gw := gw_of 704 (by decide +kernel) (by decide +kernel)
theorem q_918 : Cond.methodLink RL 121 yX8_textTold ∈ gw := gw_of 918 (by decide +kernel) (by decide +kernel)
theorem q_919 : Cond.instanceMethod yX8_textTold ∈ gw := gw_of 919 (by decide +kernel) (by decide +kernel)
theorem q_920 : Cond.selects RX8 yX8_textTold yX8_textTold ∈ gw := gw_of 920 (by decide +kernel) (by decide +kernel)
theorem q_921 : Cond.code yX8_textTold cX8_textTold 4 (some .int) ∈ gw := gw_of 921 (by decide +kernel) (by decide +kernel)
theorem q_922 : Cond.methodLink RL 125 yX8_why ∈ gw := gw_of 922 (by decide +kernel) (by decide +kernel)
theorem q_923 : Cond.instanceMethod yX8_why ∈ gw := gw_of 923 (by decide +kernel) (by decide +kernel)
theorem q_924 : Cond.selects RX8 yX8_why yX8_why ∈ gw := gw_of 924 (by decide +kernel) (by decide +kernel)
theorem q_925 : Cond.code yX8_why cX8_why 2 (some .int) ∈ gw := gw_of 925 (by decide +kernel) (by decide +kernel)
theorem q_926 : Cond.methodLink RL 129 yX8_sheet ∈ gw := gw_of 926 (by decide +kernel) (by decide +kernel)
theorem q_927 : Cond.instanceMethod yX8_sheet ∈ gw := gw_of 927 (by decide +kernel) (by decide +kernel)
theorem q_928 : Cond.selects RX8 yX8_sheet yX8_sheet ∈ gw := gw_of 928 (by decide +kernel) (by decide +kernel)
theorem q_929 : Cond.code yX8_sheet cX8_sheet 4 (some .int) ∈ gw := gw_of 929 (by decide +kernel) (by decide +kernel)
theorem q_935 : Cond.methodLink RL 133 yX8_mark ∈ gw := gw_of 935 (by decide +kernel) (by decide +kernel)
theorem q_936 : Cond.instanceMethod yX8_mark ∈ gw := gw_of 936 (by decide +kernel) (by decide +kernel)
theorem q_937 : Cond.selects RX8 yX8_mark yX8_mark ∈ gw := gw_of 937 (by decide +kernel) (by decide +kernel)
theorem q_938 : Cond.code yX8_mark cX8_mark 6 (some .int) ∈ gw := gw_of 938 (by decide +kernel) (by decide +kernel)
theorem q_947 : Cond.methodLink RL 137 yX8_pour ∈ gw := gw_of 947 (by decide +kernel) (by decide +kernel)
theorem q_948 : Cond.instanceMethod yX8_pour ∈ gw := gw_of 948 (by decide +kernel) (by decide +kernel)
theorem q_949 : Cond.selects RX8 yX8_pour yX8_pour ∈ gw := gw_of 949 (by decide +kernel) (by decide +kernel)
theorem q_950 : Cond.code yX8_pour cX8_pour 7 (some .int) ∈ gw := gw_of 950 (by decide +kernel) (by decide +kernel)
theorem q_952 : Cond.methodLink RL 141 yX8_reads ∈ gw := gw_of 952 (by decide +kernel) (by decide +kernel)
theorem q_953 : Cond.instanceMethod yX8_reads ∈ gw := gw_of 953 (by decide +kernel) (by decide +kernel)
theorem q_954 : Cond.selects RX8 yX8_reads yX8_reads ∈ gw := gw_of 954 (by decide +kernel) (by decide +kernel)
theorem q_955 : Cond.code yX8_reads cX8_reads 5 (some .int) ∈ gw := gw_of 955 (by decide +kernel) (by decide +kernel)
theorem q_956 : Cond.methodLink RL 145 yX8_copy ∈ gw := gw_of 956 (by decide +kernel) (by decide +kernel)
theorem q_957 : Cond.instanceMethod yX8_copy ∈ gw := gw_of 957 (by decide +kernel) (by decide +kernel)
theorem q_958 : Cond.selects RX8 yX8_copy yX8_copy ∈ gw := gw_of 958 (by decide +kernel) (by decide +kernel)
theorem q_959 : Cond.code yX8_copy cX8_copy 8 (some .int) ∈ gw := gw_of 959 (by decide +kernel) (by decide +kernel)
theorem q_965 : Cond.methodLink RL 150 yX8_lay ∈ gw := gw_of 965 (by decide +kernel) (by decide +kernel)
theorem q_966 : Cond.instanceMethod yX8_lay ∈ gw := gw_of 966 (by decide +kernel) (by decide +kernel)
theorem q_967 : Cond.selects RX8 yX8_lay yX8_lay ∈ gw := gw_of 967 (by decide +kernel) (by decide +kernel)
theorem q_968 : Cond.code yX8_lay cX8_lay 6 (some .int) ∈ gw := gw_of 968 (by decide +kernel) (by decide +kernel)
theorem q_978 : Cond.methodLink RL 154 yX8_ask ∈ gw := gw_of 978 (by decide +kernel) (by decide +kernel)
theorem q_979 : Cond.instanceMethod yX8_ask ∈ gw := gw_of 979 (by decide +kernel) (by decide +kernel)
theorem q_980 : Cond.selects RX8 yX8_ask yX8_ask ∈ gw := gw_of 980 (by decide +kernel) (by decide +kernel)
theorem q_981 : Cond.code yX8_ask cX8_ask 4 (some .int) ∈ gw := gw_of 981 (by decide +kernel) (by decide +kernel)
theorem q_982 : Cond.methodLink RL 158 yX8_item ∈ gw := gw_of 982 (by decide +kernel) (by decide +kernel)
theorem q_983 : Cond.instanceMethod yX8_item ∈ gw := gw_of 983 (by decide +kernel) (by decide +kernel)
theorem q_984 : Cond.selects RX8 yX8_item yX8_item ∈ gw := gw_of 984 (by decide +kernel) (by decide +kernel)
theorem q_985 : Cond.code yX8_item cX8_item 5 (some .int) ∈ gw := gw_of 985 (by decide +kernel) (by decide +kernel)
theorem q_986 : Cond.methodLink RL 162 yX8_rest ∈ gw := gw_of 986 (by decide +kernel) (by decide +kernel)
theorem q_987 : Cond.instanceMethod yX8_rest ∈ gw := gw_of 987 (by decide +kernel) (by decide +kernel)
theorem q_988 : Cond.selects RX8 yX8_rest yX8_rest ∈ gw := gw_of 988 (by decide +kernel) (by decide +kernel)
theorem q_989 : Cond.code yX8_rest cX8_rest 4 (some .int) ∈ gw := gw_of 989 (by decide +kernel) (by decide +kernel)
theorem q_990 : Cond.methodLink RL 166 yX8_tell ∈ gw := gw_of 990 (by decide +kernel) (by decide +kernel)
theorem q_991 : Cond.instanceMethod yX8_tell ∈ gw := gw_of 991 (by decide +kernel) (by decide +kernel)
theorem q_992 : Cond.selects RX8 yX8_tell yX8_tell ∈ gw := gw_of 992 (by decide +kernel) (by decide +kernel)
theorem q_993 : Cond.code yX8_tell cX8_tell 2 (some .int) ∈ gw := gw_of 993 (by decide +kernel) (by decide +kernel)
theorem q_994 : Cond.methodLink RL 170 yX8_check ∈ gw := gw_of 994 (by decide +kernel) (by decide +kernel)
theorem q_995 : Cond.instanceMethod yX8_check ∈ gw := gw_of 995 (by decide +kernel) (by decide +kernel)
theorem q_996 : Cond.selects RX8 yX8_check yX8_check ∈ gw := gw_of 996 (by decide +kernel) (by decide +kernel)
theorem q_997 : Cond.code yX8_check cX8_check 3 (some .int) ∈ gw := gw_of 997 (by decide +kernel) (by decide +kernel)
theorem q_1002 : Cond.methodLink RL 174 yX8_keep ∈ gw := gw_of 1002 (by decide +kernel) (by decide +kernel)
theorem q_1003 : Cond.instanceMethod yX8_keep ∈ gw := gw_of 1003 (by decide +kernel) (by decide +kernel)
theorem q_1004 : Cond.selects RX8 yX8_keep yX8_keep ∈ gw := gw_of 1004 (by decide +kernel) (by decide +kernel)
theorem q_1005 : Cond.code yX8_keep cX8_keep 1 (some .int) ∈ gw := gw_of 1005 (by decide +kernel) (by decide +kernel)
theorem q_1006 : Cond.methodLink RL 178 yX8_back ∈ gw := gw_of 1006 (by decide +kernel) (by decide +kernel)
theorem q_1007 : Cond.instanceMethod yX8_back ∈ gw := gw_of 1007 (by decide +kernel) (by decide +kernel)
theorem q_1008 : Cond.selects RX8 yX8_back yX8_back ∈ gw := gw_of 1008 (by decide +kernel) (by decide +kernel)
theorem q_1009 : Cond.code yX8_back cX8_back 1 (some .int) ∈ gw := gw_of 1009 (by decide +kernel) (by decide +kernel)
theorem q_1010 : Cond.methodLink RL 182 yX8_count ∈ gw := gw_of 1010 (by decide +kernel) (by decide +kernel)
theorem q_1011 : Cond.instanceMethod yX8_count ∈ gw := gw_of 1011 (by decide +kernel) (by decide +kernel)
theorem q_1012 : Cond.selects RX8 yX8_count yX8_count ∈ gw := gw_of 1012 (by decide +kernel) (by decide +kernel)
theorem q_1013 : Cond.code yX8_count cX8_count 2 (some .int) ∈ gw := gw_of 1013 (by decide +kernel) (by decide +kernel)
theorem q_1014 : Cond.classLink RL 10 RX9 ∈ gw := gw_of 1014 (by decide +kernel) (by decide +kernel)
theorem q_1015 : Cond.instantiable RX9 35 ∈ gw := gw_of 1015 (by decide +kernel) (by decide +kernel)
theorem q_1016 : Cond.methodLink RL 12 yX9_init ∈ gw := gw_of 1016 (by decide +kernel) (by decide +kernel)
theorem q_1017 : Cond.instanceMethod yX9_init ∈ gw := gw_of 1017 (by decide +kernel) (by decide +kernel)
theorem q_1018 : Cond.code yX9_init cX9_init 1 (none) ∈ gw := gw_of 1018 (by decide +kernel) (by decide +kernel)
theorem q_1128 : Cond.methodLink RL 17 yX9_bench ∈ gw := gw_of 1128 (by decide +kernel) (by decide +kernel)
theorem q_1129 : Cond.instanceMethod yX9_bench ∈ gw := gw_of 1129 (by decide +kernel) (by decide +kernel)
theorem q_1130 : Cond.selects RX9 yX9_bench yX9_bench ∈ gw := gw_of 1130 (by decide +kernel) (by decide +kernel)
theorem q_1131 : Cond.code yX9_bench cX9_bench 6 (some .int) ∈ gw := gw_of 1131 (by decide +kernel) (by decide +kernel)
theorem q_1148 : Cond.methodLink RL 22 yX9_sitter ∈ gw := gw_of 1148 (by decide +kernel) (by decide +kernel)
theorem q_1149 : Cond.instanceMethod yX9_sitter ∈ gw := gw_of 1149 (by decide +kernel) (by decide +kernel)
theorem q_1150 : Cond.selects RX9 yX9_sitter yX9_sitter ∈ gw := gw_of 1150 (by decide +kernel) (by decide +kernel)
theorem q_1151 : Cond.code yX9_sitter cX9_sitter 2 (some .int) ∈ gw := gw_of 1151 (by decide +kernel) (by decide +kernel)
theorem q_1157 : Cond.methodLink RL 27 yX9_told ∈ gw := gw_of 1157 (by decide +kernel) (by decide +kernel)
theorem q_1158 : Cond.instanceMethod yX9_told ∈ gw := gw_of 1158 (by decide +kernel) (by decide +kernel)
theorem q_1159 : Cond.selects RX9 yX9_told yX9_told ∈ gw := gw_of 1159 (by decide +kernel) (by decide +kernel)
theorem q_1160 : Cond.code yX9_told cX9_told 3 (some .int) ∈ gw := gw_of 1160 (by decide +kernel) (by decide +kernel)
theorem q_1207 : Cond.methodLink RL 31 yX9_as ∈ gw := gw_of 1207 (by decide +kernel) (by decide +kernel)
theorem q_1208 : Cond.instanceMethod yX9_as ∈ gw := gw_of 1208 (by decide +kernel) (by decide +kernel)
theorem q_1209 : Cond.selects RX9 yX9_as yX9_as ∈ gw := gw_of 1209 (by decide +kernel) (by decide +kernel)
theorem q_1210 : Cond.code yX9_as cX9_as 3 (some .int) ∈ gw := gw_of 1210 (by decide +kernel) (by decide +kernel)
theorem q_1215 : Cond.methodLink RL 35 yX9_turns ∈ gw := gw_of 1215 (by decide +kernel) (by decide +kernel)
theorem q_1216 : Cond.instanceMethod yX9_turns ∈ gw := gw_of 1216 (by decide +kernel) (by decide +kernel)
theorem q_1217 : Cond.selects RX9 yX9_turns yX9_turns ∈ gw := gw_of 1217 (by decide +kernel) (by decide +kernel)
theorem q_1218 : Cond.code yX9_turns cX9_turns 3 (some .int) ∈ gw := gw_of 1218 (by decide +kernel) (by decide +kernel)
theorem q_1224 : Cond.methodLink RL 39 yX9_sits ∈ gw := gw_of 1224 (by decide +kernel) (by decide +kernel)
theorem q_1225 : Cond.instanceMethod yX9_sits ∈ gw := gw_of 1225 (by decide +kernel) (by decide +kernel)
theorem q_1226 : Cond.selects RX9 yX9_sits yX9_sits ∈ gw := gw_of 1226 (by decide +kernel) (by decide +kernel)
theorem q_1227 : Cond.code yX9_sits cX9_sits 3 (some .int) ∈ gw := gw_of 1227 (by decide +kernel) (by decide +kernel)
theorem q_1250 : Cond.methodLink RL 43 yX9_rises ∈ gw := gw_of 1250 (by decide +kernel) (by decide +kernel)
theorem q_1251 : Cond.instanceMethod yX9_rises ∈ gw := gw_of 1251 (by decide +kernel) (by decide +kernel)
theorem q_1252 : Cond.selects RX9 yX9_rises yX9_rises ∈ gw := gw_of 1252 (by decide +kernel) (by decide +kernel)
theorem q_1253 : Cond.code yX9_rises cX9_rises 2 (some .int) ∈ gw := gw_of 1253 (by decide +kernel) (by decide +kernel)
theorem q_1254 : Cond.methodLink RL 47 yX9_who ∈ gw := gw_of 1254 (by decide +kernel) (by decide +kernel)
theorem q_1255 : Cond.instanceMethod yX9_who ∈ gw := gw_of 1255 (by decide +kernel) (by decide +kernel)
theorem q_1256 : Cond.selects RX9 yX9_who yX9_who ∈ gw := gw_of 1256 (by decide +kernel) (by decide +kernel)
theorem q_1257 : Cond.code yX9_who cX9_who 4 (some .int) ∈ gw := gw_of 1257 (by decide +kernel) (by decide +kernel)
theorem q_1262 : Cond.methodLink RL 51 yX9_cushion ∈ gw := gw_of 1262 (by decide +kernel) (by decide +kernel)
theorem q_1263 : Cond.instanceMethod yX9_cushion ∈ gw := gw_of 1263 (by decide +kernel) (by decide +kernel)
theorem q_1264 : Cond.selects RX9 yX9_cushion yX9_cushion ∈ gw := gw_of 1264 (by decide +kernel) (by decide +kernel)
theorem q_1265 : Cond.code yX9_cushion cX9_cushion 3 (some .int) ∈ gw := gw_of 1265 (by decide +kernel) (by decide +kernel)
theorem q_1266 : Cond.methodLink RL 55 yX9_rule ∈ gw := gw_of 1266 (by decide +kernel) (by decide +kernel)
theorem q_1267 : Cond.instanceMethod yX9_rule ∈ gw := gw_of 1267 (by decide +kernel) (by decide +kernel)
theorem q_1268 : Cond.selects RX9 yX9_rule yX9_rule ∈ gw := gw_of 1268 (by decide +kernel) (by decide +kernel)
theorem q_1269 : Cond.code yX9_rule cX9_rule 3 (some .int) ∈ gw := gw_of 1269 (by decide +kernel) (by decide +kernel)
theorem q_1270 : Cond.methodLink RL 59 yX9_deal ∈ gw := gw_of 1270 (by decide +kernel) (by decide +kernel)
theorem q_1271 : Cond.instanceMethod yX9_deal ∈ gw := gw_of 1271 (by decide +kernel) (by decide +kernel)
theorem q_1272 : Cond.selects RX9 yX9_deal yX9_deal ∈ gw := gw_of 1272 (by decide +kernel) (by decide +kernel)
theorem q_1273 : Cond.code yX9_deal cX9_deal 4 (some .int) ∈ gw := gw_of 1273 (by decide +kernel) (by decide +kernel)
theorem q_1279 : Cond.methodLink RL 63 yX9_seed ∈ gw := gw_of 1279 (by decide +kernel) (by decide +kernel)
theorem q_1280 : Cond.instanceMethod yX9_seed ∈ gw := gw_of 1280 (by decide +kernel) (by decide +kernel)
theorem q_1281 : Cond.selects RX9 yX9_seed yX9_seed ∈ gw := gw_of 1281 (by decide +kernel) (by decide +kernel)
theorem q_1282 : Cond.code yX9_seed cX9_seed 2 (some .int) ∈ gw := gw_of 1282 (by decide +kernel) (by decide +kernel)
theorem q_1283 : Cond.methodLink RL 67 yX9_minutes ∈ gw := gw_of 1283 (by decide +kernel) (by decide +kernel)
theorem q_1284 : Cond.instanceMethod yX9_minutes ∈ gw := gw_of 1284 (by decide +kernel) (by decide +kernel)
theorem q_1285 : Cond.selects RX9 yX9_minutes yX9_minutes ∈ gw := gw_of 1285 (by decide +kernel) (by decide +kernel)
theorem q_1286 : Cond.code yX9_minutes cX9_minutes 2 (some .int) ∈ gw := gw_of 1286 (by decide +kernel) (by decide +kernel)
theorem q_1309 : Cond.methodLink RL 71 yX9_inn ∈ gw := gw_of 1309 (by decide +kernel) (by decide +kernel)
theorem q_1313 : Cond.methodLink RL 75 yX9_goes ∈ gw := gw_of 1313 (by decide +kernel) (by decide +kernel)
theorem q_1314 : Cond.instanceMethod yX9_goes ∈ gw := gw_of 1314 (by decide +kernel) (by decide +kernel)
theorem q_1315 : Cond.selects RX9 yX9_goes yX9_goes ∈ gw := gw_of 1315 (by decide +kernel) (by decide +kernel)
theorem q_1316 : Cond.code yX9_goes cX9_goes 2 (some .int) ∈ gw := gw_of 1316 (by decide +kernel) (by decide +kernel)
theorem q_1330 : Cond.methodLink RL 79 yX9_game ∈ gw := gw_of 1330 (by decide +kernel) (by decide +kernel)
theorem q_1331 : Cond.instanceMethod yX9_game ∈ gw := gw_of 1331 (by decide +kernel) (by decide +kernel)
theorem q_1332 : Cond.selects RX9 yX9_game yX9_game ∈ gw := gw_of 1332 (by decide +kernel) (by decide +kernel)
theorem q_1333 : Cond.code yX9_game cX9_game 6 (some .int) ∈ gw := gw_of 1333 (by decide +kernel) (by decide +kernel)
theorem q_1334 : Cond.methodLink RL 83 yX9_worthy ∈ gw := gw_of 1334 (by decide +kernel) (by decide +kernel)
theorem q_1335 : Cond.instanceMethod yX9_worthy ∈ gw := gw_of 1335 (by decide +kernel) (by decide +kernel)
theorem q_1336 : Cond.selects RX9 yX9_worthy yX9_worthy ∈ gw := gw_of 1336 (by decide +kernel) (by decide +kernel)
theorem q_1337 : Cond.code yX9_worthy cX9_worthy 7 (some .int) ∈ gw := gw_of 1337 (by decide +kernel) (by decide +kernel)
theorem q_1338 : Cond.methodLink RL 87 yX9_behind ∈ gw := gw_of 1338 (by decide +kernel) (by decide +kernel)
theorem q_1339 : Cond.instanceMethod yX9_behind ∈ gw := gw_of 1339 (by decide +kernel) (by decide +kernel)
theorem q_1340 : Cond.selects RX9 yX9_behind yX9_behind ∈ gw := gw_of 1340 (by decide +kernel) (by decide +kernel)
theorem q_1341 : Cond.code yX9_behind cX9_behind 4 (some .int) ∈ gw := gw_of 1341 (by decide +kernel) (by decide +kernel)
theorem q_1351 : Cond.methodLink RL 92 yX9_fullUp ∈ gw := gw_of 1351 (by decide +kernel) (by decide +kernel)
theorem q_1352 : Cond.instanceMethod yX9_fullUp ∈ gw := gw_of 1352 (by decide +kernel) (by decide +kernel)
theorem q_1353 : Cond.selects RX9 yX9_fullUp yX9_fullUp ∈ gw := gw_of 1353 (by decide +kernel) (by decide +kernel)
theorem q_1354 : Cond.code yX9_fullUp cX9_fullUp 2 (some .int) ∈ gw := gw_of 1354 (by decide +kernel) (by decide +kernel)
theorem q_1359 : Cond.methodLink RL 96 yX9_rose ∈ gw := gw_of 1359 (by decide +kernel) (by decide +kernel)
theorem q_1360 : Cond.instanceMethod yX9_rose ∈ gw := gw_of 1360 (by decide +kernel) (by decide +kernel)
theorem q_1361 : Cond.selects RX9 yX9_rose yX9_rose ∈ gw := gw_of 1361 (by decide +kernel) (by decide +kernel)
theorem q_1362 : Cond.code yX9_rose cX9_rose 7 (some .int) ∈ gw := gw_of 1362 (by decide +kernel) (by decide +kernel)
theorem q_1363 : Cond.methodLink RL 100 yX9_book ∈ gw := gw_of 1363 (by decide +kernel) (by decide +kernel)
theorem q_1364 : Cond.instanceMethod yX9_book ∈ gw := gw_of 1364 (by decide +kernel) (by decide +kernel)
theorem q_1365 : Cond.selects RX9 yX9_book yX9_book ∈ gw := gw_of 1365 (by decide +kernel) (by decide +kernel)
theorem q_1366 : Cond.code yX9_book cX9_book 6 (some .int) ∈ gw := gw_of 1366 (by decide +kernel) (by decide +kernel)
theorem q_1371 : Cond.methodLink RL 104 yX9_fee ∈ gw := gw_of 1371 (by decide +kernel) (by decide +kernel)
theorem q_1372 : Cond.instanceMethod yX9_fee ∈ gw := gw_of 1372 (by decide +kernel) (by decide +kernel)
theorem q_1373 : Cond.selects RX9 yX9_fee yX9_fee ∈ gw := gw_of 1373 (by decide +kernel) (by decide +kernel)
theorem q_1374 : Cond.code yX9_fee cX9_fee 2 (some .int) ∈ gw := gw_of 1374 (by decide +kernel) (by decide +kernel)
theorem q_1375 : Cond.methodLink RL 108 yX9_fine ∈ gw := gw_of 1375 (by decide +kernel) (by decide +kernel)
theorem q_1376 : Cond.instanceMethod yX9_fine ∈ gw := gw_of 1376 (by decide +kernel) (by decide +kernel)
theorem q_1377 : Cond.selects RX9 yX9_fine yX9_fine ∈ gw := gw_of 1377 (by decide +kernel) (by decide +kernel)
theorem q_1378 : Cond.code yX9_fine cX9_fine 3 (some .int) ∈ gw := gw_of 1378 (by decide +kernel) (by decide +kernel)
theorem q_1379 : Cond.methodLink RL 112 yX9_feed ∈ gw := gw_of 1379 (by decide +kernel) (by decide +kernel)
theorem q_1380 : Cond.instanceMethod yX9_feed ∈ gw := gw_of 1380 (by decide +kernel) (by decide +kernel)
theorem q_1381 : Cond.selects RX9 yX9_feed yX9_feed ∈ gw := gw_of 1381 (by decide +kernel) (by decide +kernel)
theorem q_1382 : Cond.code yX9_feed cX9_feed 6 (some .int) ∈ gw := gw_of 1382 (by decide +kernel) (by decide +kernel)
theorem q_1383 : Cond.methodLink RL 116 yX9_trim ∈ gw := gw_of 1383 (by decide +kernel) (by decide +kernel)
theorem q_1384 : Cond.instanceMethod yX9_trim ∈ gw := gw_of 1384 (by decide +kernel) (by decide +kernel)
theorem q_1385 : Cond.selects RX9 yX9_trim yX9_trim ∈ gw := gw_of 1385 (by decide +kernel) (by decide +kernel)
theorem q_1386 : Cond.code yX9_trim cX9_trim 2 (some .int) ∈ gw := gw_of 1386 (by decide +kernel) (by decide +kernel)
theorem q_1387 : Cond.methodLink RL 120 yX9_text ∈ gw := gw_of 1387 (by decide +kernel) (by decide +kernel)
theorem q_1388 : Cond.instanceMethod yX9_text ∈ gw := gw_of 1388 (by decide +kernel) (by decide +kernel)
theorem q_1389 : Cond.selects RX9 yX9_text yX9_text ∈ gw := gw_of 1389 (by decide +kernel) (by decide +kernel)
theorem q_1390 : Cond.code yX9_text cX9_text 4 (some .int) ∈ gw := gw_of 1390 (by decide +kernel) (by decide +kernel)
theorem q_1434 : Cond.methodLink RL 124 yX9_textTold ∈ gw := gw_of 1434 (by decide +kernel) (by decide +kernel)
theorem q_1435 : Cond.instanceMethod yX9_textTold ∈ gw := gw_of 1435 (by decide +kernel) (by decide +kernel)
theorem q_1436 : Cond.selects RX9 yX9_textTold yX9_textTold ∈ gw := gw_of 1436 (by decide +kernel) (by decide +kernel)
theorem q_1437 : Cond.code yX9_textTold cX9_textTold 3 (some .int) ∈ gw := gw_of 1437 (by decide +kernel) (by decide +kernel)
theorem q_1438 : Cond.methodLink RL 128 yX9_why ∈ gw := gw_of 1438 (by decide +kernel) (by decide +kernel)
theorem q_1439 : Cond.instanceMethod yX9_why ∈ gw := gw_of 1439 (by decide +kernel) (by decide +kernel)
theorem q_1440 : Cond.selects RX9 yX9_why yX9_why ∈ gw := gw_of 1440 (by decide +kernel) (by decide +kernel)
theorem q_1441 : Cond.code yX9_why cX9_why 3 (some .int) ∈ gw := gw_of 1441 (by decide +kernel) (by decide +kernel)
theorem q_1442 : Cond.methodLink RL 132 yX9_sheet ∈ gw := gw_of 1442 (by decide +kernel) (by decide +kernel)
theorem q_1443 : Cond.instanceMethod yX9_sheet ∈ gw := gw_of 1443 (by decide +kernel) (by decide +kernel)
theorem q_1444 : Cond.selects RX9 yX9_sheet yX9_sheet ∈ gw := gw_of 1444 (by decide +kernel) (by decide +kernel)
theorem q_1445 : Cond.code yX9_sheet cX9_sheet 5 (some .int) ∈ gw := gw_of 1445 (by decide +kernel) (by decide +kernel)
theorem q_1447 : Cond.methodLink RL 136 yX9_mark ∈ gw := gw_of 1447 (by decide +kernel) (by decide +kernel)
theorem q_1448 : Cond.instanceMethod yX9_mark ∈ gw := gw_of 1448 (by decide +kernel) (by decide +kernel)
theorem q_1449 : Cond.selects RX9 yX9_mark yX9_mark ∈ gw := gw_of 1449 (by decide +kernel) (by decide +kernel)
theorem q_1450 : Cond.code yX9_mark cX9_mark 4 (some .int) ∈ gw := gw_of 1450 (by decide +kernel) (by decide +kernel)
theorem q_1454 : Cond.methodLink RL 140 yX9_pour ∈ gw := gw_of 1454 (by decide +kernel) (by decide +kernel)
theorem q_1455 : Cond.instanceMethod yX9_pour ∈ gw := gw_of 1455 (by decide +kernel) (by decide +kernel)
theorem q_1456 : Cond.selects RX9 yX9_pour yX9_pour ∈ gw := gw_of 1456 (by decide +kernel) (by decide +kernel)
theorem q_1457 : Cond.code yX9_pour cX9_pour 6 (some .int) ∈ gw := gw_of 1457 (by decide +kernel) (by decide +kernel)
theorem q_1458 : Cond.methodLink RL 144 yX9_reads ∈ gw := gw_of 1458 (by decide +kernel) (by decide +kernel)
theorem q_1459 : Cond.instanceMethod yX9_reads ∈ gw := gw_of 1459 (by decide +kernel) (by decide +kernel)
theorem q_1460 : Cond.selects RX9 yX9_reads yX9_reads ∈ gw := gw_of 1460 (by decide +kernel) (by decide +kernel)
theorem q_1461 : Cond.code yX9_reads cX9_reads 4 (some .int) ∈ gw := gw_of 1461 (by decide +kernel) (by decide +kernel)
theorem q_1462 : Cond.methodLink RL 149 yX9_copy ∈ gw := gw_of 1462 (by decide +kernel) (by decide +kernel)
theorem q_1463 : Cond.instanceMethod yX9_copy ∈ gw := gw_of 1463 (by decide +kernel) (by decide +kernel)
theorem q_1464 : Cond.selects RX9 yX9_copy yX9_copy ∈ gw := gw_of 1464 (by decide +kernel) (by decide +kernel)
theorem q_1465 : Cond.code yX9_copy cX9_copy 7 (some .int) ∈ gw := gw_of 1465 (by decide +kernel) (by decide +kernel)
theorem q_1466 : Cond.methodLink RL 153 yX9_lay ∈ gw := gw_of 1466 (by decide +kernel) (by decide +kernel)
theorem q_1467 : Cond.instanceMethod yX9_lay ∈ gw := gw_of 1467 (by decide +kernel) (by decide +kernel)
theorem q_1468 : Cond.selects RX9 yX9_lay yX9_lay ∈ gw := gw_of 1468 (by decide +kernel) (by decide +kernel)
theorem q_1469 : Cond.code yX9_lay cX9_lay 6 (some .int) ∈ gw := gw_of 1469 (by decide +kernel) (by decide +kernel)
theorem q_1473 : Cond.methodLink RL 157 yX9_ask ∈ gw := gw_of 1473 (by decide +kernel) (by decide +kernel)
theorem q_1474 : Cond.instanceMethod yX9_ask ∈ gw := gw_of 1474 (by decide +kernel) (by decide +kernel)
theorem q_1475 : Cond.selects RX9 yX9_ask yX9_ask ∈ gw := gw_of 1475 (by decide +kernel) (by decide +kernel)
theorem q_1476 : Cond.code yX9_ask cX9_ask 3 (some .int) ∈ gw := gw_of 1476 (by decide +kernel) (by decide +kernel)
theorem q_1477 : Cond.methodLink RL 161 yX9_item ∈ gw := gw_of 1477 (by decide +kernel) (by decide +kernel)
theorem q_1478 : Cond.instanceMethod yX9_item ∈ gw := gw_of 1478 (by decide +kernel) (by decide +kernel)
theorem q_1479 : Cond.selects RX9 yX9_item yX9_item ∈ gw := gw_of 1479 (by decide +kernel) (by decide +kernel)
theorem q_1480 : Cond.code yX9_item cX9_item 4 (some .int) ∈ gw := gw_of 1480 (by decide +kernel) (by decide +kernel)
theorem q_1481 : Cond.methodLink RL 165 yX9_rest ∈ gw := gw_of 1481 (by decide +kernel) (by decide +kernel)
theorem q_1482 : Cond.instanceMethod yX9_rest ∈ gw := gw_of 1482 (by decide +kernel) (by decide +kernel)
theorem q_1483 : Cond.selects RX9 yX9_rest yX9_rest ∈ gw := gw_of 1483 (by decide +kernel) (by decide +kernel)
theorem q_1484 : Cond.code yX9_rest cX9_rest 3 (some .int) ∈ gw := gw_of 1484 (by decide +kernel) (by decide +kernel)
theorem q_1485 : Cond.methodLink RL 169 yX9_tell ∈ gw := gw_of 1485 (by decide +kernel) (by decide +kernel)
theorem q_1486 : Cond.instanceMethod yX9_tell ∈ gw := gw_of 1486 (by decide +kernel) (by decide +kernel)
theorem q_1487 : Cond.selects RX9 yX9_tell yX9_tell ∈ gw := gw_of 1487 (by decide +kernel) (by decide +kernel)
theorem q_1488 : Cond.code yX9_tell cX9_tell 2 (some .int) ∈ gw := gw_of 1488 (by decide +kernel) (by decide +kernel)
theorem q_1489 : Cond.methodLink RL 173 yX9_check ∈ gw := gw_of 1489 (by decide +kernel) (by decide +kernel)
theorem q_1490 : Cond.instanceMethod yX9_check ∈ gw := gw_of 1490 (by decide +kernel) (by decide +kernel)
theorem q_1491 : Cond.selects RX9 yX9_check yX9_check ∈ gw := gw_of 1491 (by decide +kernel) (by decide +kernel)
theorem q_1492 : Cond.code yX9_check cX9_check 6 (some .int) ∈ gw := gw_of 1492 (by decide +kernel) (by decide +kernel)
theorem q_1496 : Cond.methodLink RL 177 yX9_keep ∈ gw := gw_of 1496 (by decide +kernel) (by decide +kernel)
theorem q_1497 : Cond.instanceMethod yX9_keep ∈ gw := gw_of 1497 (by decide +kernel) (by decide +kernel)
theorem q_1498 : Cond.selects RX9 yX9_keep yX9_keep ∈ gw := gw_of 1498 (by decide +kernel) (by decide +kernel)
theorem q_1499 : Cond.code yX9_keep cX9_keep 1 (some .int) ∈ gw := gw_of 1499 (by decide +kernel) (by decide +kernel)
theorem q_1500 : Cond.methodLink RL 181 yX9_back ∈ gw := gw_of 1500 (by decide +kernel) (by decide +kernel)
theorem q_1501 : Cond.instanceMethod yX9_back ∈ gw := gw_of 1501 (by decide +kernel) (by decide +kernel)
theorem q_1502 : Cond.selects RX9 yX9_back yX9_back ∈ gw := gw_of 1502 (by decide +kernel) (by decide +kernel)
theorem q_1503 : Cond.code yX9_back cX9_back 1 (some .int) ∈ gw := gw_of 1503 (by decide +kernel) (by decide +kernel)
theorem q_1504 : Cond.methodLink RL 185 yX9_count ∈ gw := gw_of 1504 (by decide +kernel) (by decide +kernel)
theorem q_1505 : Cond.instanceMethod yX9_count ∈ gw := gw_of 1505 (by decide +kernel) (by decide +kernel)
theorem q_1506 : Cond.selects RX9 yX9_count yX9_count ∈ gw := gw_of 1506 (by decide +kernel) (by decide +kernel)
theorem q_1507 : Cond.code yX9_count cX9_count 2 (some .int) ∈ gw := gw_of 1507 (by decide +kernel) (by decide +kernel)
theorem mk_X8_init : Mk yX8_init cX8_init 2 (none) 0 := ⟨q_86, q_64, by decide +kernel, by decide +kernel, by decide +kernel⟩
theorem mk_X8_bench : Mk yX8_bench cX8_bench 4 (some .int) 3 := ⟨q_355, q_64, by decide +kernel, by decide +kernel, by decide +kernel⟩
theorem mk_X8_sitter : Mk yX8_sitter cX8_sitter 2 (some .int) 1 := ⟨q_389, q_64, by decide +kernel, by decide +kernel, by decide +kernel⟩
theorem mk_X8_told : Mk yX8_told cX8_told 4 (some .int) 2 := ⟨q_405, q_64, by decide +kernel, by decide +kernel, by decide +kernel⟩
theorem mk_X8_as : Mk yX8_as cX8_as 4 (some .int) 2 := ⟨q_462, q_64, by decide +kernel, by decide +kernel, by decide +kernel⟩
theorem mk_X8_turns : Mk yX8_turns cX8_turns 5 (some .int) 2 := ⟨q_468, q_64, by decide +kernel, by decide +kernel, by decide +kernel⟩
theorem mk_X8_sits : Mk yX8_sits cX8_sits 4 (some .int) 2 := ⟨q_474, q_64, by decide +kernel, by decide +kernel, by decide +kernel⟩
theorem mk_X8_rises : Mk yX8_rises cX8_rises 4 (some .int) 1 := ⟨q_511, q_64, by decide +kernel, by decide +kernel, by decide +kernel⟩
theorem mk_X8_who : Mk yX8_who cX8_who 3 (some .int) 1 := ⟨q_515, q_64, by decide +kernel, by decide +kernel, by decide +kernel⟩
theorem mk_X8_cushion : Mk yX8_cushion cX8_cushion 4 (some .int) 2 := ⟨q_520, q_64, by decide +kernel, by decide +kernel, by decide +kernel⟩
theorem mk_X8_rule : Mk yX8_rule cX8_rule 4 (some .int) 2 := ⟨q_524, q_64, by decide +kernel, by decide +kernel, by decide +kernel⟩
theorem mk_X8_deal : Mk yX8_deal cX8_deal 4 (some .int) 1 := ⟨q_530, q_64, by decide +kernel, by decide +kernel, by decide +kernel⟩
theorem mk_X8_seed : Mk yX8_seed cX8_seed 3 (some .int) 1 := ⟨q_542, q_64, by decide +kernel, by decide +kernel, by decide +kernel⟩
theorem mk_X8_minutes : Mk yX8_minutes cX8_minutes 2 (some .int) 1 := ⟨q_546, q_64, by decide +kernel, by decide +kernel, by decide +kernel⟩
theorem mk_X8_inn : Mk yX8_inn cX8_inn 2 (some .int) 1 := ⟨q_582, q_64, by decide +kernel, by decide +kernel, by decide +kernel⟩
theorem mk_X8_goes : Mk yX8_goes cX8_goes 2 (some .int) 1 := ⟨q_589, q_64, by decide +kernel, by decide +kernel, by decide +kernel⟩
theorem mk_X8_game : Mk yX8_game cX8_game 4 (some .int) 1 := ⟨q_605, q_64, by decide +kernel, by decide +kernel, by decide +kernel⟩
theorem mk_X8_worthy : Mk yX8_worthy cX8_worthy 3 (some .int) 1 := ⟨q_614, q_64, by decide +kernel, by decide +kernel, by decide +kernel⟩
theorem mk_X8_behind : Mk yX8_behind cX8_behind 3 (some .int) 2 := ⟨q_635, q_64, by decide +kernel, by decide +kernel, by decide +kernel⟩
theorem mk_X8_fullUp : Mk yX8_fullUp cX8_fullUp 2 (some .int) 0 := ⟨q_655, q_64, by decide +kernel, by decide +kernel, by decide +kernel⟩
theorem mk_X8_rose : Mk yX8_rose cX8_rose 6 (some .int) 2 := ⟨q_664, q_64, by decide +kernel, by decide +kernel, by decide +kernel⟩
theorem mk_X8_book : Mk yX8_book cX8_book 8 (some .int) 1 := ⟨q_668, q_64, by decide +kernel, by decide +kernel, by decide +kernel⟩
theorem mk_X8_fee : Mk yX8_fee cX8_fee 2 (some .int) 0 := ⟨q_681, q_64, by decide +kernel, by decide +kernel, by decide +kernel⟩
theorem mk_X8_fine : Mk yX8_fine cX8_fine 4 (some .int) 1 := ⟨q_687, q_64, by decide +kernel, by decide +kernel, by decide +kernel⟩
theorem mk_X8_feed : Mk yX8_feed cX8_feed 4 (some .int) 3 := ⟨q_691, q_64, by decide +kernel, by decide +kernel, by decide +kernel⟩
theorem mk_X8_trim : Mk yX8_trim cX8_trim 2 (some .int) 1 := ⟨q_700, q_64, by decide +kernel, by decide +kernel, by decide +kernel⟩
theorem mk_X8_text : Mk yX8_text cX8_text 2 (some .int) 0 := ⟨q_704, q_64, by decide +kernel, by decide +kernel, by decide +kernel⟩
theorem mk_X8_textTold : Mk yX8_textTold cX8_textTold 4 (some .int) 2 := ⟨q_921, q_64, by decide +kernel, by decide +kernel, by decide +kernel⟩
theorem mk_X8_why : Mk yX8_why cX8_why 2 (some .int) 1 := ⟨q_925, q_64, by decide +kernel, by decide +kernel, by decide +kernel⟩
theorem mk_X8_sheet : Mk yX8_sheet cX8_sheet 4 (some .int) 3 := ⟨q_929, q_64, by decide +kernel, by decide +kernel, by decide +kernel⟩
theorem mk_X8_mark : Mk yX8_mark cX8_mark 6 (some .int) 3 := ⟨q_938, q_64, by decide +kernel, by decide +kernel, by decide +kernel⟩
theorem mk_X8_pour : Mk yX8_pour cX8_pour 7 (some .int) 1 := ⟨q_950, q_64, by decide +kernel, by decide +kernel, by decide +kernel⟩
theorem mk_X8_reads : Mk yX8_reads cX8_reads 5 (some .int) 1 := ⟨q_955, q_64, by decide +kernel, by decide +kernel, by decide +kernel⟩
theorem mk_X8_copy : Mk yX8_copy cX8_copy 8 (some .int) 5 := ⟨q_959, q_64, by decide +kernel, by decide +kernel, by decide +kernel⟩
theorem mk_X8_lay : Mk yX8_lay cX8_lay 6 (some .int) 3 := ⟨q_968, q_64, by decide +kernel, by decide +kernel, by decide +kernel⟩
theorem mk_X8_ask : Mk yX8_ask cX8_ask 4 (some .int) 2 := ⟨q_981, q_64, by decide +kernel, by decide +kernel, by decide +kernel⟩
theorem mk_X8_item : Mk yX8_item cX8_item 5 (some .int) 2 := ⟨q_985, q_64, by decide +kernel, by decide +kernel, by decide +kernel⟩
theorem mk_X8_rest : Mk yX8_rest cX8_rest 4 (some .int) 2 := ⟨q_989, q_64, by decide +kernel, by decide +kernel, by decide +kernel⟩
theorem mk_X8_tell : Mk yX8_tell cX8_tell 2 (some .int) 1 := ⟨q_993, q_64, by decide +kernel, by decide +kernel, by decide +kernel⟩
theorem mk_X8_check : Mk yX8_check cX8_check 3 (some .int) 1 := ⟨q_997, q_64, by decide +kernel, by decide +kernel, by decide +kernel⟩
theorem mk_X8_keep : Mk yX8_keep cX8_keep 1 (some .int) 0 := ⟨q_1005, q_64, by decide +kernel, by decide +kernel, by decide +kernel⟩
theorem mk_X8_back : Mk yX8_back cX8_back 1 (some .int) 0 := ⟨q_1009, q_64, by decide +kernel, by decide +kernel, by decide +kernel⟩
theorem mk_X8_count : Mk yX8_count cX8_count 2 (some .int) 1 := ⟨q_1013, q_64, by decide +kernel, by decide +kernel, by decide +kernel⟩
theorem mk_X9_init : Mk yX9_init cX9_init 1 (none) 0 := ⟨q_1018, q_72, by decide +kernel, by decide +kernel, by decide +kernel⟩
theorem mk_X9_bench : Mk yX9_bench cX9_bench 6 (some .int) 3 := ⟨q_1131, q_72, by decide +kernel, by decide +kernel, by decide +kernel⟩
theorem mk_X9_sitter : Mk yX9_sitter cX9_sitter 2 (some .int) 1 := ⟨q_1151, q_72, by decide +kernel, by decide +kernel, by decide +kernel⟩
theorem mk_X9_told : Mk yX9_told cX9_told 3 (some .int) 2 := ⟨q_1160, q_72, by decide +kernel, by decide +kernel, by decide +kernel⟩
theorem mk_X9_as : Mk yX9_as cX9_as 3 (some .int) 2 := ⟨q_1210, q_72, by decide +kernel, by decide +kernel, by decide +kernel⟩
theorem mk_X9_turns : Mk yX9_turns cX9_turns 3 (some .int) 2 := ⟨q_1218, q_72, by decide +kernel, by decide +kernel, by decide +kernel⟩
theorem mk_X9_sits : Mk yX9_sits cX9_sits 3 (some .int) 2 := ⟨q_1227, q_72, by decide +kernel, by decide +kernel, by decide +kernel⟩
theorem mk_X9_rises : Mk yX9_rises cX9_rises 2 (some .int) 1 := ⟨q_1253, q_72, by decide +kernel, by decide +kernel, by decide +kernel⟩
theorem mk_X9_who : Mk yX9_who cX9_who 4 (some .int) 1 := ⟨q_1257, q_72, by decide +kernel, by decide +kernel, by decide +kernel⟩
theorem mk_X9_cushion : Mk yX9_cushion cX9_cushion 3 (some .int) 2 := ⟨q_1265, q_72, by decide +kernel, by decide +kernel, by decide +kernel⟩
theorem mk_X9_rule : Mk yX9_rule cX9_rule 3 (some .int) 2 := ⟨q_1269, q_72, by decide +kernel, by decide +kernel, by decide +kernel⟩
theorem mk_X9_deal : Mk yX9_deal cX9_deal 4 (some .int) 1 := ⟨q_1273, q_72, by decide +kernel, by decide +kernel, by decide +kernel⟩
theorem mk_X9_seed : Mk yX9_seed cX9_seed 2 (some .int) 1 := ⟨q_1282, q_72, by decide +kernel, by decide +kernel, by decide +kernel⟩
theorem mk_X9_minutes : Mk yX9_minutes cX9_minutes 2 (some .int) 1 := ⟨q_1286, q_72, by decide +kernel, by decide +kernel, by decide +kernel⟩
theorem mk_X9_goes : Mk yX9_goes cX9_goes 2 (some .int) 1 := ⟨q_1316, q_72, by decide +kernel, by decide +kernel, by decide +kernel⟩
theorem mk_X9_game : Mk yX9_game cX9_game 6 (some .int) 1 := ⟨q_1333, q_72, by decide +kernel, by decide +kernel, by decide +kernel⟩
theorem mk_X9_worthy : Mk yX9_worthy cX9_worthy 7 (some .int) 1 := ⟨q_1337, q_72, by decide +kernel, by decide +kernel, by decide +kernel⟩
theorem mk_X9_behind : Mk yX9_behind cX9_behind 4 (some .int) 2 := ⟨q_1341, q_72, by decide +kernel, by decide +kernel, by decide +kernel⟩
theorem mk_X9_fullUp : Mk yX9_fullUp cX9_fullUp 2 (some .int) 0 := ⟨q_1354, q_72, by decide +kernel, by decide +kernel, by decide +kernel⟩
theorem mk_X9_rose : Mk yX9_rose cX9_rose 7 (some .int) 2 := ⟨q_1362, q_72, by decide +kernel, by decide +kernel, by decide +kernel⟩
theorem mk_X9_book : Mk yX9_book cX9_book 6 (some .int) 1 := ⟨q_1366, q_72, by decide +kernel, by decide +kernel, by decide +kernel⟩
theorem mk_X9_fee : Mk yX9_fee cX9_fee 2 (some .int) 0 := ⟨q_1374, q_72, by decide +kernel, by decide +kernel, by decide +kernel⟩
theorem mk_X9_fine : Mk yX9_fine cX9_fine 3 (some .int) 1 := ⟨q_1378, q_72, by decide +kernel, by decide +kernel, by decide +kernel⟩
theorem mk_X9_feed : Mk yX9_feed cX9_feed 6 (some .int) 3 := ⟨q_1382, q_72, by decide +kernel, by decide +kernel, by decide +kernel⟩
theorem mk_X9_trim : Mk yX9_trim cX9_trim 2 (some .int) 1 := ⟨q_1386, q_72, by decide +kernel, by decide +kernel, by decide +kernel⟩
theorem mk_X9_text : Mk yX9_text cX9_text 4 (some .int) 0 := ⟨q_1390, q_72, by decide +kernel, by decide +kernel, by decide +kernel⟩
theorem mk_X9_textTold : Mk yX9_textTold cX9_textTold 3 (some .int) 2 := ⟨q_1437, q_72, by decide +kernel, by decide +kernel, by decide +kernel⟩
theorem mk_X9_why : Mk yX9_why cX9_why 3 (some .int) 1 := ⟨q_1441, q_72, by decide +kernel, by decide +kernel, by decide +kernel⟩
theorem mk_X9_sheet : Mk yX9_sheet cX9_sheet 5 (some .int) 3 := ⟨q_1445, q_72, by decide +kernel, by decide +kernel, by decide +kernel⟩
theorem mk_X9_mark : Mk yX9_mark cX9_mark 4 (some .int) 3 := ⟨q_1450, q_72, by decide +kernel, by decide +kernel, by decide +kernel⟩
theorem mk_X9_pour : Mk yX9_pour cX9_pour 6 (some .int) 1 := ⟨q_1457, q_72, by decide +kernel, by decide +kernel, by decide +kernel⟩
theorem mk_X9_reads : Mk yX9_reads cX9_reads 4 (some .int) 1 := ⟨q_1461, q_72, by decide +kernel, by decide +kernel, by decide +kernel⟩
theorem mk_X9_copy : Mk yX9_copy cX9_copy 7 (some .int) 5 := ⟨q_1465, q_72, by decide +kernel, by decide +kernel, by decide +kernel⟩
theorem mk_X9_lay : Mk yX9_lay cX9_lay 6 (some .int) 3 := ⟨q_1469, q_72, by decide +kernel, by decide +kernel, by decide +kernel⟩
theorem mk_X9_ask : Mk yX9_ask cX9_ask 3 (some .int) 2 := ⟨q_1476, q_72, by decide +kernel, by decide +kernel, by decide +kernel⟩
theorem mk_X9_item : Mk yX9_item cX9_item 4 (some .int) 2 := ⟨q_1480, q_72, by decide +kernel, by decide +kernel, by decide +kernel⟩
theorem mk_X9_rest : Mk yX9_rest cX9_rest 3 (some .int) 2 := ⟨q_1484, q_72, by decide +kernel, by decide +kernel, by decide +kernel⟩
theorem mk_X9_tell : Mk yX9_tell cX9_tell 2 (some .int) 1 := ⟨q_1488, q_72, by decide +kernel, by decide +kernel, by decide +kernel⟩
theorem mk_X9_check : Mk yX9_check cX9_check 6 (some .int) 1 := ⟨q_1492, q_72, by decide +kernel, by decide +kernel, by decide +kernel⟩
theorem mk_X9_keep : Mk yX9_keep cX9_keep 1 (some .int) 0 := ⟨q_1499, q_72, by decide +kernel, by decide +kernel, by decide +kernel⟩
theorem mk_X9_back : Mk yX9_back cX9_back 1 (some .int) 0 := ⟨q_1503, q_72, by decide +kernel, by decide +kernel, by decide +kernel⟩
theorem mk_X9_count : Mk yX9_count cX9_count 2 (some .int) 1 := ⟨q_1507, q_72, by decide +kernel, by decide +kernel, by decide +kernel⟩
set_option maxRecDepth 100000 in
def L_L_law_18 (xs : Nat → Int32) (L : Nat) (n : Nat) (v1 : Nat) (v2 : Nat) (v3 : Int32) (w : Wd) : Option (Int32 × Wd) := match n with
  | 0 => none
  | n + 1 => (if ((nI L) - 6) < v3 then
 some (1, w)
 else
 (if ib v3 L = true then
 (if ((xs (nx v3)) &&& 63) = 0 then
 (if ib (v3 + 1) L = true then
 (if ib (v3 + 2) L = true then
 (if ib (v3 + 3) L = true then
 (if wK w v1 = 8 then
 (bd2 (f_X8_bench v1 (xs (nx (v3 + 1))) (xs (nx (v3 + 2))) (xs (nx (v3 + 3))) w) fun r21 w22 =>
 (if ib (v3 + 1) L = true then
 (if ib (v3 + 2) L = true then
 (if ib (v3 + 3) L = true then
 (if wK w22 v2 = 9 then
 (bd2 (f_X9_bench v2 (xs (nx (v3 + 1))) (xs (nx (v3 + 2))) (xs (nx (v3 + 3))) w22) fun r28 w29 =>
 (if r21 = r28 then
 (lb_ (v3 + 6) fun x31 =>
 L_L_law_18 xs L n v1 v2 x31 w29)
 else
 some (0, w29)))
 else none)
 else none)
 else none)
 else none))
 else none)
 else none)
 else none)
 else none)
 else
 (if ((xs (nx v3)) &&& 63) = 1 then
 (if ib (v3 + 1) L = true then
 (if wK w v1 = 8 then
 (bd2 (f_X8_sitter v1 (xs (nx (v3 + 1))) w) fun r36 w37 =>
 (if ib (v3 + 1) L = true then
 (if wK w37 v2 = 9 then
 (bd2 (f_X9_sitter v2 (xs (nx (v3 + 1))) w37) fun r41 w42 =>
 (if r36 = r41 then
 (lb_ (v3 + 6) fun x44 =>
 L_L_law_18 xs L n v1 v2 x44 w42)
 else
 some (0, w42)))
 else none)
 else none))
 else none)
 else none)
 else
 (if ((xs (nx v3)) &&& 63) = 2 then
 (if ib (v3 + 1) L = true then
 (if ib (v3 + 2) L = true then
 (if wK w v1 = 8 then
 (bd2 (f_X8_told v1 (xs (nx (v3 + 1))) (xs (nx (v3 + 2))) w) fun r50 w51 =>
 (if ib (v3 + 1) L = true then
 (if ib (v3 + 2) L = true then
 (if wK w51 v2 = 9 then
 (bd2 (f_X9_told v2 (xs (nx (v3 + 1))) (xs (nx (v3 + 2))) w51) fun r56 w57 =>
 (if r50 = r56 then
 (lb_ (v3 + 6) fun x59 =>
 L_L_law_18 xs L n v1 v2 x59 w57)
 else
 some (0, w57)))
 else none)
 else none)
 else none))
 else none)
 else none)
 else none)
 else
 (if ((xs (nx v3)) &&& 63) = 3 then
 (if ib (v3 + 1) L = true then
 (if ib (v3 + 2) L = true then
 (if wK w v1 = 8 then
 (bd2 (f_X8_as v1 (xs (nx (v3 + 1))) (xs (nx (v3 + 2))) w) fun r65 w66 =>
 (if ib (v3 + 1) L = true then
 (if ib (v3 + 2) L = true then
 (if wK w66 v2 = 9 then
 (bd2 (f_X9_as v2 (xs (nx (v3 + 1))) (xs (nx (v3 + 2))) w66) fun r71 w72 =>
 (if r65 = r71 then
 (lb_ (v3 + 6) fun x74 =>
 L_L_law_18 xs L n v1 v2 x74 w72)
 else
 some (0, w72)))
 else none)
 else none)
 else none))
 else none)
 else none)
 else none)
 else
 (if ((xs (nx v3)) &&& 63) = 4 then
 (if ib (v3 + 1) L = true then
 (if ib (v3 + 2) L = true then
 (if wK w v1 = 8 then
 (bd2 (f_X8_turns v1 (xs (nx (v3 + 1))) (xs (nx (v3 + 2))) w) fun r80 w81 =>
 (if ib (v3 + 1) L = true then
 (if ib (v3 + 2) L = true then
 (if wK w81 v2 = 9 then
 (bd2 (f_X9_turns v2 (xs (nx (v3 + 1))) (xs (nx (v3 + 2))) w81) fun r86 w87 =>
 (if r80 = r86 then
 (lb_ (v3 + 6) fun x89 =>
 L_L_law_18 xs L n v1 v2 x89 w87)
 else
 some (0, w87)))
 else none)
 else none)
 else none))
 else none)
 else none)
 else none)
 else
 (if ((xs (nx v3)) &&& 63) = 5 then
 (if ib (v3 + 1) L = true then
 (if ib (v3 + 2) L = true then
 (if wK w v1 = 8 then
 (bd2 (f_X8_sits v1 (xs (nx (v3 + 1))) (xs (nx (v3 + 2))) w) fun r95 w96 =>
 (if ib (v3 + 1) L = true then
 (if ib (v3 + 2) L = true then
 (if wK w96 v2 = 9 then
 (bd2 (f_X9_sits v2 (xs (nx (v3 + 1))) (xs (nx (v3 + 2))) w96) fun r101 w102 =>
 (if r95 = r101 then
 (lb_ (v3 + 6) fun x104 =>
 L_L_law_18 xs L n v1 v2 x104 w102)
 else
 some (0, w102)))
 else none)
 else none)
 else none))
 else none)
 else none)
 else none)
 else
 (if ((xs (nx v3)) &&& 63) = 6 then
 (if ib (v3 + 1) L = true then
 (if wK w v1 = 8 then
 (bd2 (f_X8_rises v1 (xs (nx (v3 + 1))) w) fun r109 w110 =>
 (if ib (v3 + 1) L = true then
 (if wK w110 v2 = 9 then
 (bd2 (f_X9_rises v2 (xs (nx (v3 + 1))) w110) fun r114 w115 =>
 (if r109 = r114 then
 (lb_ (v3 + 6) fun x117 =>
 L_L_law_18 xs L n v1 v2 x117 w115)
 else
 some (0, w115)))
 else none)
 else none))
 else none)
 else none)
 else
 (if ((xs (nx v3)) &&& 63) = 7 then
 (if ib (v3 + 1) L = true then
 (if wK w v1 = 8 then
 (bd2 (f_X8_who v1 (xs (nx (v3 + 1))) w) fun r122 w123 =>
 (if ib (v3 + 1) L = true then
 (if wK w123 v2 = 9 then
 (bd2 (f_X9_who v2 (xs (nx (v3 + 1))) w123) fun r127 w128 =>
 (if r122 = r127 then
 (lb_ (v3 + 6) fun x130 =>
 L_L_law_18 xs L n v1 v2 x130 w128)
 else
 some (0, w128)))
 else none)
 else none))
 else none)
 else none)
 else
 (if ((xs (nx v3)) &&& 63) = 8 then
 (if ib (v3 + 1) L = true then
 (if ib (v3 + 2) L = true then
 (if wK w v1 = 8 then
 (bd2 (f_X8_cushion v1 (xs (nx (v3 + 1))) (xs (nx (v3 + 2))) w) fun r136 w137 =>
 (if ib (v3 + 1) L = true then
 (if ib (v3 + 2) L = true then
 (if wK w137 v2 = 9 then
 (bd2 (f_X9_cushion v2 (xs (nx (v3 + 1))) (xs (nx (v3 + 2))) w137) fun r142 w143 =>
 (if r136 = r142 then
 (lb_ (v3 + 6) fun x145 =>
 L_L_law_18 xs L n v1 v2 x145 w143)
 else
 some (0, w143)))
 else none)
 else none)
 else none))
 else none)
 else none)
 else none)
 else
 (if ((xs (nx v3)) &&& 63) = 9 then
 (if ib (v3 + 1) L = true then
 (if ib (v3 + 2) L = true then
 (if wK w v1 = 8 then
 (bd2 (f_X8_rule v1 (xs (nx (v3 + 1))) (xs (nx (v3 + 2))) w) fun r151 w152 =>
 (if ib (v3 + 1) L = true then
 (if ib (v3 + 2) L = true then
 (if wK w152 v2 = 9 then
 (bd2 (f_X9_rule v2 (xs (nx (v3 + 1))) (xs (nx (v3 + 2))) w152) fun r157 w158 =>
 (if r151 = r157 then
 (lb_ (v3 + 6) fun x160 =>
 L_L_law_18 xs L n v1 v2 x160 w158)
 else
 some (0, w158)))
 else none)
 else none)
 else none))
 else none)
 else none)
 else none)
 else
 (if ((xs (nx v3)) &&& 63) = 10 then
 (if ib (v3 + 1) L = true then
 (if wK w v1 = 8 then
 (bd2 (f_X8_deal v1 (xs (nx (v3 + 1))) w) fun r165 w166 =>
 (if ib (v3 + 1) L = true then
 (if wK w166 v2 = 9 then
 (bd2 (f_X9_deal v2 (xs (nx (v3 + 1))) w166) fun r170 w171 =>
 (if r165 = r170 then
 (lb_ (v3 + 6) fun x173 =>
 L_L_law_18 xs L n v1 v2 x173 w171)
 else
 some (0, w171)))
 else none)
 else none))
 else none)
 else none)
 else
 (if ((xs (nx v3)) &&& 63) = 11 then
 (if ib (v3 + 1) L = true then
 (if wK w v1 = 8 then
 (bd2 (f_X8_seed v1 (xs (nx (v3 + 1))) w) fun r178 w179 =>
 (if ib (v3 + 1) L = true then
 (if wK w179 v2 = 9 then
 (bd2 (f_X9_seed v2 (xs (nx (v3 + 1))) w179) fun r183 w184 =>
 (if r178 = r183 then
 (lb_ (v3 + 6) fun x186 =>
 L_L_law_18 xs L n v1 v2 x186 w184)
 else
 some (0, w184)))
 else none)
 else none))
 else none)
 else none)
 else
 (if ((xs (nx v3)) &&& 63) = 12 then
 (if ib (v3 + 1) L = true then
 (if wK w v1 = 8 then
 (bd2 (f_X8_minutes v1 (xs (nx (v3 + 1))) w) fun r191 w192 =>
 (if ib (v3 + 1) L = true then
 (if wK w192 v2 = 9 then
 (bd2 (f_X9_minutes v2 (xs (nx (v3 + 1))) w192) fun r196 w197 =>
 (if r191 = r196 then
 (lb_ (v3 + 6) fun x199 =>
 L_L_law_18 xs L n v1 v2 x199 w197)
 else
 some (0, w197)))
 else none)
 else none))
 else none)
 else none)
 else
 (if ((xs (nx v3)) &&& 63) = 13 then
 (if ib (v3 + 1) L = true then
 (if wK w v1 = 8 then
 (bd2 (f_X8_inn v1 (xs (nx (v3 + 1))) w) fun r204 w205 =>
 (if ib (v3 + 1) L = true then
 (if wK w205 v2 = 9 then
 (bd2 (f_X9_inn v2 (xs (nx (v3 + 1))) w205) fun r209 w210 =>
 (if r204 = r209 then
 (lb_ (v3 + 6) fun x212 =>
 L_L_law_18 xs L n v1 v2 x212 w210)
 else
 some (0, w210)))
 else none)
 else none))
 else none)
 else none)
 else
 (if ((xs (nx v3)) &&& 63) = 14 then
 (if ib (v3 + 1) L = true then
 (if wK w v1 = 8 then
 (bd2 (f_X8_goes v1 (xs (nx (v3 + 1))) w) fun r217 w218 =>
 (if ib (v3 + 1) L = true then
 (if wK w218 v2 = 9 then
 (bd2 (f_X9_goes v2 (xs (nx (v3 + 1))) w218) fun r222 w223 =>
 (if r217 = r222 then
 (lb_ (v3 + 6) fun x225 =>
 L_L_law_18 xs L n v1 v2 x225 w223)
 else
 some (0, w223)))
 else none)
 else none))
 else none)
 else none)
 else
 (if ((xs (nx v3)) &&& 63) = 15 then
 (if ib (v3 + 1) L = true then
 (if wK w v1 = 8 then
 (bd2 (f_X8_game v1 (xs (nx (v3 + 1))) w) fun r230 w231 =>
 (if ib (v3 + 1) L = true then
 (if wK w231 v2 = 9 then
 (bd2 (f_X9_game v2 (xs (nx (v3 + 1))) w231) fun r235 w236 =>
 (if r230 = r235 then
 (lb_ (v3 + 6) fun x238 =>
 L_L_law_18 xs L n v1 v2 x238 w236)
 else
 some (0, w236)))
 else none)
 else none))
 else none)
 else none)
 else
 (if ((xs (nx v3)) &&& 63) = 16 then
 (if ib (v3 + 1) L = true then
 (if wK w v1 = 8 then
 (bd2 (f_X8_worthy v1 (xs (nx (v3 + 1))) w) fun r243 w244 =>
 (if ib (v3 + 1) L = true then
 (if wK w244 v2 = 9 then
 (bd2 (f_X9_worthy v2 (xs (nx (v3 + 1))) w244) fun r248 w249 =>
 (if r243 = r248 then
 (lb_ (v3 + 6) fun x251 =>
 L_L_law_18 xs L n v1 v2 x251 w249)
 else
 some (0, w249)))
 else none)
 else none))
 else none)
 else none)
 else
 (if ((xs (nx v3)) &&& 63) = 17 then
 (if ib (v3 + 1) L = true then
 (if ib (v3 + 2) L = true then
 (if wK w v1 = 8 then
 (bd2 (f_X8_behind v1 (xs (nx (v3 + 1))) (xs (nx (v3 + 2))) w) fun r257 w258 =>
 (if ib (v3 + 1) L = true then
 (if ib (v3 + 2) L = true then
 (if wK w258 v2 = 9 then
 (bd2 (f_X9_behind v2 (xs (nx (v3 + 1))) (xs (nx (v3 + 2))) w258) fun r263 w264 =>
 (if r257 = r263 then
 (lb_ (v3 + 6) fun x266 =>
 L_L_law_18 xs L n v1 v2 x266 w264)
 else
 some (0, w264)))
 else none)
 else none)
 else none))
 else none)
 else none)
 else none)
 else
 (if ((xs (nx v3)) &&& 63) = 18 then
 (if wK w v1 = 8 then
 (bd2 (f_X8_fullUp v1 w) fun r270 w271 =>
 (if wK w271 v2 = 9 then
 (bd2 (f_X9_fullUp v2 w271) fun r274 w275 =>
 (if r270 = r274 then
 (lb_ (v3 + 6) fun x277 =>
 L_L_law_18 xs L n v1 v2 x277 w275)
 else
 some (0, w275)))
 else none))
 else none)
 else
 (if ((xs (nx v3)) &&& 63) = 19 then
 (if ib (v3 + 1) L = true then
 (if ib (v3 + 2) L = true then
 (if wK w v1 = 8 then
 (bd2 (f_X8_rose v1 (xs (nx (v3 + 1))) (xs (nx (v3 + 2))) w) fun r283 w284 =>
 (if ib (v3 + 1) L = true then
 (if ib (v3 + 2) L = true then
 (if wK w284 v2 = 9 then
 (bd2 (f_X9_rose v2 (xs (nx (v3 + 1))) (xs (nx (v3 + 2))) w284) fun r289 w290 =>
 (if r283 = r289 then
 (lb_ (v3 + 6) fun x292 =>
 L_L_law_18 xs L n v1 v2 x292 w290)
 else
 some (0, w290)))
 else none)
 else none)
 else none))
 else none)
 else none)
 else none)
 else
 (if ((xs (nx v3)) &&& 63) = 20 then
 (if ib (v3 + 1) L = true then
 (if wK w v1 = 8 then
 (bd2 (f_X8_book v1 (xs (nx (v3 + 1))) w) fun r297 w298 =>
 (if ib (v3 + 1) L = true then
 (if wK w298 v2 = 9 then
 (bd2 (f_X9_book v2 (xs (nx (v3 + 1))) w298) fun r302 w303 =>
 (if r297 = r302 then
 (lb_ (v3 + 6) fun x305 =>
 L_L_law_18 xs L n v1 v2 x305 w303)
 else
 some (0, w303)))
 else none)
 else none))
 else none)
 else none)
 else
 (if ((xs (nx v3)) &&& 63) = 21 then
 (if wK w v1 = 8 then
 (bd2 (f_X8_fee v1 w) fun r309 w310 =>
 (if wK w310 v2 = 9 then
 (bd2 (f_X9_fee v2 w310) fun r313 w314 =>
 (if r309 = r313 then
 (lb_ (v3 + 6) fun x316 =>
 L_L_law_18 xs L n v1 v2 x316 w314)
 else
 some (0, w314)))
 else none))
 else none)
 else
 (if ((xs (nx v3)) &&& 63) = 22 then
 (if ib (v3 + 1) L = true then
 (if wK w v1 = 8 then
 (bd2 (f_X8_fine v1 (xs (nx (v3 + 1))) w) fun r321 w322 =>
 (if ib (v3 + 1) L = true then
 (if wK w322 v2 = 9 then
 (bd2 (f_X9_fine v2 (xs (nx (v3 + 1))) w322) fun r326 w327 =>
 (if r321 = r326 then
 (lb_ (v3 + 6) fun x329 =>
 L_L_law_18 xs L n v1 v2 x329 w327)
 else
 some (0, w327)))
 else none)
 else none))
 else none)
 else none)
 else
 (if ((xs (nx v3)) &&& 63) = 23 then
 (if ib (v3 + 1) L = true then
 (if ib (v3 + 2) L = true then
 (if ib (v3 + 3) L = true then
 (if wK w v1 = 8 then
 (bd2 (f_X8_feed v1 (xs (nx (v3 + 1))) (xs (nx (v3 + 2))) (xs (nx (v3 + 3))) w) fun r336 w337 =>
 (if ib (v3 + 1) L = true then
 (if ib (v3 + 2) L = true then
 (if ib (v3 + 3) L = true then
 (if wK w337 v2 = 9 then
 (bd2 (f_X9_feed v2 (xs (nx (v3 + 1))) (xs (nx (v3 + 2))) (xs (nx (v3 + 3))) w337) fun r343 w344 =>
 (if r336 = r343 then
 (lb_ (v3 + 6) fun x346 =>
 L_L_law_18 xs L n v1 v2 x346 w344)
 else
 some (0, w344)))
 else none)
 else none)
 else none)
 else none))
 else none)
 else none)
 else none)
 else none)
 else
 (if ((xs (nx v3)) &&& 63) = 24 then
 (if ib (v3 + 1) L = true then
 (if wK w v1 = 8 then
 (bd2 (f_X8_trim v1 (xs (nx (v3 + 1))) w) fun r351 w352 =>
 (if ib (v3 + 1) L = true then
 (if wK w352 v2 = 9 then
 (bd2 (f_X9_trim v2 (xs (nx (v3 + 1))) w352) fun r356 w357 =>
 (if r351 = r356 then
 (lb_ (v3 + 6) fun x359 =>
 L_L_law_18 xs L n v1 v2 x359 w357)
 else
 some (0, w357)))
 else none)
 else none))
 else none)
 else none)
 else
 (if ((xs (nx v3)) &&& 63) = 25 then
 (if wK w v1 = 8 then
 (bd2 (f_X8_text v1 w) fun r363 w364 =>
 (if wK w364 v2 = 9 then
 (bd2 (f_X9_text v2 w364) fun r367 w368 =>
 (if r363 = r367 then
 (lb_ (v3 + 6) fun x370 =>
 L_L_law_18 xs L n v1 v2 x370 w368)
 else
 some (0, w368)))
 else none))
 else none)
 else
 (if ((xs (nx v3)) &&& 63) = 26 then
 (if ib (v3 + 1) L = true then
 (if ib (v3 + 2) L = true then
 (if wK w v1 = 8 then
 (bd2 (f_X8_textTold v1 (xs (nx (v3 + 1))) (xs (nx (v3 + 2))) w) fun r376 w377 =>
 (if ib (v3 + 1) L = true then
 (if ib (v3 + 2) L = true then
 (if wK w377 v2 = 9 then
 (bd2 (f_X9_textTold v2 (xs (nx (v3 + 1))) (xs (nx (v3 + 2))) w377) fun r382 w383 =>
 (if r376 = r382 then
 (lb_ (v3 + 6) fun x385 =>
 L_L_law_18 xs L n v1 v2 x385 w383)
 else
 some (0, w383)))
 else none)
 else none)
 else none))
 else none)
 else none)
 else none)
 else
 (if ((xs (nx v3)) &&& 63) = 27 then
 (if ib (v3 + 1) L = true then
 (if wK w v1 = 8 then
 (bd2 (f_X8_why v1 (xs (nx (v3 + 1))) w) fun r390 w391 =>
 (if ib (v3 + 1) L = true then
 (if wK w391 v2 = 9 then
 (bd2 (f_X9_why v2 (xs (nx (v3 + 1))) w391) fun r395 w396 =>
 (if r390 = r395 then
 (lb_ (v3 + 6) fun x398 =>
 L_L_law_18 xs L n v1 v2 x398 w396)
 else
 some (0, w396)))
 else none)
 else none))
 else none)
 else none)
 else
 (if ((xs (nx v3)) &&& 63) = 28 then
 (if ib (v3 + 1) L = true then
 (if ib (v3 + 2) L = true then
 (if ib (v3 + 3) L = true then
 (if wK w v1 = 8 then
 (bd2 (f_X8_sheet v1 (xs (nx (v3 + 1))) (xs (nx (v3 + 2))) (xs (nx (v3 + 3))) w) fun r405 w406 =>
 (if ib (v3 + 1) L = true then
 (if ib (v3 + 2) L = true then
 (if ib (v3 + 3) L = true then
 (if wK w406 v2 = 9 then
 (bd2 (f_X9_sheet v2 (xs (nx (v3 + 1))) (xs (nx (v3 + 2))) (xs (nx (v3 + 3))) w406) fun r412 w413 =>
 (if r405 = r412 then
 (lb_ (v3 + 6) fun x415 =>
 L_L_law_18 xs L n v1 v2 x415 w413)
 else
 some (0, w413)))
 else none)
 else none)
 else none)
 else none))
 else none)
 else none)
 else none)
 else none)
 else
 (if ((xs (nx v3)) &&& 63) = 29 then
 (if ib (v3 + 1) L = true then
 (if ib (v3 + 2) L = true then
 (if ib (v3 + 3) L = true then
 (if wK w v1 = 8 then
 (bd2 (f_X8_mark v1 (xs (nx (v3 + 1))) (xs (nx (v3 + 2))) (xs (nx (v3 + 3))) w) fun r422 w423 =>
 (if ib (v3 + 1) L = true then
 (if ib (v3 + 2) L = true then
 (if ib (v3 + 3) L = true then
 (if wK w423 v2 = 9 then
 (bd2 (f_X9_mark v2 (xs (nx (v3 + 1))) (xs (nx (v3 + 2))) (xs (nx (v3 + 3))) w423) fun r429 w430 =>
 (if r422 = r429 then
 (lb_ (v3 + 6) fun x432 =>
 L_L_law_18 xs L n v1 v2 x432 w430)
 else
 some (0, w430)))
 else none)
 else none)
 else none)
 else none))
 else none)
 else none)
 else none)
 else none)
 else
 (if ((xs (nx v3)) &&& 63) = 30 then
 (if ib (v3 + 1) L = true then
 (if wK w v1 = 8 then
 (bd2 (f_X8_pour v1 (xs (nx (v3 + 1))) w) fun r437 w438 =>
 (if ib (v3 + 1) L = true then
 (if wK w438 v2 = 9 then
 (bd2 (f_X9_pour v2 (xs (nx (v3 + 1))) w438) fun r442 w443 =>
 (if r437 = r442 then
 (lb_ (v3 + 6) fun x445 =>
 L_L_law_18 xs L n v1 v2 x445 w443)
 else
 some (0, w443)))
 else none)
 else none))
 else none)
 else none)
 else
 (if ((xs (nx v3)) &&& 63) = 31 then
 (if ib (v3 + 1) L = true then
 (if wK w v1 = 8 then
 (bd2 (f_X8_reads v1 (xs (nx (v3 + 1))) w) fun r450 w451 =>
 (if ib (v3 + 1) L = true then
 (if wK w451 v2 = 9 then
 (bd2 (f_X9_reads v2 (xs (nx (v3 + 1))) w451) fun r455 w456 =>
 (if r450 = r455 then
 (lb_ (v3 + 6) fun x458 =>
 L_L_law_18 xs L n v1 v2 x458 w456)
 else
 some (0, w456)))
 else none)
 else none))
 else none)
 else none)
 else
 (if ((xs (nx v3)) &&& 63) = 32 then
 (if ib (v3 + 1) L = true then
 (if ib (v3 + 2) L = true then
 (if ib (v3 + 3) L = true then
 (if ib (v3 + 4) L = true then
 (if ib (v3 + 5) L = true then
 (if wK w v1 = 8 then
 (bd2 (f_X8_copy v1 (xs (nx (v3 + 1))) (xs (nx (v3 + 2))) (xs (nx (v3 + 3))) (xs (nx (v3 + 4))) (xs (nx (v3 + 5))) w) fun r467 w468 =>
 (if ib (v3 + 1) L = true then
 (if ib (v3 + 2) L = true then
 (if ib (v3 + 3) L = true then
 (if ib (v3 + 4) L = true then
 (if ib (v3 + 5) L = true then
 (if wK w468 v2 = 9 then
 (bd2 (f_X9_copy v2 (xs (nx (v3 + 1))) (xs (nx (v3 + 2))) (xs (nx (v3 + 3))) (xs (nx (v3 + 4))) (xs (nx (v3 + 5))) w468) fun r476 w477 =>
 (if r467 = r476 then
 (lb_ (v3 + 6) fun x479 =>
 L_L_law_18 xs L n v1 v2 x479 w477)
 else
 some (0, w477)))
 else none)
 else none)
 else none)
 else none)
 else none)
 else none))
 else none)
 else none)
 else none)
 else none)
 else none)
 else none)
 else
 (if ((xs (nx v3)) &&& 63) = 33 then
 (if ib (v3 + 1) L = true then
 (if ib (v3 + 2) L = true then
 (if ib (v3 + 3) L = true then
 (if wK w v1 = 8 then
 (bd2 (f_X8_lay v1 (xs (nx (v3 + 1))) (xs (nx (v3 + 2))) (xs (nx (v3 + 3))) w) fun r486 w487 =>
 (if ib (v3 + 1) L = true then
 (if ib (v3 + 2) L = true then
 (if ib (v3 + 3) L = true then
 (if wK w487 v2 = 9 then
 (bd2 (f_X9_lay v2 (xs (nx (v3 + 1))) (xs (nx (v3 + 2))) (xs (nx (v3 + 3))) w487) fun r493 w494 =>
 (if r486 = r493 then
 (lb_ (v3 + 6) fun x496 =>
 L_L_law_18 xs L n v1 v2 x496 w494)
 else
 some (0, w494)))
 else none)
 else none)
 else none)
 else none))
 else none)
 else none)
 else none)
 else none)
 else
 (if ((xs (nx v3)) &&& 63) = 34 then
 (if ib (v3 + 1) L = true then
 (if ib (v3 + 2) L = true then
 (if wK w v1 = 8 then
 (bd2 (f_X8_ask v1 (xs (nx (v3 + 1))) (xs (nx (v3 + 2))) w) fun r502 w503 =>
 (if ib (v3 + 1) L = true then
 (if ib (v3 + 2) L = true then
 (if wK w503 v2 = 9 then
 (bd2 (f_X9_ask v2 (xs (nx (v3 + 1))) (xs (nx (v3 + 2))) w503) fun r508 w509 =>
 (if r502 = r508 then
 (lb_ (v3 + 6) fun x511 =>
 L_L_law_18 xs L n v1 v2 x511 w509)
 else
 some (0, w509)))
 else none)
 else none)
 else none))
 else none)
 else none)
 else none)
 else
 (if ((xs (nx v3)) &&& 63) = 35 then
 (if ib (v3 + 1) L = true then
 (if ib (v3 + 2) L = true then
 (if wK w v1 = 8 then
 (bd2 (f_X8_item v1 (xs (nx (v3 + 1))) (xs (nx (v3 + 2))) w) fun r517 w518 =>
 (if ib (v3 + 1) L = true then
 (if ib (v3 + 2) L = true then
 (if wK w518 v2 = 9 then
 (bd2 (f_X9_item v2 (xs (nx (v3 + 1))) (xs (nx (v3 + 2))) w518) fun r523 w524 =>
 (if r517 = r523 then
 (lb_ (v3 + 6) fun x526 =>
 L_L_law_18 xs L n v1 v2 x526 w524)
 else
 some (0, w524)))
 else none)
 else none)
 else none))
 else none)
 else none)
 else none)
 else
 (if ((xs (nx v3)) &&& 63) = 36 then
 (if ib (v3 + 1) L = true then
 (if ib (v3 + 2) L = true then
 (if wK w v1 = 8 then
 (bd2 (f_X8_rest v1 (xs (nx (v3 + 1))) (xs (nx (v3 + 2))) w) fun r532 w533 =>
 (if ib (v3 + 1) L = true then
 (if ib (v3 + 2) L = true then
 (if wK w533 v2 = 9 then
 (bd2 (f_X9_rest v2 (xs (nx (v3 + 1))) (xs (nx (v3 + 2))) w533) fun r538 w539 =>
 (if r532 = r538 then
 (lb_ (v3 + 6) fun x541 =>
 L_L_law_18 xs L n v1 v2 x541 w539)
 else
 some (0, w539)))
 else none)
 else none)
 else none))
 else none)
 else none)
 else none)
 else
 (if ((xs (nx v3)) &&& 63) = 37 then
 (if ib (v3 + 1) L = true then
 (if wK w v1 = 8 then
 (bd2 (f_X8_tell v1 (xs (nx (v3 + 1))) w) fun r546 w547 =>
 (if ib (v3 + 1) L = true then
 (if wK w547 v2 = 9 then
 (bd2 (f_X9_tell v2 (xs (nx (v3 + 1))) w547) fun r551 w552 =>
 (if r546 = r551 then
 (lb_ (v3 + 6) fun x554 =>
 L_L_law_18 xs L n v1 v2 x554 w552)
 else
 some (0, w552)))
 else none)
 else none))
 else none)
 else none)
 else
 (if ((xs (nx v3)) &&& 63) = 38 then
 (if ib (v3 + 1) L = true then
 (if wK w v1 = 8 then
 (bd2 (f_X8_check v1 (xs (nx (v3 + 1))) w) fun r559 w560 =>
 (if ib (v3 + 1) L = true then
 (if wK w560 v2 = 9 then
 (bd2 (f_X9_check v2 (xs (nx (v3 + 1))) w560) fun r564 w565 =>
 (if r559 = r564 then
 (lb_ (v3 + 6) fun x567 =>
 L_L_law_18 xs L n v1 v2 x567 w565)
 else
 some (0, w565)))
 else none)
 else none))
 else none)
 else none)
 else
 (if ((xs (nx v3)) &&& 63) = 39 then
 (if wK w v1 = 8 then
 (bd2 (f_X8_keep v1 w) fun r571 w572 =>
 (if wK w572 v2 = 9 then
 (bd2 (f_X9_keep v2 w572) fun r575 w576 =>
 (if r571 = r575 then
 (lb_ (v3 + 6) fun x578 =>
 L_L_law_18 xs L n v1 v2 x578 w576)
 else
 some (0, w576)))
 else none))
 else none)
 else
 (if ((xs (nx v3)) &&& 63) = 40 then
 (if wK w v1 = 8 then
 (bd2 (f_X8_back v1 w) fun r582 w583 =>
 (if wK w583 v2 = 9 then
 (bd2 (f_X9_back v2 w583) fun r586 w587 =>
 (if r582 = r586 then
 (lb_ (v3 + 6) fun x589 =>
 L_L_law_18 xs L n v1 v2 x589 w587)
 else
 some (0, w587)))
 else none))
 else none)
 else
 (if ((xs (nx v3)) &&& 63) = 41 then
 (if ib (v3 + 1) L = true then
 (if wK w v1 = 8 then
 (bd2 (f_X8_count v1 (xs (nx (v3 + 1))) w) fun r594 w595 =>
 (if ib (v3 + 1) L = true then
 (if wK w595 v2 = 9 then
 (bd2 (f_X9_count v2 (xs (nx (v3 + 1))) w595) fun r599 w600 =>
 (if r594 = r599 then
 (lb_ (v3 + 6) fun x602 =>
 L_L_law_18 xs L n v1 v2 x602 w600)
 else
 some (0, w600)))
 else none)
 else none))
 else none)
 else none)
 else
 (lb_ (v3 + 6) fun x604 =>
 L_L_law_18 xs L n v1 v2 x604 w)))))))))))))))))))))))))))))))))))))))))))
 else none))
set_option maxHeartbeats 4000000 in
set_option maxRecDepth 100000 in
theorem bL_L_law_18 {t : Ct} {V : Vt} {Q : State → Prop} {nm : String} {xs : Nat → Int32} {L b : Nat} {w' : Wd} (Y : Hd_ t V cL_law 4 RL room_1 ret nm) (S : Sc_ t V b L xs) (hQ : ∀ (pc ce sl : Nat) (lv : List (Nat × Value)) (w : Wd), decode cL_law pc = .ok (.ireturn, 1) → ce ≤ 600000 → sl ≤ 7302250 → Gd t V 4 ce sl Q pc lv [.int 1] w) : ∀ {n : Nat} {v1 v2 : Nat} {v3 : Int32} {w : Wd} {ce sl : Nat}, ce + 10 * n ≤ 600000 → sl + 400 * n ≤ 7302250 → L_L_law_18 xs L n v1 v2 v3 w = some (1, w') → Gd t V 4 ce sl Q 18 [(1, rf V v1), (2, rf V v2), (3, .int v3), (0, .ref b)] [] w := by
  have X := Y.1
  intro n
  induction n with
  | zero => intro v1 v2 v3 w ce sl _ _ h; cases h
  | succ n ih =>
    intro v1 v2 v3 w ce sl hce hsl h
    unfold L_L_law_18 at h
    refine g_iload_n (pc := 18) X 2 rfl dL_law_18 ?_
    refine g_aload_nS (pc := 19) X 3 rfl dL_law_19 ?_
    refine g_slen (pc := 20) X S dL_law_20 ?_
    refine g_bipush (pc := 21) X (v := 6) dL_law_21 rfl ?_
    refine g_isub (pc := 23) X dL_law_23 ?_
    refine g_icmp_gt (pc := 24) X (tgt := 1398) dL_law_24 rfl (fun c => ?_) (fun c => ?_)
    · have h := br_y c h
      refine g_iconst (pc := 1398) X (v := 1) dL_law_1398 rfl ?_
      exact hQ 1399 _ _ _ _ dL_law_1399 (by omega) (by omega)
    · have h := br_n c h
      refine g_aload_nS (pc := 27) X 3 rfl dL_law_27 ?_
      refine g_iload_n (pc := 28) X 2 rfl dL_law_28 ?_
      obtain ⟨k15, h⟩ := gd_i h
      refine g_sld (pc := 29) X S k15 dL_law_29 ?_
      refine g_bipush (pc := 30) X (v := 63) dL_law_30 rfl ?_
      refine g_iand (pc := 32) X dL_law_32 ?_
      by_cases c16 : ((xs (nx v3)) &&& 63) = 0
      · have h := br_y c16 h
        refine g_tswI (pc := 33) X 0 (tgt := 216) dL_law_33 c16 (by decide) (by decide) rfl rfl ?_
        refine g_aload_n (pc := 216) X 0 rfl dL_law_216 ?_
        refine g_aload_nS (pc := 217) X 3 rfl dL_law_217 ?_
        refine g_iload_n (pc := 218) X 2 rfl dL_law_218 ?_
        refine g_iconst (pc := 219) X (v := 1) dL_law_219 rfl ?_
        refine g_iadd (pc := 220) X dL_law_220 ?_
        obtain ⟨k17, h⟩ := gd_i h
        refine g_sld (pc := 221) X S k17 dL_law_221 ?_
        refine g_aload_nS (pc := 222) X 3 rfl dL_law_222 ?_
        refine g_iload_n (pc := 223) X 2 rfl dL_law_223 ?_
        refine g_iconst (pc := 224) X (v := 2) dL_law_224 rfl ?_
        refine g_iadd (pc := 225) X dL_law_225 ?_
        obtain ⟨k18, h⟩ := gd_i h
        refine g_sld (pc := 226) X S k18 dL_law_226 ?_
        refine g_aload_nS (pc := 227) X 3 rfl dL_law_227 ?_
        refine g_iload_n (pc := 228) X 2 rfl dL_law_228 ?_
        refine g_iconst (pc := 229) X (v := 3) dL_law_229 rfl ?_
        refine g_iadd (pc := 230) X dL_law_230 ?_
        obtain ⟨k19, h⟩ := gd_i h
        refine g_sld (pc := 231) X S k19 dL_law_231 ?_
        obtain ⟨k20, h⟩ := gd_i h
        obtain ⟨r21, w22, h23, h⟩ := bd2_i h
        refine g_callV (pc := 232) X FcX8 k20 mk_X8_bench q_353 q_354 q_352 (c_X8_bench h23) rfl rfl (by rw [Y.2.1]; decide)  rfl (rest := []) rfl (Nat.le_of_ble_eq_true rfl) ⟨lw_c Y.2.1 (by omega), lw_s Y.2.1 (by omega)⟩ dL_law_232 (st' := [.int r21]) rfl ?_
        refine g_aload_n (pc := 235) X 1 rfl dL_law_235 ?_
        refine g_aload_nS (pc := 236) X 3 rfl dL_law_236 ?_
        refine g_iload_n (pc := 237) X 2 rfl dL_law_237 ?_
        refine g_iconst (pc := 238) X (v := 1) dL_law_238 rfl ?_
        refine g_iadd (pc := 239) X dL_law_239 ?_
        obtain ⟨k24, h⟩ := gd_i h
        refine g_sld (pc := 240) X S k24 dL_law_240 ?_
        refine g_aload_nS (pc := 241) X 3 rfl dL_law_241 ?_
        refine g_iload_n (pc := 242) X 2 rfl dL_law_242 ?_
        refine g_iconst (pc := 243) X (v := 2) dL_law_243 rfl ?_
        refine g_iadd (pc := 244) X dL_law_244 ?_
        obtain ⟨k25, h⟩ := gd_i h
        refine g_sld (pc := 245) X S k25 dL_law_245 ?_
        refine g_aload_nS (pc := 246) X 3 rfl dL_law_246 ?_
        refine g_iload_n (pc := 247) X 2 rfl dL_law_247 ?_
        refine g_iconst (pc := 248) X (v := 3) dL_law_248 rfl ?_
        refine g_iadd (pc := 249) X dL_law_249 ?_
        obtain ⟨k26, h⟩ := gd_i h
        refine g_sld (pc := 250) X S k26 dL_law_250 ?_
        obtain ⟨k27, h⟩ := gd_i h
        obtain ⟨r28, w29, h30, h⟩ := bd2_i h
        refine g_callV (pc := 251) X FcX9 k27 mk_X9_bench q_1129 q_1130 q_1128 (c_X9_bench h30) rfl rfl (by rw [Y.2.1]; decide)  rfl (rest := [.int r21]) rfl (Nat.le_of_ble_eq_true rfl) ⟨lw_c Y.2.1 (by omega), lw_s Y.2.1 (by omega)⟩ dL_law_251 (st' := [.int r28, .int r21]) rfl ?_
        refine g_icmp_eq (pc := 254) X (tgt := 1392) dL_law_254 rfl (fun c => ?_) (fun c => ?_)
        · have h := br_y c h
          obtain ⟨x31, e32, h⟩ := lb_i h
          refine g_iinc (pc := 1392) X 2 rfl dL_law_1392 (v := x31) e32.symm (by decide) (lv' := [(3, .int x31), (1, rf V v1), (2, rf V v2), (0, .ref b)]) rfl ?_
          refine g_goto (pc := 1395) X (tgt := 18) dL_law_1395 rfl ?_
          refine g_sub (lv' := [(1, rf V v1), (2, rf V v2), (3, .int x31), (0, .ref b)]) [1, 2, 0, 3] rfl ?_
          refine g_widen (ce' := ce + 10) (sl' := sl + 400) (by omega) (by omega) ?_
          exact ih (by omega) (by omega) h
        · have h := br_n c h
          refine g_iconst (pc := 257) X (v := 0) dL_law_257 rfl ?_
          exact absurd (rt_i h).1 (by decide)
      · have h := br_n c16 h
        by_cases c33 : ((xs (nx v3)) &&& 63) = 1
        · have h := br_y c33 h
          refine g_tswI (pc := 33) X 1 (tgt := 259) dL_law_33 c33 (by decide) (by decide) rfl rfl ?_
          refine g_aload_n (pc := 259) X 0 rfl dL_law_259 ?_
          refine g_aload_nS (pc := 260) X 3 rfl dL_law_260 ?_
          refine g_iload_n (pc := 261) X 2 rfl dL_law_261 ?_
          refine g_iconst (pc := 262) X (v := 1) dL_law_262 rfl ?_
          refine g_iadd (pc := 263) X dL_law_263 ?_
          obtain ⟨k34, h⟩ := gd_i h
          refine g_sld (pc := 264) X S k34 dL_law_264 ?_
          obtain ⟨k35, h⟩ := gd_i h
          obtain ⟨r36, w37, h38, h⟩ := bd2_i h
          refine g_callV (pc := 265) X FcX8 k35 mk_X8_sitter q_387 q_388 q_386 (c_X8_sitter h38) rfl rfl (by rw [Y.2.1]; decide)  rfl (rest := []) rfl (Nat.le_of_ble_eq_true rfl) ⟨lw_c Y.2.1 (by omega), lw_s Y.2.1 (by omega)⟩ dL_law_265 (st' := [.int r36]) rfl ?_
          refine g_aload_n (pc := 268) X 1 rfl dL_law_268 ?_
          refine g_aload_nS (pc := 269) X 3 rfl dL_law_269 ?_
          refine g_iload_n (pc := 270) X 2 rfl dL_law_270 ?_
          refine g_iconst (pc := 271) X (v := 1) dL_law_271 rfl ?_
          refine g_iadd (pc := 272) X dL_law_272 ?_
          obtain ⟨k39, h⟩ := gd_i h
          refine g_sld (pc := 273) X S k39 dL_law_273 ?_
          obtain ⟨k40, h⟩ := gd_i h
          obtain ⟨r41, w42, h43, h⟩ := bd2_i h
          refine g_callV (pc := 274) X FcX9 k40 mk_X9_sitter q_1149 q_1150 q_1148 (c_X9_sitter h43) rfl rfl (by rw [Y.2.1]; decide)  rfl (rest := [.int r36]) rfl (Nat.le_of_ble_eq_true rfl) ⟨lw_c Y.2.1 (by omega), lw_s Y.2.1 (by omega)⟩ dL_law_274 (st' := [.int r41, .int r36]) rfl ?_
          refine g_icmp_eq (pc := 277) X (tgt := 1392) dL_law_277 rfl (fun c => ?_) (fun c => ?_)
          · have h := br_y c h
            obtain ⟨x44, e45, h⟩ := lb_i h
            refine g_iinc (pc := 1392) X 2 rfl dL_law_1392 (v := x44) e45.symm (by decide) (lv' := [(3, .int x44), (1, rf V v1), (2, rf V v2), (0, .ref b)]) rfl ?_
            refine g_goto (pc := 1395) X (tgt := 18) dL_law_1395 rfl ?_
            refine g_sub (lv' := [(1, rf V v1), (2, rf V v2), (3, .int x44), (0, .ref b)]) [1, 2, 0, 3] rfl ?_
            refine g_widen (ce' := ce + 10) (sl' := sl + 400) (by omega) (by omega) ?_
            exact ih (by omega) (by omega) h
          · have h := br_n c h
            refine g_iconst (pc := 280) X (v := 0) dL_law_280 rfl ?_
            exact absurd (rt_i h).1 (by decide)
        · have h := br_n c33 h
          by_cases c46 : ((xs (nx v3)) &&& 63) = 2
          · have h := br_y c46 h
            refine g_tswI (pc := 33) X 2 (tgt := 282) dL_law_33 c46 (by decide) (by decide) rfl rfl ?_
            refine g_aload_n (pc := 282) X 0 rfl dL_law_282 ?_
            refine g_aload_nS (pc := 283) X 3 rfl dL_law_283 ?_
            refine g_iload_n (pc := 284) X 2 rfl dL_law_284 ?_
            refine g_iconst (pc := 285) X (v := 1) dL_law_285 rfl ?_
            refine g_iadd (pc := 286) X dL_law_286 ?_
            obtain ⟨k47, h⟩ := gd_i h
            refine g_sld (pc := 287) X S k47 dL_law_287 ?_
            refine g_aload_nS (pc := 288) X 3 rfl dL_law_288 ?_
            refine g_iload_n (pc := 289) X 2 rfl dL_law_289 ?_
            refine g_iconst (pc := 290) X (v := 2) dL_law_290 rfl ?_
            refine g_iadd (pc := 291) X dL_law_291 ?_
            obtain ⟨k48, h⟩ := gd_i h
            refine g_sld (pc := 292) X S k48 dL_law_292 ?_
            obtain ⟨k49, h⟩ := gd_i h
            obtain ⟨r50, w51, h52, h⟩ := bd2_i h
            refine g_callV (pc := 293) X FcX8 k49 mk_X8_told q_403 q_404 q_402 (c_X8_told h52) rfl rfl (by rw [Y.2.1]; decide)  rfl (rest := []) rfl (Nat.le_of_ble_eq_true rfl) ⟨lw_c Y.2.1 (by omega), lw_s Y.2.1 (by omega)⟩ dL_law_293 (st' := [.int r50]) rfl ?_
            refine g_aload_n (pc := 296) X 1 rfl dL_law_296 ?_
            refine g_aload_nS (pc := 297) X 3 rfl dL_law_297 ?_
            refine g_iload_n (pc := 298) X 2 rfl dL_law_298 ?_
            refine g_iconst (pc := 299) X (v := 1) dL_law_299 rfl ?_
            refine g_iadd (pc := 300) X dL_law_300 ?_
            obtain ⟨k53, h⟩ := gd_i h
            refine g_sld (pc := 301) X S k53 dL_law_301 ?_
            refine g_aload_nS (pc := 302) X 3 rfl dL_law_302 ?_
            refine g_iload_n (pc := 303) X 2 rfl dL_law_303 ?_
            refine g_iconst (pc := 304) X (v := 2) dL_law_304 rfl ?_
            refine g_iadd (pc := 305) X dL_law_305 ?_
            obtain ⟨k54, h⟩ := gd_i h
            refine g_sld (pc := 306) X S k54 dL_law_306 ?_
            obtain ⟨k55, h⟩ := gd_i h
            obtain ⟨r56, w57, h58, h⟩ := bd2_i h
            refine g_callV (pc := 307) X FcX9 k55 mk_X9_told q_1158 q_1159 q_1157 (c_X9_told h58) rfl rfl (by rw [Y.2.1]; decide)  rfl (rest := [.int r50]) rfl (Nat.le_of_ble_eq_true rfl) ⟨lw_c Y.2.1 (by omega), lw_s Y.2.1 (by omega)⟩ dL_law_307 (st' := [.int r56, .int r50]) rfl ?_
            refine g_icmp_eq (pc := 310) X (tgt := 1392) dL_law_310 rfl (fun c => ?_) (fun c => ?_)
            · have h := br_y c h
              obtain ⟨x59, e60, h⟩ := lb_i h
              refine g_iinc (pc := 1392) X 2 rfl dL_law_1392 (v := x59) e60.symm (by decide) (lv' := [(3, .int x59), (1, rf V v1), (2, rf V v2), (0, .ref b)]) rfl ?_
              refine g_goto (pc := 1395) X (tgt := 18) dL_law_1395 rfl ?_
              refine g_sub (lv' := [(1, rf V v1), (2, rf V v2), (3, .int x59), (0, .ref b)]) [1, 2, 0, 3] rfl ?_
              refine g_widen (ce' := ce + 10) (sl' := sl + 400) (by omega) (by omega) ?_
              exact ih (by omega) (by omega) h
            · have h := br_n c h
              refine g_iconst (pc := 313) X (v := 0) dL_law_313 rfl ?_
              exact absurd (rt_i h).1 (by decide)
          · have h := br_n c46 h
            by_cases c61 : ((xs (nx v3)) &&& 63) = 3
            · have h := br_y c61 h
              refine g_tswI (pc := 33) X 3 (tgt := 315) dL_law_33 c61 (by decide) (by decide) rfl rfl ?_
              refine g_aload_n (pc := 315) X 0 rfl dL_law_315 ?_
              refine g_aload_nS (pc := 316) X 3 rfl dL_law_316 ?_
              refine g_iload_n (pc := 317) X 2 rfl dL_law_317 ?_
              refine g_iconst (pc := 318) X (v := 1) dL_law_318 rfl ?_
              refine g_iadd (pc := 319) X dL_law_319 ?_
              obtain ⟨k62, h⟩ := gd_i h
              refine g_sld (pc := 320) X S k62 dL_law_320 ?_
              refine g_aload_nS (pc := 321) X 3 rfl dL_law_321 ?_
              refine g_iload_n (pc := 322) X 2 rfl dL_law_322 ?_
              refine g_iconst (pc := 323) X (v := 2) dL_law_323 rfl ?_
              refine g_iadd (pc := 324) X dL_law_324 ?_
              obtain ⟨k63, h⟩ := gd_i h
              refine g_sld (pc := 325) X S k63 dL_law_325 ?_
              obtain ⟨k64, h⟩ := gd_i h
              obtain ⟨r65, w66, h67, h⟩ := bd2_i h
              refine g_callV (pc := 326) X FcX8 k64 mk_X8_as q_460 q_461 q_459 (c_X8_as h67) rfl rfl (by rw [Y.2.1]; decide)  rfl (rest := []) rfl (Nat.le_of_ble_eq_true rfl) ⟨lw_c Y.2.1 (by omega), lw_s Y.2.1 (by omega)⟩ dL_law_326 (st' := [.int r65]) rfl ?_
              refine g_aload_n (pc := 329) X 1 rfl dL_law_329 ?_
              refine g_aload_nS (pc := 330) X 3 rfl dL_law_330 ?_
              refine g_iload_n (pc := 331) X 2 rfl dL_law_331 ?_
              refine g_iconst (pc := 332) X (v := 1) dL_law_332 rfl ?_
              refine g_iadd (pc := 333) X dL_law_333 ?_
              obtain ⟨k68, h⟩ := gd_i h
              refine g_sld (pc := 334) X S k68 dL_law_334 ?_
              refine g_aload_nS (pc := 335) X 3 rfl dL_law_335 ?_
              refine g_iload_n (pc := 336) X 2 rfl dL_law_336 ?_
              refine g_iconst (pc := 337) X (v := 2) dL_law_337 rfl ?_
              refine g_iadd (pc := 338) X dL_law_338 ?_
              obtain ⟨k69, h⟩ := gd_i h
              refine g_sld (pc := 339) X S k69 dL_law_339 ?_
              obtain ⟨k70, h⟩ := gd_i h
              obtain ⟨r71, w72, h73, h⟩ := bd2_i h
              refine g_callV (pc := 340) X FcX9 k70 mk_X9_as q_1208 q_1209 q_1207 (c_X9_as h73) rfl rfl (by rw [Y.2.1]; decide)  rfl (rest := [.int r65]) rfl (Nat.le_of_ble_eq_true rfl) ⟨lw_c Y.2.1 (by omega), lw_s Y.2.1 (by omega)⟩ dL_law_340 (st' := [.int r71, .int r65]) rfl ?_
              refine g_icmp_eq (pc := 343) X (tgt := 1392) dL_law_343 rfl (fun c => ?_) (fun c => ?_)
              · have h := br_y c h
                obtain ⟨x74, e75, h⟩ := lb_i h
                refine g_iinc (pc := 1392) X 2 rfl dL_law_1392 (v := x74) e75.symm (by decide) (lv' := [(3, .int x74), (1, rf V v1), (2, rf V v2), (0, .ref b)]) rfl ?_
                refine g_goto (pc := 1395) X (tgt := 18) dL_law_1395 rfl ?_
                refine g_sub (lv' := [(1, rf V v1), (2, rf V v2), (3, .int x74), (0, .ref b)]) [1, 2, 0, 3] rfl ?_
                refine g_widen (ce' := ce + 10) (sl' := sl + 400) (by omega) (by omega) ?_
                exact ih (by omega) (by omega) h
              · have h := br_n c h
                refine g_iconst (pc := 346) X (v := 0) dL_law_346 rfl ?_
                exact absurd (rt_i h).1 (by decide)
            · have h := br_n c61 h
              by_cases c76 : ((xs (nx v3)) &&& 63) = 4
              · have h := br_y c76 h
                refine g_tswI (pc := 33) X 4 (tgt := 348) dL_law_33 c76 (by decide) (by decide) rfl rfl ?_
                refine g_aload_n (pc := 348) X 0 rfl dL_law_348 ?_
                refine g_aload_nS (pc := 349) X 3 rfl dL_law_349 ?_
                refine g_iload_n (pc := 350) X 2 rfl dL_law_350 ?_
                refine g_iconst (pc := 351) X (v := 1) dL_law_351 rfl ?_
                refine g_iadd (pc := 352) X dL_law_352 ?_
                obtain ⟨k77, h⟩ := gd_i h
                refine g_sld (pc := 353) X S k77 dL_law_353 ?_
                refine g_aload_nS (pc := 354) X 3 rfl dL_law_354 ?_
                refine g_iload_n (pc := 355) X 2 rfl dL_law_355 ?_
                refine g_iconst (pc := 356) X (v := 2) dL_law_356 rfl ?_
                refine g_iadd (pc := 357) X dL_law_357 ?_
                obtain ⟨k78, h⟩ := gd_i h
                refine g_sld (pc := 358) X S k78 dL_law_358 ?_
                obtain ⟨k79, h⟩ := gd_i h
                obtain ⟨r80, w81, h82, h⟩ := bd2_i h
                refine g_callV (pc := 359) X FcX8 k79 mk_X8_turns q_466 q_467 q_465 (c_X8_turns h82) rfl rfl (by rw [Y.2.1]; decide)  rfl (rest := []) rfl (Nat.le_of_ble_eq_true rfl) ⟨lw_c Y.2.1 (by omega), lw_s Y.2.1 (by omega)⟩ dL_law_359 (st' := [.int r80]) rfl ?_
                refine g_aload_n (pc := 362) X 1 rfl dL_law_362 ?_
                refine g_aload_nS (pc := 363) X 3 rfl dL_law_363 ?_
                refine g_iload_n (pc := 364) X 2 rfl dL_law_364 ?_
                refine g_iconst (pc := 365) X (v := 1) dL_law_365 rfl ?_
                refine g_iadd (pc := 366) X dL_law_366 ?_
                obtain ⟨k83, h⟩ := gd_i h
                refine g_sld (pc := 367) X S k83 dL_law_367 ?_
                refine g_aload_nS (pc := 368) X 3 rfl dL_law_368 ?_
                refine g_iload_n (pc := 369) X 2 rfl dL_law_369 ?_
                refine g_iconst (pc := 370) X (v := 2) dL_law_370 rfl ?_
                refine g_iadd (pc := 371) X dL_law_371 ?_
                obtain ⟨k84, h⟩ := gd_i h
                refine g_sld (pc := 372) X S k84 dL_law_372 ?_
                obtain ⟨k85, h⟩ := gd_i h
                obtain ⟨r86, w87, h88, h⟩ := bd2_i h
                refine g_callV (pc := 373) X FcX9 k85 mk_X9_turns q_1216 q_1217 q_1215 (c_X9_turns h88) rfl rfl (by rw [Y.2.1]; decide)  rfl (rest := [.int r80]) rfl (Nat.le_of_ble_eq_true rfl) ⟨lw_c Y.2.1 (by omega), lw_s Y.2.1 (by omega)⟩ dL_law_373 (st' := [.int r86, .int r80]) rfl ?_
                refine g_icmp_eq (pc := 376) X (tgt := 1392) dL_law_376 rfl (fun c => ?_) (fun c => ?_)
                · have h := br_y c h
                  obtain ⟨x89, e90, h⟩ := lb_i h
                  refine g_iinc (pc := 1392) X 2 rfl dL_law_1392 (v := x89) e90.symm (by decide) (lv' := [(3, .int x89), (1, rf V v1), (2, rf V v2), (0, .ref b)]) rfl ?_
                  refine g_goto (pc := 1395) X (tgt := 18) dL_law_1395 rfl ?_
                  refine g_sub (lv' := [(1, rf V v1), (2, rf V v2), (3, .int x89), (0, .ref b)]) [1, 2, 0, 3] rfl ?_
                  refine g_widen (ce' := ce + 10) (sl' := sl + 400) (by omega) (by omega) ?_
                  exact ih (by omega) (by omega) h
                · have h := br_n c h
                  refine g_iconst (pc := 379) X (v := 0) dL_law_379 rfl ?_
                  exact absurd (rt_i h).1 (by decide)
              · have h := br_n c76 h
                by_cases c91 : ((xs (nx v3)) &&& 63) = 5
                · have h := br_y c91 h
                  refine g_tswI (pc := 33) X 5 (tgt := 381) dL_law_33 c91 (by decide) (by decide) rfl rfl ?_
                  refine g_aload_n (pc := 381) X 0 rfl dL_law_381 ?_
                  refine g_aload_nS (pc := 382) X 3 rfl dL_law_382 ?_
                  refine g_iload_n (pc := 383) X 2 rfl dL_law_383 ?_
                  refine g_iconst (pc := 384) X (v := 1) dL_law_384 rfl ?_
                  refine g_iadd (pc := 385) X dL_law_385 ?_
                  obtain ⟨k92, h⟩ := gd_i h
                  refine g_sld (pc := 386) X S k92 dL_law_386 ?_
                  refine g_aload_nS (pc := 387) X 3 rfl dL_law_387 ?_
                  refine g_iload_n (pc := 388) X 2 rfl dL_law_388 ?_
                  refine g_iconst (pc := 389) X (v := 2) dL_law_389 rfl ?_
                  refine g_iadd (pc := 390) X dL_law_390 ?_
                  obtain ⟨k93, h⟩ := gd_i h
                  refine g_sld (pc := 391) X S k93 dL_law_391 ?_
                  obtain ⟨k94, h⟩ := gd_i h
                  obtain ⟨r95, w96, h97, h⟩ := bd2_i h
                  refine g_callV (pc := 392) X FcX8 k94 mk_X8_sits q_472 q_473 q_471 (c_X8_sits h97) rfl rfl (by rw [Y.2.1]; decide)  rfl (rest := []) rfl (Nat.le_of_ble_eq_true rfl) ⟨lw_c Y.2.1 (by omega), lw_s Y.2.1 (by omega)⟩ dL_law_392 (st' := [.int r95]) rfl ?_
                  refine g_aload_n (pc := 395) X 1 rfl dL_law_395 ?_
                  refine g_aload_nS (pc := 396) X 3 rfl dL_law_396 ?_
                  refine g_iload_n (pc := 397) X 2 rfl dL_law_397 ?_
                  refine g_iconst (pc := 398) X (v := 1) dL_law_398 rfl ?_
                  refine g_iadd (pc := 399) X dL_law_399 ?_
                  obtain ⟨k98, h⟩ := gd_i h
                  refine g_sld (pc := 400) X S k98 dL_law_400 ?_
                  refine g_aload_nS (pc := 401) X 3 rfl dL_law_401 ?_
                  refine g_iload_n (pc := 402) X 2 rfl dL_law_402 ?_
                  refine g_iconst (pc := 403) X (v := 2) dL_law_403 rfl ?_
                  refine g_iadd (pc := 404) X dL_law_404 ?_
                  obtain ⟨k99, h⟩ := gd_i h
                  refine g_sld (pc := 405) X S k99 dL_law_405 ?_
                  obtain ⟨k100, h⟩ := gd_i h
                  obtain ⟨r101, w102, h103, h⟩ := bd2_i h
                  refine g_callV (pc := 406) X FcX9 k100 mk_X9_sits q_1225 q_1226 q_1224 (c_X9_sits h103) rfl rfl (by rw [Y.2.1]; decide)  rfl (rest := [.int r95]) rfl (Nat.le_of_ble_eq_true rfl) ⟨lw_c Y.2.1 (by omega), lw_s Y.2.1 (by omega)⟩ dL_law_406 (st' := [.int r101, .int r95]) rfl ?_
                  refine g_icmp_eq (pc := 409) X (tgt := 1392) dL_law_409 rfl (fun c => ?_) (fun c => ?_)
                  · have h := br_y c h
                    obtain ⟨x104, e105, h⟩ := lb_i h
                    refine g_iinc (pc := 1392) X 2 rfl dL_law_1392 (v := x104) e105.symm (by decide) (lv' := [(3, .int x104), (1, rf V v1), (2, rf V v2), (0, .ref b)]) rfl ?_
                    refine g_goto (pc := 1395) X (tgt := 18) dL_law_1395 rfl ?_
                    refine g_sub (lv' := [(1, rf V v1), (2, rf V v2), (3, .int x104), (0, .ref b)]) [1, 2, 0, 3] rfl ?_
                    refine g_widen (ce' := ce + 10) (sl' := sl + 400) (by omega) (by omega) ?_
                    exact ih (by omega) (by omega) h
                  · have h := br_n c h
                    refine g_iconst (pc := 412) X (v := 0) dL_law_412 rfl ?_
                    exact absurd (rt_i h).1 (by decide)
                · have h := br_n c91 h
                  by_cases c106 : ((xs (nx v3)) &&& 63) = 6
                  · have h := br_y c106 h
                    refine g_tswI (pc := 33) X 6 (tgt := 414) dL_law_33 c106 (by decide) (by decide) rfl rfl ?_
                    refine g_aload_n (pc := 414) X 0 rfl dL_law_414 ?_
                    refine g_aload_nS (pc := 415) X 3 rfl dL_law_415 ?_
                    refine g_iload_n (pc := 416) X 2 rfl dL_law_416 ?_
                    refine g_iconst (pc := 417) X (v := 1) dL_law_417 rfl ?_
                    refine g_iadd (pc := 418) X dL_law_418 ?_
                    obtain ⟨k107, h⟩ := gd_i h
                    refine g_sld (pc := 419) X S k107 dL_law_419 ?_
                    obtain ⟨k108, h⟩ := gd_i h
                    obtain ⟨r109, w110, h111, h⟩ := bd2_i h
                    refine g_callV (pc := 420) X FcX8 k108 mk_X8_rises q_509 q_510 q_508 (c_X8_rises h111) rfl rfl (by rw [Y.2.1]; decide)  rfl (rest := []) rfl (Nat.le_of_ble_eq_true rfl) ⟨lw_c Y.2.1 (by omega), lw_s Y.2.1 (by omega)⟩ dL_law_420 (st' := [.int r109]) rfl ?_
                    refine g_aload_n (pc := 423) X 1 rfl dL_law_423 ?_
                    refine g_aload_nS (pc := 424) X 3 rfl dL_law_424 ?_
                    refine g_iload_n (pc := 425) X 2 rfl dL_law_425 ?_
                    refine g_iconst (pc := 426) X (v := 1) dL_law_426 rfl ?_
                    refine g_iadd (pc := 427) X dL_law_427 ?_
                    obtain ⟨k112, h⟩ := gd_i h
                    refine g_sld (pc := 428) X S k112 dL_law_428 ?_
                    obtain ⟨k113, h⟩ := gd_i h
                    obtain ⟨r114, w115, h116, h⟩ := bd2_i h
                    refine g_callV (pc := 429) X FcX9 k113 mk_X9_rises q_1251 q_1252 q_1250 (c_X9_rises h116) rfl rfl (by rw [Y.2.1]; decide)  rfl (rest := [.int r109]) rfl (Nat.le_of_ble_eq_true rfl) ⟨lw_c Y.2.1 (by omega), lw_s Y.2.1 (by omega)⟩ dL_law_429 (st' := [.int r114, .int r109]) rfl ?_
                    refine g_icmp_eq (pc := 432) X (tgt := 1392) dL_law_432 rfl (fun c => ?_) (fun c => ?_)
                    · have h := br_y c h
                      obtain ⟨x117, e118, h⟩ := lb_i h
                      refine g_iinc (pc := 1392) X 2 rfl dL_law_1392 (v := x117) e118.symm (by decide) (lv' := [(3, .int x117), (1, rf V v1), (2, rf V v2), (0, .ref b)]) rfl ?_
                      refine g_goto (pc := 1395) X (tgt := 18) dL_law_1395 rfl ?_
                      refine g_sub (lv' := [(1, rf V v1), (2, rf V v2), (3, .int x117), (0, .ref b)]) [1, 2, 0, 3] rfl ?_
                      refine g_widen (ce' := ce + 10) (sl' := sl + 400) (by omega) (by omega) ?_
                      exact ih (by omega) (by omega) h
                    · have h := br_n c h
                      refine g_iconst (pc := 435) X (v := 0) dL_law_435 rfl ?_
                      exact absurd (rt_i h).1 (by decide)
                  · have h := br_n c106 h
                    by_cases c119 : ((xs (nx v3)) &&& 63) = 7
                    · have h := br_y c119 h
                      refine g_tswI (pc := 33) X 7 (tgt := 437) dL_law_33 c119 (by decide) (by decide) rfl rfl ?_
                      refine g_aload_n (pc := 437) X 0 rfl dL_law_437 ?_
                      refine g_aload_nS (pc := 438) X 3 rfl dL_law_438 ?_
                      refine g_iload_n (pc := 439) X 2 rfl dL_law_439 ?_
                      refine g_iconst (pc := 440) X (v := 1) dL_law_440 rfl ?_
                      refine g_iadd (pc := 441) X dL_law_441 ?_
                      obtain ⟨k120, h⟩ := gd_i h
                      refine g_sld (pc := 442) X S k120 dL_law_442 ?_
                      obtain ⟨k121, h⟩ := gd_i h
                      obtain ⟨r122, w123, h124, h⟩ := bd2_i h
                      refine g_callV (pc := 443) X FcX8 k121 mk_X8_who q_513 q_514 q_512 (c_X8_who h124) rfl rfl (by rw [Y.2.1]; decide)  rfl (rest := []) rfl (Nat.le_of_ble_eq_true rfl) ⟨lw_c Y.2.1 (by omega), lw_s Y.2.1 (by omega)⟩ dL_law_443 (st' := [.int r122]) rfl ?_
                      refine g_aload_n (pc := 446) X 1 rfl dL_law_446 ?_
                      refine g_aload_nS (pc := 447) X 3 rfl dL_law_447 ?_
                      refine g_iload_n (pc := 448) X 2 rfl dL_law_448 ?_
                      refine g_iconst (pc := 449) X (v := 1) dL_law_449 rfl ?_
                      refine g_iadd (pc := 450) X dL_law_450 ?_
                      obtain ⟨k125, h⟩ := gd_i h
                      refine g_sld (pc := 451) X S k125 dL_law_451 ?_
                      obtain ⟨k126, h⟩ := gd_i h
                      obtain ⟨r127, w128, h129, h⟩ := bd2_i h
                      refine g_callV (pc := 452) X FcX9 k126 mk_X9_who q_1255 q_1256 q_1254 (c_X9_who h129) rfl rfl (by rw [Y.2.1]; decide)  rfl (rest := [.int r122]) rfl (Nat.le_of_ble_eq_true rfl) ⟨lw_c Y.2.1 (by omega), lw_s Y.2.1 (by omega)⟩ dL_law_452 (st' := [.int r127, .int r122]) rfl ?_
                      refine g_icmp_eq (pc := 455) X (tgt := 1392) dL_law_455 rfl (fun c => ?_) (fun c => ?_)
                      · have h := br_y c h
                        obtain ⟨x130, e131, h⟩ := lb_i h
                        refine g_iinc (pc := 1392) X 2 rfl dL_law_1392 (v := x130) e131.symm (by decide) (lv' := [(3, .int x130), (1, rf V v1), (2, rf V v2), (0, .ref b)]) rfl ?_
                        refine g_goto (pc := 1395) X (tgt := 18) dL_law_1395 rfl ?_
                        refine g_sub (lv' := [(1, rf V v1), (2, rf V v2), (3, .int x130), (0, .ref b)]) [1, 2, 0, 3] rfl ?_
                        refine g_widen (ce' := ce + 10) (sl' := sl + 400) (by omega) (by omega) ?_
                        exact ih (by omega) (by omega) h
                      · have h := br_n c h
                        refine g_iconst (pc := 458) X (v := 0) dL_law_458 rfl ?_
                        exact absurd (rt_i h).1 (by decide)
                    · have h := br_n c119 h
                      by_cases c132 : ((xs (nx v3)) &&& 63) = 8
                      · have h := br_y c132 h
                        refine g_tswI (pc := 33) X 8 (tgt := 460) dL_law_33 c132 (by decide) (by decide) rfl rfl ?_
                        refine g_aload_n (pc := 460) X 0 rfl dL_law_460 ?_
                        refine g_aload_nS (pc := 461) X 3 rfl dL_law_461 ?_
                        refine g_iload_n (pc := 462) X 2 rfl dL_law_462 ?_
                        refine g_iconst (pc := 463) X (v := 1) dL_law_463 rfl ?_
                        refine g_iadd (pc := 464) X dL_law_464 ?_
                        obtain ⟨k133, h⟩ := gd_i h
                        refine g_sld (pc := 465) X S k133 dL_law_465 ?_
                        refine g_aload_nS (pc := 466) X 3 rfl dL_law_466 ?_
                        refine g_iload_n (pc := 467) X 2 rfl dL_law_467 ?_
                        refine g_iconst (pc := 468) X (v := 2) dL_law_468 rfl ?_
                        refine g_iadd (pc := 469) X dL_law_469 ?_
                        obtain ⟨k134, h⟩ := gd_i h
                        refine g_sld (pc := 470) X S k134 dL_law_470 ?_
                        obtain ⟨k135, h⟩ := gd_i h
                        obtain ⟨r136, w137, h138, h⟩ := bd2_i h
                        refine g_callV (pc := 471) X FcX8 k135 mk_X8_cushion q_518 q_519 q_517 (c_X8_cushion h138) rfl rfl (by rw [Y.2.1]; decide)  rfl (rest := []) rfl (Nat.le_of_ble_eq_true rfl) ⟨lw_c Y.2.1 (by omega), lw_s Y.2.1 (by omega)⟩ dL_law_471 (st' := [.int r136]) rfl ?_
                        refine g_aload_n (pc := 474) X 1 rfl dL_law_474 ?_
                        refine g_aload_nS (pc := 475) X 3 rfl dL_law_475 ?_
                        refine g_iload_n (pc := 476) X 2 rfl dL_law_476 ?_
                        refine g_iconst (pc := 477) X (v := 1) dL_law_477 rfl ?_
                        refine g_iadd (pc := 478) X dL_law_478 ?_
                        obtain ⟨k139, h⟩ := gd_i h
                        refine g_sld (pc := 479) X S k139 dL_law_479 ?_
                        refine g_aload_nS (pc := 480) X 3 rfl dL_law_480 ?_
                        refine g_iload_n (pc := 481) X 2 rfl dL_law_481 ?_
                        refine g_iconst (pc := 482) X (v := 2) dL_law_482 rfl ?_
                        refine g_iadd (pc := 483) X dL_law_483 ?_
                        obtain ⟨k140, h⟩ := gd_i h
                        refine g_sld (pc := 484) X S k140 dL_law_484 ?_
                        obtain ⟨k141, h⟩ := gd_i h
                        obtain ⟨r142, w143, h144, h⟩ := bd2_i h
                        refine g_callV (pc := 485) X FcX9 k141 mk_X9_cushion q_1263 q_1264 q_1262 (c_X9_cushion h144) rfl rfl (by rw [Y.2.1]; decide)  rfl (rest := [.int r136]) rfl (Nat.le_of_ble_eq_true rfl) ⟨lw_c Y.2.1 (by omega), lw_s Y.2.1 (by omega)⟩ dL_law_485 (st' := [.int r142, .int r136]) rfl ?_
                        refine g_icmp_eq (pc := 488) X (tgt := 1392) dL_law_488 rfl (fun c => ?_) (fun c => ?_)
                        · have h := br_y c h
                          obtain ⟨x145, e146, h⟩ := lb_i h
                          refine g_iinc (pc := 1392) X 2 rfl dL_law_1392 (v := x145) e146.symm (by decide) (lv' := [(3, .int x145), (1, rf V v1), (2, rf V v2), (0, .ref b)]) rfl ?_
                          refine g_goto (pc := 1395) X (tgt := 18) dL_law_1395 rfl ?_
                          refine g_sub (lv' := [(1, rf V v1), (2, rf V v2), (3, .int x145), (0, .ref b)]) [1, 2, 0, 3] rfl ?_
                          refine g_widen (ce' := ce + 10) (sl' := sl + 400) (by omega) (by omega) ?_
                          exact ih (by omega) (by omega) h
                        · have h := br_n c h
                          refine g_iconst (pc := 491) X (v := 0) dL_law_491 rfl ?_
                          exact absurd (rt_i h).1 (by decide)
                      · have h := br_n c132 h
                        by_cases c147 : ((xs (nx v3)) &&& 63) = 9
                        · have h := br_y c147 h
                          refine g_tswI (pc := 33) X 9 (tgt := 493) dL_law_33 c147 (by decide) (by decide) rfl rfl ?_
                          refine g_aload_n (pc := 493) X 0 rfl dL_law_493 ?_
                          refine g_aload_nS (pc := 494) X 3 rfl dL_law_494 ?_
                          refine g_iload_n (pc := 495) X 2 rfl dL_law_495 ?_
                          refine g_iconst (pc := 496) X (v := 1) dL_law_496 rfl ?_
                          refine g_iadd (pc := 497) X dL_law_497 ?_
                          obtain ⟨k148, h⟩ := gd_i h
                          refine g_sld (pc := 498) X S k148 dL_law_498 ?_
                          refine g_aload_nS (pc := 499) X 3 rfl dL_law_499 ?_
                          refine g_iload_n (pc := 500) X 2 rfl dL_law_500 ?_
                          refine g_iconst (pc := 501) X (v := 2) dL_law_501 rfl ?_
                          refine g_iadd (pc := 502) X dL_law_502 ?_
                          obtain ⟨k149, h⟩ := gd_i h
                          refine g_sld (pc := 503) X S k149 dL_law_503 ?_
                          obtain ⟨k150, h⟩ := gd_i h
                          obtain ⟨r151, w152, h153, h⟩ := bd2_i h
                          refine g_callV (pc := 504) X FcX8 k150 mk_X8_rule q_522 q_523 q_521 (c_X8_rule h153) rfl rfl (by rw [Y.2.1]; decide)  rfl (rest := []) rfl (Nat.le_of_ble_eq_true rfl) ⟨lw_c Y.2.1 (by omega), lw_s Y.2.1 (by omega)⟩ dL_law_504 (st' := [.int r151]) rfl ?_
                          refine g_aload_n (pc := 507) X 1 rfl dL_law_507 ?_
                          refine g_aload_nS (pc := 508) X 3 rfl dL_law_508 ?_
                          refine g_iload_n (pc := 509) X 2 rfl dL_law_509 ?_
                          refine g_iconst (pc := 510) X (v := 1) dL_law_510 rfl ?_
                          refine g_iadd (pc := 511) X dL_law_511 ?_
                          obtain ⟨k154, h⟩ := gd_i h
                          refine g_sld (pc := 512) X S k154 dL_law_512 ?_
                          refine g_aload_nS (pc := 513) X 3 rfl dL_law_513 ?_
                          refine g_iload_n (pc := 514) X 2 rfl dL_law_514 ?_
                          refine g_iconst (pc := 515) X (v := 2) dL_law_515 rfl ?_
                          refine g_iadd (pc := 516) X dL_law_516 ?_
                          obtain ⟨k155, h⟩ := gd_i h
                          refine g_sld (pc := 517) X S k155 dL_law_517 ?_
                          obtain ⟨k156, h⟩ := gd_i h
                          obtain ⟨r157, w158, h159, h⟩ := bd2_i h
                          refine g_callV (pc := 518) X FcX9 k156 mk_X9_rule q_1267 q_1268 q_1266 (c_X9_rule h159) rfl rfl (by rw [Y.2.1]; decide)  rfl (rest := [.int r151]) rfl (Nat.le_of_ble_eq_true rfl) ⟨lw_c Y.2.1 (by omega), lw_s Y.2.1 (by omega)⟩ dL_law_518 (st' := [.int r157, .int r151]) rfl ?_
                          refine g_icmp_eq (pc := 521) X (tgt := 1392) dL_law_521 rfl (fun c => ?_) (fun c => ?_)
                          · have h := br_y c h
                            obtain ⟨x160, e161, h⟩ := lb_i h
                            refine g_iinc (pc := 1392) X 2 rfl dL_law_1392 (v := x160) e161.symm (by decide) (lv' := [(3, .int x160), (1, rf V v1), (2, rf V v2), (0, .ref b)]) rfl ?_
                            refine g_goto (pc := 1395) X (tgt := 18) dL_law_1395 rfl ?_
                            refine g_sub (lv' := [(1, rf V v1), (2, rf V v2), (3, .int x160), (0, .ref b)]) [1, 2, 0, 3] rfl ?_
                            refine g_widen (ce' := ce + 10) (sl' := sl + 400) (by omega) (by omega) ?_
                            exact ih (by omega) (by omega) h
                          · have h := br_n c h
                            refine g_iconst (pc := 524) X (v := 0) dL_law_524 rfl ?_
                            exact absurd (rt_i h).1 (by decide)
                        · have h := br_n c147 h
                          by_cases c162 : ((xs (nx v3)) &&& 63) = 10
                          · have h := br_y c162 h
                            refine g_tswI (pc := 33) X 10 (tgt := 526) dL_law_33 c162 (by decide) (by decide) rfl rfl ?_
                            refine g_aload_n (pc := 526) X 0 rfl dL_law_526 ?_
                            refine g_aload_nS (pc := 527) X 3 rfl dL_law_527 ?_
                            refine g_iload_n (pc := 528) X 2 rfl dL_law_528 ?_
                            refine g_iconst (pc := 529) X (v := 1) dL_law_529 rfl ?_
                            refine g_iadd (pc := 530) X dL_law_530 ?_
                            obtain ⟨k163, h⟩ := gd_i h
                            refine g_sld (pc := 531) X S k163 dL_law_531 ?_
                            obtain ⟨k164, h⟩ := gd_i h
                            obtain ⟨r165, w166, h167, h⟩ := bd2_i h
                            refine g_callV (pc := 532) X FcX8 k164 mk_X8_deal q_528 q_529 q_527 (c_X8_deal h167) rfl rfl (by rw [Y.2.1]; decide)  rfl (rest := []) rfl (Nat.le_of_ble_eq_true rfl) ⟨lw_c Y.2.1 (by omega), lw_s Y.2.1 (by omega)⟩ dL_law_532 (st' := [.int r165]) rfl ?_
                            refine g_aload_n (pc := 535) X 1 rfl dL_law_535 ?_
                            refine g_aload_nS (pc := 536) X 3 rfl dL_law_536 ?_
                            refine g_iload_n (pc := 537) X 2 rfl dL_law_537 ?_
                            refine g_iconst (pc := 538) X (v := 1) dL_law_538 rfl ?_
                            refine g_iadd (pc := 539) X dL_law_539 ?_
                            obtain ⟨k168, h⟩ := gd_i h
                            refine g_sld (pc := 540) X S k168 dL_law_540 ?_
                            obtain ⟨k169, h⟩ := gd_i h
                            obtain ⟨r170, w171, h172, h⟩ := bd2_i h
                            refine g_callV (pc := 541) X FcX9 k169 mk_X9_deal q_1271 q_1272 q_1270 (c_X9_deal h172) rfl rfl (by rw [Y.2.1]; decide)  rfl (rest := [.int r165]) rfl (Nat.le_of_ble_eq_true rfl) ⟨lw_c Y.2.1 (by omega), lw_s Y.2.1 (by omega)⟩ dL_law_541 (st' := [.int r170, .int r165]) rfl ?_
                            refine g_icmp_eq (pc := 544) X (tgt := 1392) dL_law_544 rfl (fun c => ?_) (fun c => ?_)
                            · have h := br_y c h
                              obtain ⟨x173, e174, h⟩ := lb_i h
                              refine g_iinc (pc := 1392) X 2 rfl dL_law_1392 (v := x173) e174.symm (by decide) (lv' := [(3, .int x173), (1, rf V v1), (2, rf V v2), (0, .ref b)]) rfl ?_
                              refine g_goto (pc := 1395) X (tgt := 18) dL_law_1395 rfl ?_
                              refine g_sub (lv' := [(1, rf V v1), (2, rf V v2), (3, .int x173), (0, .ref b)]) [1, 2, 0, 3] rfl ?_
                              refine g_widen (ce' := ce + 10) (sl' := sl + 400) (by omega) (by omega) ?_
                              exact ih (by omega) (by omega) h
                            · have h := br_n c h
                              refine g_iconst (pc := 547) X (v := 0) dL_law_547 rfl ?_
                              exact absurd (rt_i h).1 (by decide)
                          · have h := br_n c162 h
                            by_cases c175 : ((xs (nx v3)) &&& 63) = 11
                            · have h := br_y c175 h
                              refine g_tswI (pc := 33) X 11 (tgt := 549) dL_law_33 c175 (by decide) (by decide) rfl rfl ?_
                              refine g_aload_n (pc := 549) X 0 rfl dL_law_549 ?_
                              refine g_aload_nS (pc := 550) X 3 rfl dL_law_550 ?_
                              refine g_iload_n (pc := 551) X 2 rfl dL_law_551 ?_
                              refine g_iconst (pc := 552) X (v := 1) dL_law_552 rfl ?_
                              refine g_iadd (pc := 553) X dL_law_553 ?_
                              obtain ⟨k176, h⟩ := gd_i h
                              refine g_sld (pc := 554) X S k176 dL_law_554 ?_
                              obtain ⟨k177, h⟩ := gd_i h
                              obtain ⟨r178, w179, h180, h⟩ := bd2_i h
                              refine g_callV (pc := 555) X FcX8 k177 mk_X8_seed q_540 q_541 q_539 (c_X8_seed h180) rfl rfl (by rw [Y.2.1]; decide)  rfl (rest := []) rfl (Nat.le_of_ble_eq_true rfl) ⟨lw_c Y.2.1 (by omega), lw_s Y.2.1 (by omega)⟩ dL_law_555 (st' := [.int r178]) rfl ?_
                              refine g_aload_n (pc := 558) X 1 rfl dL_law_558 ?_
                              refine g_aload_nS (pc := 559) X 3 rfl dL_law_559 ?_
                              refine g_iload_n (pc := 560) X 2 rfl dL_law_560 ?_
                              refine g_iconst (pc := 561) X (v := 1) dL_law_561 rfl ?_
                              refine g_iadd (pc := 562) X dL_law_562 ?_
                              obtain ⟨k181, h⟩ := gd_i h
                              refine g_sld (pc := 563) X S k181 dL_law_563 ?_
                              obtain ⟨k182, h⟩ := gd_i h
                              obtain ⟨r183, w184, h185, h⟩ := bd2_i h
                              refine g_callV (pc := 564) X FcX9 k182 mk_X9_seed q_1280 q_1281 q_1279 (c_X9_seed h185) rfl rfl (by rw [Y.2.1]; decide)  rfl (rest := [.int r178]) rfl (Nat.le_of_ble_eq_true rfl) ⟨lw_c Y.2.1 (by omega), lw_s Y.2.1 (by omega)⟩ dL_law_564 (st' := [.int r183, .int r178]) rfl ?_
                              refine g_icmp_eq (pc := 567) X (tgt := 1392) dL_law_567 rfl (fun c => ?_) (fun c => ?_)
                              · have h := br_y c h
                                obtain ⟨x186, e187, h⟩ := lb_i h
                                refine g_iinc (pc := 1392) X 2 rfl dL_law_1392 (v := x186) e187.symm (by decide) (lv' := [(3, .int x186), (1, rf V v1), (2, rf V v2), (0, .ref b)]) rfl ?_
                                refine g_goto (pc := 1395) X (tgt := 18) dL_law_1395 rfl ?_
                                refine g_sub (lv' := [(1, rf V v1), (2, rf V v2), (3, .int x186), (0, .ref b)]) [1, 2, 0, 3] rfl ?_
                                refine g_widen (ce' := ce + 10) (sl' := sl + 400) (by omega) (by omega) ?_
                                exact ih (by omega) (by omega) h
                              · have h := br_n c h
                                refine g_iconst (pc := 570) X (v := 0) dL_law_570 rfl ?_
                                exact absurd (rt_i h).1 (by decide)
                            · have h := br_n c175 h
                              by_cases c188 : ((xs (nx v3)) &&& 63) = 12
                              · have h := br_y c188 h
                                refine g_tswI (pc := 33) X 12 (tgt := 572) dL_law_33 c188 (by decide) (by decide) rfl rfl ?_
                                refine g_aload_n (pc := 572) X 0 rfl dL_law_572 ?_
                                refine g_aload_nS (pc := 573) X 3 rfl dL_law_573 ?_
                                refine g_iload_n (pc := 574) X 2 rfl dL_law_574 ?_
                                refine g_iconst (pc := 575) X (v := 1) dL_law_575 rfl ?_
                                refine g_iadd (pc := 576) X dL_law_576 ?_
                                obtain ⟨k189, h⟩ := gd_i h
                                refine g_sld (pc := 577) X S k189 dL_law_577 ?_
                                obtain ⟨k190, h⟩ := gd_i h
                                obtain ⟨r191, w192, h193, h⟩ := bd2_i h
                                refine g_callV (pc := 578) X FcX8 k190 mk_X8_minutes q_544 q_545 q_543 (c_X8_minutes h193) rfl rfl (by rw [Y.2.1]; decide)  rfl (rest := []) rfl (Nat.le_of_ble_eq_true rfl) ⟨lw_c Y.2.1 (by omega), lw_s Y.2.1 (by omega)⟩ dL_law_578 (st' := [.int r191]) rfl ?_
                                refine g_aload_n (pc := 581) X 1 rfl dL_law_581 ?_
                                refine g_aload_nS (pc := 582) X 3 rfl dL_law_582 ?_
                                refine g_iload_n (pc := 583) X 2 rfl dL_law_583 ?_
                                refine g_iconst (pc := 584) X (v := 1) dL_law_584 rfl ?_
                                refine g_iadd (pc := 585) X dL_law_585 ?_
                                obtain ⟨k194, h⟩ := gd_i h
                                refine g_sld (pc := 586) X S k194 dL_law_586 ?_
                                obtain ⟨k195, h⟩ := gd_i h
                                obtain ⟨r196, w197, h198, h⟩ := bd2_i h
                                refine g_callV (pc := 587) X FcX9 k195 mk_X9_minutes q_1284 q_1285 q_1283 (c_X9_minutes h198) rfl rfl (by rw [Y.2.1]; decide)  rfl (rest := [.int r191]) rfl (Nat.le_of_ble_eq_true rfl) ⟨lw_c Y.2.1 (by omega), lw_s Y.2.1 (by omega)⟩ dL_law_587 (st' := [.int r196, .int r191]) rfl ?_
                                refine g_icmp_eq (pc := 590) X (tgt := 1392) dL_law_590 rfl (fun c => ?_) (fun c => ?_)
                                · have h := br_y c h
                                  obtain ⟨x199, e200, h⟩ := lb_i h
                                  refine g_iinc (pc := 1392) X 2 rfl dL_law_1392 (v := x199) e200.symm (by decide) (lv' := [(3, .int x199), (1, rf V v1), (2, rf V v2), (0, .ref b)]) rfl ?_
                                  refine g_goto (pc := 1395) X (tgt := 18) dL_law_1395 rfl ?_
                                  refine g_sub (lv' := [(1, rf V v1), (2, rf V v2), (3, .int x199), (0, .ref b)]) [1, 2, 0, 3] rfl ?_
                                  refine g_widen (ce' := ce + 10) (sl' := sl + 400) (by omega) (by omega) ?_
                                  exact ih (by omega) (by omega) h
                                · have h := br_n c h
                                  refine g_iconst (pc := 593) X (v := 0) dL_law_593 rfl ?_
                                  exact absurd (rt_i h).1 (by decide)
                              · have h := br_n c188 h
                                by_cases c201 : ((xs (nx v3)) &&& 63) = 13
                                · have h := br_y c201 h
                                  refine g_tswI (pc := 33) X 13 (tgt := 595) dL_law_33 c201 (by decide) (by decide) rfl rfl ?_
                                  refine g_aload_n (pc := 595) X 0 rfl dL_law_595 ?_
                                  refine g_aload_nS (pc := 596) X 3 rfl dL_law_596 ?_
                                  refine g_iload_n (pc := 597) X 2 rfl dL_law_597 ?_
                                  refine g_iconst (pc := 598) X (v := 1) dL_law_598 rfl ?_
                                  refine g_iadd (pc := 599) X dL_law_599 ?_
                                  obtain ⟨k202, h⟩ := gd_i h
                                  refine g_sld (pc := 600) X S k202 dL_law_600 ?_
                                  obtain ⟨k203, h⟩ := gd_i h
                                  obtain ⟨r204, w205, h206, h⟩ := bd2_i h
                                  refine g_callV (pc := 601) X FcX8 k203 mk_X8_inn q_580 q_581 q_579 (c_X8_inn h206) rfl rfl (by rw [Y.2.1]; decide)  rfl (rest := []) rfl (Nat.le_of_ble_eq_true rfl) ⟨lw_c Y.2.1 (by omega), lw_s Y.2.1 (by omega)⟩ dL_law_601 (st' := [.int r204]) rfl ?_
                                  refine g_aload_n (pc := 604) X 1 rfl dL_law_604 ?_
                                  refine g_aload_nS (pc := 605) X 3 rfl dL_law_605 ?_
                                  refine g_iload_n (pc := 606) X 2 rfl dL_law_606 ?_
                                  refine g_iconst (pc := 607) X (v := 1) dL_law_607 rfl ?_
                                  refine g_iadd (pc := 608) X dL_law_608 ?_
                                  obtain ⟨k207, h⟩ := gd_i h
                                  refine g_sld (pc := 609) X S k207 dL_law_609 ?_
                                  obtain ⟨k208, h⟩ := gd_i h
                                  obtain ⟨r209, w210, h211, h⟩ := bd2_i h
                                  refine g_callV (pc := 610) X FcX9 k208 mk_X9_inn q_1310 q_1311 q_1309 (c_X9_inn h211) rfl rfl (by rw [Y.2.1]; decide)  rfl (rest := [.int r204]) rfl (Nat.le_of_ble_eq_true rfl) ⟨lw_c Y.2.1 (by omega), lw_s Y.2.1 (by omega)⟩ dL_law_610 (st' := [.int r209, .int r204]) rfl ?_
                                  refine g_icmp_eq (pc := 613) X (tgt := 1392) dL_law_613 rfl (fun c => ?_) (fun c => ?_)
                                  · have h := br_y c h
                                    obtain ⟨x212, e213, h⟩ := lb_i h
                                    refine g_iinc (pc := 1392) X 2 rfl dL_law_1392 (v := x212) e213.symm (by decide) (lv' := [(3, .int x212), (1, rf V v1), (2, rf V v2), (0, .ref b)]) rfl ?_
                                    refine g_goto (pc := 1395) X (tgt := 18) dL_law_1395 rfl ?_
                                    refine g_sub (lv' := [(1, rf V v1), (2, rf V v2), (3, .int x212), (0, .ref b)]) [1, 2, 0, 3] rfl ?_
                                    refine g_widen (ce' := ce + 10) (sl' := sl + 400) (by omega) (by omega) ?_
                                    exact ih (by omega) (by omega) h
                                  · have h := br_n c h
                                    refine g_iconst (pc := 616) X (v := 0) dL_law_616 rfl ?_
                                    exact absurd (rt_i h).1 (by decide)
                                · have h := br_n c201 h
                                  by_cases c214 : ((xs (nx v3)) &&& 63) = 14
                                  · have h := br_y c214 h
                                    refine g_tswI (pc := 33) X 14 (tgt := 618) dL_law_33 c214 (by decide) (by decide) rfl rfl ?_
                                    refine g_aload_n (pc := 618) X 0 rfl dL_law_618 ?_
                                    refine g_aload_nS (pc := 619) X 3 rfl dL_law_619 ?_
                                    refine g_iload_n (pc := 620) X 2 rfl dL_law_620 ?_
                                    refine g_iconst (pc := 621) X (v := 1) dL_law_621 rfl ?_
                                    refine g_iadd (pc := 622) X dL_law_622 ?_
                                    obtain ⟨k215, h⟩ := gd_i h
                                    refine g_sld (pc := 623) X S k215 dL_law_623 ?_
                                    obtain ⟨k216, h⟩ := gd_i h
                                    obtain ⟨r217, w218, h219, h⟩ := bd2_i h
                                    refine g_callV (pc := 624) X FcX8 k216 mk_X8_goes q_587 q_588 q_586 (c_X8_goes h219) rfl rfl (by rw [Y.2.1]; decide)  rfl (rest := []) rfl (Nat.le_of_ble_eq_true rfl) ⟨lw_c Y.2.1 (by omega), lw_s Y.2.1 (by omega)⟩ dL_law_624 (st' := [.int r217]) rfl ?_
                                    refine g_aload_n (pc := 627) X 1 rfl dL_law_627 ?_
                                    refine g_aload_nS (pc := 628) X 3 rfl dL_law_628 ?_
                                    refine g_iload_n (pc := 629) X 2 rfl dL_law_629 ?_
                                    refine g_iconst (pc := 630) X (v := 1) dL_law_630 rfl ?_
                                    refine g_iadd (pc := 631) X dL_law_631 ?_
                                    obtain ⟨k220, h⟩ := gd_i h
                                    refine g_sld (pc := 632) X S k220 dL_law_632 ?_
                                    obtain ⟨k221, h⟩ := gd_i h
                                    obtain ⟨r222, w223, h224, h⟩ := bd2_i h
                                    refine g_callV (pc := 633) X FcX9 k221 mk_X9_goes q_1314 q_1315 q_1313 (c_X9_goes h224) rfl rfl (by rw [Y.2.1]; decide)  rfl (rest := [.int r217]) rfl (Nat.le_of_ble_eq_true rfl) ⟨lw_c Y.2.1 (by omega), lw_s Y.2.1 (by omega)⟩ dL_law_633 (st' := [.int r222, .int r217]) rfl ?_
                                    refine g_icmp_eq (pc := 636) X (tgt := 1392) dL_law_636 rfl (fun c => ?_) (fun c => ?_)
                                    · have h := br_y c h
                                      obtain ⟨x225, e226, h⟩ := lb_i h
                                      refine g_iinc (pc := 1392) X 2 rfl dL_law_1392 (v := x225) e226.symm (by decide) (lv' := [(3, .int x225), (1, rf V v1), (2, rf V v2), (0, .ref b)]) rfl ?_
                                      refine g_goto (pc := 1395) X (tgt := 18) dL_law_1395 rfl ?_
                                      refine g_sub (lv' := [(1, rf V v1), (2, rf V v2), (3, .int x225), (0, .ref b)]) [1, 2, 0, 3] rfl ?_
                                      refine g_widen (ce' := ce + 10) (sl' := sl + 400) (by omega) (by omega) ?_
                                      exact ih (by omega) (by omega) h
                                    · have h := br_n c h
                                      refine g_iconst (pc := 639) X (v := 0) dL_law_639 rfl ?_
                                      exact absurd (rt_i h).1 (by decide)
                                  · have h := br_n c214 h
                                    by_cases c227 : ((xs (nx v3)) &&& 63) = 15
                                    · have h := br_y c227 h
                                      refine g_tswI (pc := 33) X 15 (tgt := 641) dL_law_33 c227 (by decide) (by decide) rfl rfl ?_
                                      refine g_aload_n (pc := 641) X 0 rfl dL_law_641 ?_
                                      refine g_aload_nS (pc := 642) X 3 rfl dL_law_642 ?_
                                      refine g_iload_n (pc := 643) X 2 rfl dL_law_643 ?_
                                      refine g_iconst (pc := 644) X (v := 1) dL_law_644 rfl ?_
                                      refine g_iadd (pc := 645) X dL_law_645 ?_
                                      obtain ⟨k228, h⟩ := gd_i h
                                      refine g_sld (pc := 646) X S k228 dL_law_646 ?_
                                      obtain ⟨k229, h⟩ := gd_i h
                                      obtain ⟨r230, w231, h232, h⟩ := bd2_i h
                                      refine g_callV (pc := 647) X FcX8 k229 mk_X8_game q_603 q_604 q_602 (c_X8_game h232) rfl rfl (by rw [Y.2.1]; decide)  rfl (rest := []) rfl (Nat.le_of_ble_eq_true rfl) ⟨lw_c Y.2.1 (by omega), lw_s Y.2.1 (by omega)⟩ dL_law_647 (st' := [.int r230]) rfl ?_
                                      refine g_aload_n (pc := 650) X 1 rfl dL_law_650 ?_
                                      refine g_aload_nS (pc := 651) X 3 rfl dL_law_651 ?_
                                      refine g_iload_n (pc := 652) X 2 rfl dL_law_652 ?_
                                      refine g_iconst (pc := 653) X (v := 1) dL_law_653 rfl ?_
                                      refine g_iadd (pc := 654) X dL_law_654 ?_
                                      obtain ⟨k233, h⟩ := gd_i h
                                      refine g_sld (pc := 655) X S k233 dL_law_655 ?_
                                      obtain ⟨k234, h⟩ := gd_i h
                                      obtain ⟨r235, w236, h237, h⟩ := bd2_i h
                                      refine g_callV (pc := 656) X FcX9 k234 mk_X9_game q_1331 q_1332 q_1330 (c_X9_game h237) rfl rfl (by rw [Y.2.1]; decide)  rfl (rest := [.int r230]) rfl (Nat.le_of_ble_eq_true rfl) ⟨lw_c Y.2.1 (by omega), lw_s Y.2.1 (by omega)⟩ dL_law_656 (st' := [.int r235, .int r230]) rfl ?_
                                      refine g_icmp_eq (pc := 659) X (tgt := 1392) dL_law_659 rfl (fun c => ?_) (fun c => ?_)
                                      · have h := br_y c h
                                        obtain ⟨x238, e239, h⟩ := lb_i h
                                        refine g_iinc (pc := 1392) X 2 rfl dL_law_1392 (v := x238) e239.symm (by decide) (lv' := [(3, .int x238), (1, rf V v1), (2, rf V v2), (0, .ref b)]) rfl ?_
                                        refine g_goto (pc := 1395) X (tgt := 18) dL_law_1395 rfl ?_
                                        refine g_sub (lv' := [(1, rf V v1), (2, rf V v2), (3, .int x238), (0, .ref b)]) [1, 2, 0, 3] rfl ?_
                                        refine g_widen (ce' := ce + 10) (sl' := sl + 400) (by omega) (by omega) ?_
                                        exact ih (by omega) (by omega) h
                                      · have h := br_n c h
                                        refine g_iconst (pc := 662) X (v := 0) dL_law_662 rfl ?_
                                        exact absurd (rt_i h).1 (by decide)
                                    · have h := br_n c227 h
                                      by_cases c240 : ((xs (nx v3)) &&& 63) = 16
                                      · have h := br_y c240 h
                                        refine g_tswI (pc := 33) X 16 (tgt := 664) dL_law_33 c240 (by decide) (by decide) rfl rfl ?_
                                        refine g_aload_n (pc := 664) X 0 rfl dL_law_664 ?_
                                        refine g_aload_nS (pc := 665) X 3 rfl dL_law_665 ?_
                                        refine g_iload_n (pc := 666) X 2 rfl dL_law_666 ?_
                                        refine g_iconst (pc := 667) X (v := 1) dL_law_667 rfl ?_
                                        refine g_iadd (pc := 668) X dL_law_668 ?_
                                        obtain ⟨k241, h⟩ := gd_i h
                                        refine g_sld (pc := 669) X S k241 dL_law_669 ?_
                                        obtain ⟨k242, h⟩ := gd_i h
                                        obtain ⟨r243, w244, h245, h⟩ := bd2_i h
                                        refine g_callV (pc := 670) X FcX8 k242 mk_X8_worthy q_612 q_613 q_611 (c_X8_worthy h245) rfl rfl (by rw [Y.2.1]; decide)  rfl (rest := []) rfl (Nat.le_of_ble_eq_true rfl) ⟨lw_c Y.2.1 (by omega), lw_s Y.2.1 (by omega)⟩ dL_law_670 (st' := [.int r243]) rfl ?_
                                        refine g_aload_n (pc := 673) X 1 rfl dL_law_673 ?_
                                        refine g_aload_nS (pc := 674) X 3 rfl dL_law_674 ?_
                                        refine g_iload_n (pc := 675) X 2 rfl dL_law_675 ?_
                                        refine g_iconst (pc := 676) X (v := 1) dL_law_676 rfl ?_
                                        refine g_iadd (pc := 677) X dL_law_677 ?_
                                        obtain ⟨k246, h⟩ := gd_i h
                                        refine g_sld (pc := 678) X S k246 dL_law_678 ?_
                                        obtain ⟨k247, h⟩ := gd_i h
                                        obtain ⟨r248, w249, h250, h⟩ := bd2_i h
                                        refine g_callV (pc := 679) X FcX9 k247 mk_X9_worthy q_1335 q_1336 q_1334 (c_X9_worthy h250) rfl rfl (by rw [Y.2.1]; decide)  rfl (rest := [.int r243]) rfl (Nat.le_of_ble_eq_true rfl) ⟨lw_c Y.2.1 (by omega), lw_s Y.2.1 (by omega)⟩ dL_law_679 (st' := [.int r248, .int r243]) rfl ?_
                                        refine g_icmp_eq (pc := 682) X (tgt := 1392) dL_law_682 rfl (fun c => ?_) (fun c => ?_)
                                        · have h := br_y c h
                                          obtain ⟨x251, e252, h⟩ := lb_i h
                                          refine g_iinc (pc := 1392) X 2 rfl dL_law_1392 (v := x251) e252.symm (by decide) (lv' := [(3, .int x251), (1, rf V v1), (2, rf V v2), (0, .ref b)]) rfl ?_
                                          refine g_goto (pc := 1395) X (tgt := 18) dL_law_1395 rfl ?_
                                          refine g_sub (lv' := [(1, rf V v1), (2, rf V v2), (3, .int x251), (0, .ref b)]) [1, 2, 0, 3] rfl ?_
                                          refine g_widen (ce' := ce + 10) (sl' := sl + 400) (by omega) (by omega) ?_
                                          exact ih (by omega) (by omega) h
                                        · have h := br_n c h
                                          refine g_iconst (pc := 685) X (v := 0) dL_law_685 rfl ?_
                                          exact absurd (rt_i h).1 (by decide)
                                      · have h := br_n c240 h
                                        by_cases c253 : ((xs (nx v3)) &&& 63) = 17
                                        · have h := br_y c253 h
                                          refine g_tswI (pc := 33) X 17 (tgt := 687) dL_law_33 c253 (by decide) (by decide) rfl rfl ?_
                                          refine g_aload_n (pc := 687) X 0 rfl dL_law_687 ?_
                                          refine g_aload_nS (pc := 688) X 3 rfl dL_law_688 ?_
                                          refine g_iload_n (pc := 689) X 2 rfl dL_law_689 ?_
                                          refine g_iconst (pc := 690) X (v := 1) dL_law_690 rfl ?_
                                          refine g_iadd (pc := 691) X dL_law_691 ?_
                                          obtain ⟨k254, h⟩ := gd_i h
                                          refine g_sld (pc := 692) X S k254 dL_law_692 ?_
                                          refine g_aload_nS (pc := 693) X 3 rfl dL_law_693 ?_
                                          refine g_iload_n (pc := 694) X 2 rfl dL_law_694 ?_
                                          refine g_iconst (pc := 695) X (v := 2) dL_law_695 rfl ?_
                                          refine g_iadd (pc := 696) X dL_law_696 ?_
                                          obtain ⟨k255, h⟩ := gd_i h
                                          refine g_sld (pc := 697) X S k255 dL_law_697 ?_
                                          obtain ⟨k256, h⟩ := gd_i h
                                          obtain ⟨r257, w258, h259, h⟩ := bd2_i h
                                          refine g_callV (pc := 698) X FcX8 k256 mk_X8_behind q_633 q_634 q_632 (c_X8_behind h259) rfl rfl (by rw [Y.2.1]; decide)  rfl (rest := []) rfl (Nat.le_of_ble_eq_true rfl) ⟨lw_c Y.2.1 (by omega), lw_s Y.2.1 (by omega)⟩ dL_law_698 (st' := [.int r257]) rfl ?_
                                          refine g_aload_n (pc := 701) X 1 rfl dL_law_701 ?_
                                          refine g_aload_nS (pc := 702) X 3 rfl dL_law_702 ?_
                                          refine g_iload_n (pc := 703) X 2 rfl dL_law_703 ?_
                                          refine g_iconst (pc := 704) X (v := 1) dL_law_704 rfl ?_
                                          refine g_iadd (pc := 705) X dL_law_705 ?_
                                          obtain ⟨k260, h⟩ := gd_i h
                                          refine g_sld (pc := 706) X S k260 dL_law_706 ?_
                                          refine g_aload_nS (pc := 707) X 3 rfl dL_law_707 ?_
                                          refine g_iload_n (pc := 708) X 2 rfl dL_law_708 ?_
                                          refine g_iconst (pc := 709) X (v := 2) dL_law_709 rfl ?_
                                          refine g_iadd (pc := 710) X dL_law_710 ?_
                                          obtain ⟨k261, h⟩ := gd_i h
                                          refine g_sld (pc := 711) X S k261 dL_law_711 ?_
                                          obtain ⟨k262, h⟩ := gd_i h
                                          obtain ⟨r263, w264, h265, h⟩ := bd2_i h
                                          refine g_callV (pc := 712) X FcX9 k262 mk_X9_behind q_1339 q_1340 q_1338 (c_X9_behind h265) rfl rfl (by rw [Y.2.1]; decide)  rfl (rest := [.int r257]) rfl (Nat.le_of_ble_eq_true rfl) ⟨lw_c Y.2.1 (by omega), lw_s Y.2.1 (by omega)⟩ dL_law_712 (st' := [.int r263, .int r257]) rfl ?_
                                          refine g_icmp_eq (pc := 715) X (tgt := 1392) dL_law_715 rfl (fun c => ?_) (fun c => ?_)
                                          · have h := br_y c h
                                            obtain ⟨x266, e267, h⟩ := lb_i h
                                            refine g_iinc (pc := 1392) X 2 rfl dL_law_1392 (v := x266) e267.symm (by decide) (lv' := [(3, .int x266), (1, rf V v1), (2, rf V v2), (0, .ref b)]) rfl ?_
                                            refine g_goto (pc := 1395) X (tgt := 18) dL_law_1395 rfl ?_
                                            refine g_sub (lv' := [(1, rf V v1), (2, rf V v2), (3, .int x266), (0, .ref b)]) [1, 2, 0, 3] rfl ?_
                                            refine g_widen (ce' := ce + 10) (sl' := sl + 400) (by omega) (by omega) ?_
                                            exact ih (by omega) (by omega) h
                                          · have h := br_n c h
                                            refine g_iconst (pc := 718) X (v := 0) dL_law_718 rfl ?_
                                            exact absurd (rt_i h).1 (by decide)
                                        · have h := br_n c253 h
                                          by_cases c268 : ((xs (nx v3)) &&& 63) = 18
                                          · have h := br_y c268 h
                                            refine g_tswI (pc := 33) X 18 (tgt := 720) dL_law_33 c268 (by decide) (by decide) rfl rfl ?_
                                            refine g_aload_n (pc := 720) X 0 rfl dL_law_720 ?_
                                            obtain ⟨k269, h⟩ := gd_i h
                                            obtain ⟨r270, w271, h272, h⟩ := bd2_i h
                                            refine g_callV (pc := 721) X FcX8 k269 mk_X8_fullUp q_653 q_654 q_652 (c_X8_fullUp h272) rfl rfl (by rw [Y.2.1]; decide)  rfl (rest := []) rfl (Nat.le_of_ble_eq_true rfl) ⟨lw_c Y.2.1 (by omega), lw_s Y.2.1 (by omega)⟩ dL_law_721 (st' := [.int r270]) rfl ?_
                                            refine g_aload_n (pc := 724) X 1 rfl dL_law_724 ?_
                                            obtain ⟨k273, h⟩ := gd_i h
                                            obtain ⟨r274, w275, h276, h⟩ := bd2_i h
                                            refine g_callV (pc := 725) X FcX9 k273 mk_X9_fullUp q_1352 q_1353 q_1351 (c_X9_fullUp h276) rfl rfl (by rw [Y.2.1]; decide)  rfl (rest := [.int r270]) rfl (Nat.le_of_ble_eq_true rfl) ⟨lw_c Y.2.1 (by omega), lw_s Y.2.1 (by omega)⟩ dL_law_725 (st' := [.int r274, .int r270]) rfl ?_
                                            refine g_icmp_eq (pc := 728) X (tgt := 1392) dL_law_728 rfl (fun c => ?_) (fun c => ?_)
                                            · have h := br_y c h
                                              obtain ⟨x277, e278, h⟩ := lb_i h
                                              refine g_iinc (pc := 1392) X 2 rfl dL_law_1392 (v := x277) e278.symm (by decide) (lv' := [(3, .int x277), (1, rf V v1), (2, rf V v2), (0, .ref b)]) rfl ?_
                                              refine g_goto (pc := 1395) X (tgt := 18) dL_law_1395 rfl ?_
                                              refine g_sub (lv' := [(1, rf V v1), (2, rf V v2), (3, .int x277), (0, .ref b)]) [1, 2, 0, 3] rfl ?_
                                              refine g_widen (ce' := ce + 10) (sl' := sl + 400) (by omega) (by omega) ?_
                                              exact ih (by omega) (by omega) h
                                            · have h := br_n c h
                                              refine g_iconst (pc := 731) X (v := 0) dL_law_731 rfl ?_
                                              exact absurd (rt_i h).1 (by decide)
                                          · have h := br_n c268 h
                                            by_cases c279 : ((xs (nx v3)) &&& 63) = 19
                                            · have h := br_y c279 h
                                              refine g_tswI (pc := 33) X 19 (tgt := 733) dL_law_33 c279 (by decide) (by decide) rfl rfl ?_
                                              refine g_aload_n (pc := 733) X 0 rfl dL_law_733 ?_
                                              refine g_aload_nS (pc := 734) X 3 rfl dL_law_734 ?_
                                              refine g_iload_n (pc := 735) X 2 rfl dL_law_735 ?_
                                              refine g_iconst (pc := 736) X (v := 1) dL_law_736 rfl ?_
                                              refine g_iadd (pc := 737) X dL_law_737 ?_
                                              obtain ⟨k280, h⟩ := gd_i h
                                              refine g_sld (pc := 738) X S k280 dL_law_738 ?_
                                              refine g_aload_nS (pc := 739) X 3 rfl dL_law_739 ?_
                                              refine g_iload_n (pc := 740) X 2 rfl dL_law_740 ?_
                                              refine g_iconst (pc := 741) X (v := 2) dL_law_741 rfl ?_
                                              refine g_iadd (pc := 742) X dL_law_742 ?_
                                              obtain ⟨k281, h⟩ := gd_i h
                                              refine g_sld (pc := 743) X S k281 dL_law_743 ?_
                                              obtain ⟨k282, h⟩ := gd_i h
                                              obtain ⟨r283, w284, h285, h⟩ := bd2_i h
                                              refine g_callV (pc := 744) X FcX8 k282 mk_X8_rose q_662 q_663 q_661 (c_X8_rose h285) rfl rfl (by rw [Y.2.1]; decide)  rfl (rest := []) rfl (Nat.le_of_ble_eq_true rfl) ⟨lw_c Y.2.1 (by omega), lw_s Y.2.1 (by omega)⟩ dL_law_744 (st' := [.int r283]) rfl ?_
                                              refine g_aload_n (pc := 747) X 1 rfl dL_law_747 ?_
                                              refine g_aload_nS (pc := 748) X 3 rfl dL_law_748 ?_
                                              refine g_iload_n (pc := 749) X 2 rfl dL_law_749 ?_
                                              refine g_iconst (pc := 750) X (v := 1) dL_law_750 rfl ?_
                                              refine g_iadd (pc := 751) X dL_law_751 ?_
                                              obtain ⟨k286, h⟩ := gd_i h
                                              refine g_sld (pc := 752) X S k286 dL_law_752 ?_
                                              refine g_aload_nS (pc := 753) X 3 rfl dL_law_753 ?_
                                              refine g_iload_n (pc := 754) X 2 rfl dL_law_754 ?_
                                              refine g_iconst (pc := 755) X (v := 2) dL_law_755 rfl ?_
                                              refine g_iadd (pc := 756) X dL_law_756 ?_
                                              obtain ⟨k287, h⟩ := gd_i h
                                              refine g_sld (pc := 757) X S k287 dL_law_757 ?_
                                              obtain ⟨k288, h⟩ := gd_i h
                                              obtain ⟨r289, w290, h291, h⟩ := bd2_i h
                                              refine g_callV (pc := 758) X FcX9 k288 mk_X9_rose q_1360 q_1361 q_1359 (c_X9_rose h291) rfl rfl (by rw [Y.2.1]; decide)  rfl (rest := [.int r283]) rfl (Nat.le_of_ble_eq_true rfl) ⟨lw_c Y.2.1 (by omega), lw_s Y.2.1 (by omega)⟩ dL_law_758 (st' := [.int r289, .int r283]) rfl ?_
                                              refine g_icmp_eq (pc := 761) X (tgt := 1392) dL_law_761 rfl (fun c => ?_) (fun c => ?_)
                                              · have h := br_y c h
                                                obtain ⟨x292, e293, h⟩ := lb_i h
                                                refine g_iinc (pc := 1392) X 2 rfl dL_law_1392 (v := x292) e293.symm (by decide) (lv' := [(3, .int x292), (1, rf V v1), (2, rf V v2), (0, .ref b)]) rfl ?_
                                                refine g_goto (pc := 1395) X (tgt := 18) dL_law_1395 rfl ?_
                                                refine g_sub (lv' := [(1, rf V v1), (2, rf V v2), (3, .int x292), (0, .ref b)]) [1, 2, 0, 3] rfl ?_
                                                refine g_widen (ce' := ce + 10) (sl' := sl + 400) (by omega) (by omega) ?_
                                                exact ih (by omega) (by omega) h
                                              · have h := br_n c h
                                                refine g_iconst (pc := 764) X (v := 0) dL_law_764 rfl ?_
                                                exact absurd (rt_i h).1 (by decide)
                                            · have h := br_n c279 h
                                              by_cases c294 : ((xs (nx v3)) &&& 63) = 20
                                              · have h := br_y c294 h
                                                refine g_tswI (pc := 33) X 20 (tgt := 766) dL_law_33 c294 (by decide) (by decide) rfl rfl ?_
                                                refine g_aload_n (pc := 766) X 0 rfl dL_law_766 ?_
                                                refine g_aload_nS (pc := 767) X 3 rfl dL_law_767 ?_
                                                refine g_iload_n (pc := 768) X 2 rfl dL_law_768 ?_
                                                refine g_iconst (pc := 769) X (v := 1) dL_law_769 rfl ?_
                                                refine g_iadd (pc := 770) X dL_law_770 ?_
                                                obtain ⟨k295, h⟩ := gd_i h
                                                refine g_sld (pc := 771) X S k295 dL_law_771 ?_
                                                obtain ⟨k296, h⟩ := gd_i h
                                                obtain ⟨r297, w298, h299, h⟩ := bd2_i h
                                                refine g_callV (pc := 772) X FcX8 k296 mk_X8_book q_666 q_667 q_665 (c_X8_book h299) rfl rfl (by rw [Y.2.1]; decide)  rfl (rest := []) rfl (Nat.le_of_ble_eq_true rfl) ⟨lw_c Y.2.1 (by omega), lw_s Y.2.1 (by omega)⟩ dL_law_772 (st' := [.int r297]) rfl ?_
                                                refine g_aload_n (pc := 775) X 1 rfl dL_law_775 ?_
                                                refine g_aload_nS (pc := 776) X 3 rfl dL_law_776 ?_
                                                refine g_iload_n (pc := 777) X 2 rfl dL_law_777 ?_
                                                refine g_iconst (pc := 778) X (v := 1) dL_law_778 rfl ?_
                                                refine g_iadd (pc := 779) X dL_law_779 ?_
                                                obtain ⟨k300, h⟩ := gd_i h
                                                refine g_sld (pc := 780) X S k300 dL_law_780 ?_
                                                obtain ⟨k301, h⟩ := gd_i h
                                                obtain ⟨r302, w303, h304, h⟩ := bd2_i h
                                                refine g_callV (pc := 781) X FcX9 k301 mk_X9_book q_1364 q_1365 q_1363 (c_X9_book h304) rfl rfl (by rw [Y.2.1]; decide)  rfl (rest := [.int r297]) rfl (Nat.le_of_ble_eq_true rfl) ⟨lw_c Y.2.1 (by omega), lw_s Y.2.1 (by omega)⟩ dL_law_781 (st' := [.int r302, .int r297]) rfl ?_
                                                refine g_icmp_eq (pc := 784) X (tgt := 1392) dL_law_784 rfl (fun c => ?_) (fun c => ?_)
                                                · have h := br_y c h
                                                  obtain ⟨x305, e306, h⟩ := lb_i h
                                                  refine g_iinc (pc := 1392) X 2 rfl dL_law_1392 (v := x305) e306.symm (by decide) (lv' := [(3, .int x305), (1, rf V v1), (2, rf V v2), (0, .ref b)]) rfl ?_
                                                  refine g_goto (pc := 1395) X (tgt := 18) dL_law_1395 rfl ?_
                                                  refine g_sub (lv' := [(1, rf V v1), (2, rf V v2), (3, .int x305), (0, .ref b)]) [1, 2, 0, 3] rfl ?_
                                                  refine g_widen (ce' := ce + 10) (sl' := sl + 400) (by omega) (by omega) ?_
                                                  exact ih (by omega) (by omega) h
                                                · have h := br_n c h
                                                  refine g_iconst (pc := 787) X (v := 0) dL_law_787 rfl ?_
                                                  exact absurd (rt_i h).1 (by decide)
                                              · have h := br_n c294 h
                                                by_cases c307 : ((xs (nx v3)) &&& 63) = 21
                                                · have h := br_y c307 h
                                                  refine g_tswI (pc := 33) X 21 (tgt := 789) dL_law_33 c307 (by decide) (by decide) rfl rfl ?_
                                                  refine g_aload_n (pc := 789) X 0 rfl dL_law_789 ?_
                                                  obtain ⟨k308, h⟩ := gd_i h
                                                  obtain ⟨r309, w310, h311, h⟩ := bd2_i h
                                                  refine g_callV (pc := 790) X FcX8 k308 mk_X8_fee q_679 q_680 q_678 (c_X8_fee h311) rfl rfl (by rw [Y.2.1]; decide)  rfl (rest := []) rfl (Nat.le_of_ble_eq_true rfl) ⟨lw_c Y.2.1 (by omega), lw_s Y.2.1 (by omega)⟩ dL_law_790 (st' := [.int r309]) rfl ?_
                                                  refine g_aload_n (pc := 793) X 1 rfl dL_law_793 ?_
                                                  obtain ⟨k312, h⟩ := gd_i h
                                                  obtain ⟨r313, w314, h315, h⟩ := bd2_i h
                                                  refine g_callV (pc := 794) X FcX9 k312 mk_X9_fee q_1372 q_1373 q_1371 (c_X9_fee h315) rfl rfl (by rw [Y.2.1]; decide)  rfl (rest := [.int r309]) rfl (Nat.le_of_ble_eq_true rfl) ⟨lw_c Y.2.1 (by omega), lw_s Y.2.1 (by omega)⟩ dL_law_794 (st' := [.int r313, .int r309]) rfl ?_
                                                  refine g_icmp_eq (pc := 797) X (tgt := 1392) dL_law_797 rfl (fun c => ?_) (fun c => ?_)
                                                  · have h := br_y c h
                                                    obtain ⟨x316, e317, h⟩ := lb_i h
                                                    refine g_iinc (pc := 1392) X 2 rfl dL_law_1392 (v := x316) e317.symm (by decide) (lv' := [(3, .int x316), (1, rf V v1), (2, rf V v2), (0, .ref b)]) rfl ?_
                                                    refine g_goto (pc := 1395) X (tgt := 18) dL_law_1395 rfl ?_
                                                    refine g_sub (lv' := [(1, rf V v1), (2, rf V v2), (3, .int x316), (0, .ref b)]) [1, 2, 0, 3] rfl ?_
                                                    refine g_widen (ce' := ce + 10) (sl' := sl + 400) (by omega) (by omega) ?_
                                                    exact ih (by omega) (by omega) h
                                                  · have h := br_n c h
                                                    refine g_iconst (pc := 800) X (v := 0) dL_law_800 rfl ?_
                                                    exact absurd (rt_i h).1 (by decide)
                                                · have h := br_n c307 h
                                                  by_cases c318 : ((xs (nx v3)) &&& 63) = 22
                                                  · have h := br_y c318 h
                                                    refine g_tswI (pc := 33) X 22 (tgt := 802) dL_law_33 c318 (by decide) (by decide) rfl rfl ?_
                                                    refine g_aload_n (pc := 802) X 0 rfl dL_law_802 ?_
                                                    refine g_aload_nS (pc := 803) X 3 rfl dL_law_803 ?_
                                                    refine g_iload_n (pc := 804) X 2 rfl dL_law_804 ?_
                                                    refine g_iconst (pc := 805) X (v := 1) dL_law_805 rfl ?_
                                                    refine g_iadd (pc := 806) X dL_law_806 ?_
                                                    obtain ⟨k319, h⟩ := gd_i h
                                                    refine g_sld (pc := 807) X S k319 dL_law_807 ?_
                                                    obtain ⟨k320, h⟩ := gd_i h
                                                    obtain ⟨r321, w322, h323, h⟩ := bd2_i h
                                                    refine g_callV (pc := 808) X FcX8 k320 mk_X8_fine q_685 q_686 q_684 (c_X8_fine h323) rfl rfl (by rw [Y.2.1]; decide)  rfl (rest := []) rfl (Nat.le_of_ble_eq_true rfl) ⟨lw_c Y.2.1 (by omega), lw_s Y.2.1 (by omega)⟩ dL_law_808 (st' := [.int r321]) rfl ?_
                                                    refine g_aload_n (pc := 811) X 1 rfl dL_law_811 ?_
                                                    refine g_aload_nS (pc := 812) X 3 rfl dL_law_812 ?_
                                                    refine g_iload_n (pc := 813) X 2 rfl dL_law_813 ?_
                                                    refine g_iconst (pc := 814) X (v := 1) dL_law_814 rfl ?_
                                                    refine g_iadd (pc := 815) X dL_law_815 ?_
                                                    obtain ⟨k324, h⟩ := gd_i h
                                                    refine g_sld (pc := 816) X S k324 dL_law_816 ?_
                                                    obtain ⟨k325, h⟩ := gd_i h
                                                    obtain ⟨r326, w327, h328, h⟩ := bd2_i h
                                                    refine g_callV (pc := 817) X FcX9 k325 mk_X9_fine q_1376 q_1377 q_1375 (c_X9_fine h328) rfl rfl (by rw [Y.2.1]; decide)  rfl (rest := [.int r321]) rfl (Nat.le_of_ble_eq_true rfl) ⟨lw_c Y.2.1 (by omega), lw_s Y.2.1 (by omega)⟩ dL_law_817 (st' := [.int r326, .int r321]) rfl ?_
                                                    refine g_icmp_eq (pc := 820) X (tgt := 1392) dL_law_820 rfl (fun c => ?_) (fun c => ?_)
                                                    · have h := br_y c h
                                                      obtain ⟨x329, e330, h⟩ := lb_i h
                                                      refine g_iinc (pc := 1392) X 2 rfl dL_law_1392 (v := x329) e330.symm (by decide) (lv' := [(3, .int x329), (1, rf V v1), (2, rf V v2), (0, .ref b)]) rfl ?_
                                                      refine g_goto (pc := 1395) X (tgt := 18) dL_law_1395 rfl ?_
                                                      refine g_sub (lv' := [(1, rf V v1), (2, rf V v2), (3, .int x329), (0, .ref b)]) [1, 2, 0, 3] rfl ?_
                                                      refine g_widen (ce' := ce + 10) (sl' := sl + 400) (by omega) (by omega) ?_
                                                      exact ih (by omega) (by omega) h
                                                    · have h := br_n c h
                                                      refine g_iconst (pc := 823) X (v := 0) dL_law_823 rfl ?_
                                                      exact absurd (rt_i h).1 (by decide)
                                                  · have h := br_n c318 h
                                                    by_cases c331 : ((xs (nx v3)) &&& 63) = 23
                                                    · have h := br_y c331 h
                                                      refine g_tswI (pc := 33) X 23 (tgt := 825) dL_law_33 c331 (by decide) (by decide) rfl rfl ?_
                                                      refine g_aload_n (pc := 825) X 0 rfl dL_law_825 ?_
                                                      refine g_aload_nS (pc := 826) X 3 rfl dL_law_826 ?_
                                                      refine g_iload_n (pc := 827) X 2 rfl dL_law_827 ?_
                                                      refine g_iconst (pc := 828) X (v := 1) dL_law_828 rfl ?_
                                                      refine g_iadd (pc := 829) X dL_law_829 ?_
                                                      obtain ⟨k332, h⟩ := gd_i h
                                                      refine g_sld (pc := 830) X S k332 dL_law_830 ?_
                                                      refine g_aload_nS (pc := 831) X 3 rfl dL_law_831 ?_
                                                      refine g_iload_n (pc := 832) X 2 rfl dL_law_832 ?_
                                                      refine g_iconst (pc := 833) X (v := 2) dL_law_833 rfl ?_
                                                      refine g_iadd (pc := 834) X dL_law_834 ?_
                                                      obtain ⟨k333, h⟩ := gd_i h
                                                      refine g_sld (pc := 835) X S k333 dL_law_835 ?_
                                                      refine g_aload_nS (pc := 836) X 3 rfl dL_law_836 ?_
                                                      refine g_iload_n (pc := 837) X 2 rfl dL_law_837 ?_
                                                      refine g_iconst (pc := 838) X (v := 3) dL_law_838 rfl ?_
                                                      refine g_iadd (pc := 839) X dL_law_839 ?_
                                                      obtain ⟨k334, h⟩ := gd_i h
                                                      refine g_sld (pc := 840) X S k334 dL_law_840 ?_
                                                      obtain ⟨k335, h⟩ := gd_i h
                                                      obtain ⟨r336, w337, h338, h⟩ := bd2_i h
                                                      refine g_callV (pc := 841) X FcX8 k335 mk_X8_feed q_689 q_690 q_688 (c_X8_feed h338) rfl rfl (by rw [Y.2.1]; decide)  rfl (rest := []) rfl (Nat.le_of_ble_eq_true rfl) ⟨lw_c Y.2.1 (by omega), lw_s Y.2.1 (by omega)⟩ dL_law_841 (st' := [.int r336]) rfl ?_
                                                      refine g_aload_n (pc := 844) X 1 rfl dL_law_844 ?_
                                                      refine g_aload_nS (pc := 845) X 3 rfl dL_law_845 ?_
                                                      refine g_iload_n (pc := 846) X 2 rfl dL_law_846 ?_
                                                      refine g_iconst (pc := 847) X (v := 1) dL_law_847 rfl ?_
                                                      refine g_iadd (pc := 848) X dL_law_848 ?_
                                                      obtain ⟨k339, h⟩ := gd_i h
                                                      refine g_sld (pc := 849) X S k339 dL_law_849 ?_
                                                      refine g_aload_nS (pc := 850) X 3 rfl dL_law_850 ?_
                                                      refine g_iload_n (pc := 851) X 2 rfl dL_law_851 ?_
                                                      refine g_iconst (pc := 852) X (v := 2) dL_law_852 rfl ?_
                                                      refine g_iadd (pc := 853) X dL_law_853 ?_
                                                      obtain ⟨k340, h⟩ := gd_i h
                                                      refine g_sld (pc := 854) X S k340 dL_law_854 ?_
                                                      refine g_aload_nS (pc := 855) X 3 rfl dL_law_855 ?_
                                                      refine g_iload_n (pc := 856) X 2 rfl dL_law_856 ?_
                                                      refine g_iconst (pc := 857) X (v := 3) dL_law_857 rfl ?_
                                                      refine g_iadd (pc := 858) X dL_law_858 ?_
                                                      obtain ⟨k341, h⟩ := gd_i h
                                                      refine g_sld (pc := 859) X S k341 dL_law_859 ?_
                                                      obtain ⟨k342, h⟩ := gd_i h
                                                      obtain ⟨r343, w344, h345, h⟩ := bd2_i h
                                                      refine g_callV (pc := 860) X FcX9 k342 mk_X9_feed q_1380 q_1381 q_1379 (c_X9_feed h345) rfl rfl (by rw [Y.2.1]; decide)  rfl (rest := [.int r336]) rfl (Nat.le_of_ble_eq_true rfl) ⟨lw_c Y.2.1 (by omega), lw_s Y.2.1 (by omega)⟩ dL_law_860 (st' := [.int r343, .int r336]) rfl ?_
                                                      refine g_icmp_eq (pc := 863) X (tgt := 1392) dL_law_863 rfl (fun c => ?_) (fun c => ?_)
                                                      · have h := br_y c h
                                                        obtain ⟨x346, e347, h⟩ := lb_i h
                                                        refine g_iinc (pc := 1392) X 2 rfl dL_law_1392 (v := x346) e347.symm (by decide) (lv' := [(3, .int x346), (1, rf V v1), (2, rf V v2), (0, .ref b)]) rfl ?_
                                                        refine g_goto (pc := 1395) X (tgt := 18) dL_law_1395 rfl ?_
                                                        refine g_sub (lv' := [(1, rf V v1), (2, rf V v2), (3, .int x346), (0, .ref b)]) [1, 2, 0, 3] rfl ?_
                                                        refine g_widen (ce' := ce + 10) (sl' := sl + 400) (by omega) (by omega) ?_
                                                        exact ih (by omega) (by omega) h
                                                      · have h := br_n c h
                                                        refine g_iconst (pc := 866) X (v := 0) dL_law_866 rfl ?_
                                                        exact absurd (rt_i h).1 (by decide)
                                                    · have h := br_n c331 h
                                                      by_cases c348 : ((xs (nx v3)) &&& 63) = 24
                                                      · have h := br_y c348 h
                                                        refine g_tswI (pc := 33) X 24 (tgt := 868) dL_law_33 c348 (by decide) (by decide) rfl rfl ?_
                                                        refine g_aload_n (pc := 868) X 0 rfl dL_law_868 ?_
                                                        refine g_aload_nS (pc := 869) X 3 rfl dL_law_869 ?_
                                                        refine g_iload_n (pc := 870) X 2 rfl dL_law_870 ?_
                                                        refine g_iconst (pc := 871) X (v := 1) dL_law_871 rfl ?_
                                                        refine g_iadd (pc := 872) X dL_law_872 ?_
                                                        obtain ⟨k349, h⟩ := gd_i h
                                                        refine g_sld (pc := 873) X S k349 dL_law_873 ?_
                                                        obtain ⟨k350, h⟩ := gd_i h
                                                        obtain ⟨r351, w352, h353, h⟩ := bd2_i h
                                                        refine g_callV (pc := 874) X FcX8 k350 mk_X8_trim q_698 q_699 q_697 (c_X8_trim h353) rfl rfl (by rw [Y.2.1]; decide)  rfl (rest := []) rfl (Nat.le_of_ble_eq_true rfl) ⟨lw_c Y.2.1 (by omega), lw_s Y.2.1 (by omega)⟩ dL_law_874 (st' := [.int r351]) rfl ?_
                                                        refine g_aload_n (pc := 877) X 1 rfl dL_law_877 ?_
                                                        refine g_aload_nS (pc := 878) X 3 rfl dL_law_878 ?_
                                                        refine g_iload_n (pc := 879) X 2 rfl dL_law_879 ?_
                                                        refine g_iconst (pc := 880) X (v := 1) dL_law_880 rfl ?_
                                                        refine g_iadd (pc := 881) X dL_law_881 ?_
                                                        obtain ⟨k354, h⟩ := gd_i h
                                                        refine g_sld (pc := 882) X S k354 dL_law_882 ?_
                                                        obtain ⟨k355, h⟩ := gd_i h
                                                        obtain ⟨r356, w357, h358, h⟩ := bd2_i h
                                                        refine g_callV (pc := 883) X FcX9 k355 mk_X9_trim q_1384 q_1385 q_1383 (c_X9_trim h358) rfl rfl (by rw [Y.2.1]; decide)  rfl (rest := [.int r351]) rfl (Nat.le_of_ble_eq_true rfl) ⟨lw_c Y.2.1 (by omega), lw_s Y.2.1 (by omega)⟩ dL_law_883 (st' := [.int r356, .int r351]) rfl ?_
                                                        refine g_icmp_eq (pc := 886) X (tgt := 1392) dL_law_886 rfl (fun c => ?_) (fun c => ?_)
                                                        · have h := br_y c h
                                                          obtain ⟨x359, e360, h⟩ := lb_i h
                                                          refine g_iinc (pc := 1392) X 2 rfl dL_law_1392 (v := x359) e360.symm (by decide) (lv' := [(3, .int x359), (1, rf V v1), (2, rf V v2), (0, .ref b)]) rfl ?_
                                                          refine g_goto (pc := 1395) X (tgt := 18) dL_law_1395 rfl ?_
                                                          refine g_sub (lv' := [(1, rf V v1), (2, rf V v2), (3, .int x359), (0, .ref b)]) [1, 2, 0, 3] rfl ?_
                                                          refine g_widen (ce' := ce + 10) (sl' := sl + 400) (by omega) (by omega) ?_
                                                          exact ih (by omega) (by omega) h
                                                        · have h := br_n c h
                                                          refine g_iconst (pc := 889) X (v := 0) dL_law_889 rfl ?_
                                                          exact absurd (rt_i h).1 (by decide)
                                                      · have h := br_n c348 h
                                                        by_cases c361 : ((xs (nx v3)) &&& 63) = 25
                                                        · have h := br_y c361 h
                                                          refine g_tswI (pc := 33) X 25 (tgt := 891) dL_law_33 c361 (by decide) (by decide) rfl rfl ?_
                                                          refine g_aload_n (pc := 891) X 0 rfl dL_law_891 ?_
                                                          obtain ⟨k362, h⟩ := gd_i h
                                                          obtain ⟨r363, w364, h365, h⟩ := bd2_i h
                                                          refine g_callV (pc := 892) X FcX8 k362 mk_X8_text q_702 q_703 q_701 (c_X8_text h365) rfl rfl (by rw [Y.2.1]; decide)  rfl (rest := []) rfl (Nat.le_of_ble_eq_true rfl) ⟨lw_c Y.2.1 (by omega), lw_s Y.2.1 (by omega)⟩ dL_law_892 (st' := [.int r363]) rfl ?_
                                                          refine g_aload_n (pc := 895) X 1 rfl dL_law_895 ?_
                                                          obtain ⟨k366, h⟩ := gd_i h
                                                          obtain ⟨r367, w368, h369, h⟩ := bd2_i h
                                                          refine g_callV (pc := 896) X FcX9 k366 mk_X9_text q_1388 q_1389 q_1387 (c_X9_text h369) rfl rfl (by rw [Y.2.1]; decide)  rfl (rest := [.int r363]) rfl (Nat.le_of_ble_eq_true rfl) ⟨lw_c Y.2.1 (by omega), lw_s Y.2.1 (by omega)⟩ dL_law_896 (st' := [.int r367, .int r363]) rfl ?_
                                                          refine g_icmp_eq (pc := 899) X (tgt := 1392) dL_law_899 rfl (fun c => ?_) (fun c => ?_)
                                                          · have h := br_y c h
                                                            obtain ⟨x370, e371, h⟩ := lb_i h
                                                            refine g_iinc (pc := 1392) X 2 rfl dL_law_1392 (v := x370) e371.symm (by decide) (lv' := [(3, .int x370), (1, rf V v1), (2, rf V v2), (0, .ref b)]) rfl ?_
                                                            refine g_goto (pc := 1395) X (tgt := 18) dL_law_1395 rfl ?_
                                                            refine g_sub (lv' := [(1, rf V v1), (2, rf V v2), (3, .int x370), (0, .ref b)]) [1, 2, 0, 3] rfl ?_
                                                            refine g_widen (ce' := ce + 10) (sl' := sl + 400) (by omega) (by omega) ?_
                                                            exact ih (by omega) (by omega) h
                                                          · have h := br_n c h
                                                            refine g_iconst (pc := 902) X (v := 0) dL_law_902 rfl ?_
                                                            exact absurd (rt_i h).1 (by decide)
                                                        · have h := br_n c361 h
                                                          by_cases c372 : ((xs (nx v3)) &&& 63) = 26
                                                          · have h := br_y c372 h
                                                            refine g_tswI (pc := 33) X 26 (tgt := 904) dL_law_33 c372 (by decide) (by decide) rfl rfl ?_
                                                            refine g_aload_n (pc := 904) X 0 rfl dL_law_904 ?_
                                                            refine g_aload_nS (pc := 905) X 3 rfl dL_law_905 ?_
                                                            refine g_iload_n (pc := 906) X 2 rfl dL_law_906 ?_
                                                            refine g_iconst (pc := 907) X (v := 1) dL_law_907 rfl ?_
                                                            refine g_iadd (pc := 908) X dL_law_908 ?_
                                                            obtain ⟨k373, h⟩ := gd_i h
                                                            refine g_sld (pc := 909) X S k373 dL_law_909 ?_
                                                            refine g_aload_nS (pc := 910) X 3 rfl dL_law_910 ?_
                                                            refine g_iload_n (pc := 911) X 2 rfl dL_law_911 ?_
                                                            refine g_iconst (pc := 912) X (v := 2) dL_law_912 rfl ?_
                                                            refine g_iadd (pc := 913) X dL_law_913 ?_
                                                            obtain ⟨k374, h⟩ := gd_i h
                                                            refine g_sld (pc := 914) X S k374 dL_law_914 ?_
                                                            obtain ⟨k375, h⟩ := gd_i h
                                                            obtain ⟨r376, w377, h378, h⟩ := bd2_i h
                                                            refine g_callV (pc := 915) X FcX8 k375 mk_X8_textTold q_919 q_920 q_918 (c_X8_textTold h378) rfl rfl (by rw [Y.2.1]; decide)  rfl (rest := []) rfl (Nat.le_of_ble_eq_true rfl) ⟨lw_c Y.2.1 (by omega), lw_s Y.2.1 (by omega)⟩ dL_law_915 (st' := [.int r376]) rfl ?_
                                                            refine g_aload_n (pc := 918) X 1 rfl dL_law_918 ?_
                                                            refine g_aload_nS (pc := 919) X 3 rfl dL_law_919 ?_
                                                            refine g_iload_n (pc := 920) X 2 rfl dL_law_920 ?_
                                                            refine g_iconst (pc := 921) X (v := 1) dL_law_921 rfl ?_
                                                            refine g_iadd (pc := 922) X dL_law_922 ?_
                                                            obtain ⟨k379, h⟩ := gd_i h
                                                            refine g_sld (pc := 923) X S k379 dL_law_923 ?_
                                                            refine g_aload_nS (pc := 924) X 3 rfl dL_law_924 ?_
                                                            refine g_iload_n (pc := 925) X 2 rfl dL_law_925 ?_
                                                            refine g_iconst (pc := 926) X (v := 2) dL_law_926 rfl ?_
                                                            refine g_iadd (pc := 927) X dL_law_927 ?_
                                                            obtain ⟨k380, h⟩ := gd_i h
                                                            refine g_sld (pc := 928) X S k380 dL_law_928 ?_
                                                            obtain ⟨k381, h⟩ := gd_i h
                                                            obtain ⟨r382, w383, h384, h⟩ := bd2_i h
                                                            refine g_callV (pc := 929) X FcX9 k381 mk_X9_textTold q_1435 q_1436 q_1434 (c_X9_textTold h384) rfl rfl (by rw [Y.2.1]; decide)  rfl (rest := [.int r376]) rfl (Nat.le_of_ble_eq_true rfl) ⟨lw_c Y.2.1 (by omega), lw_s Y.2.1 (by omega)⟩ dL_law_929 (st' := [.int r382, .int r376]) rfl ?_
                                                            refine g_icmp_eq (pc := 932) X (tgt := 1392) dL_law_932 rfl (fun c => ?_) (fun c => ?_)
                                                            · have h := br_y c h
                                                              obtain ⟨x385, e386, h⟩ := lb_i h
                                                              refine g_iinc (pc := 1392) X 2 rfl dL_law_1392 (v := x385) e386.symm (by decide) (lv' := [(3, .int x385), (1, rf V v1), (2, rf V v2), (0, .ref b)]) rfl ?_
                                                              refine g_goto (pc := 1395) X (tgt := 18) dL_law_1395 rfl ?_
                                                              refine g_sub (lv' := [(1, rf V v1), (2, rf V v2), (3, .int x385), (0, .ref b)]) [1, 2, 0, 3] rfl ?_
                                                              refine g_widen (ce' := ce + 10) (sl' := sl + 400) (by omega) (by omega) ?_
                                                              exact ih (by omega) (by omega) h
                                                            · have h := br_n c h
                                                              refine g_iconst (pc := 935) X (v := 0) dL_law_935 rfl ?_
                                                              exact absurd (rt_i h).1 (by decide)
                                                          · have h := br_n c372 h
                                                            by_cases c387 : ((xs (nx v3)) &&& 63) = 27
                                                            · have h := br_y c387 h
                                                              refine g_tswI (pc := 33) X 27 (tgt := 937) dL_law_33 c387 (by decide) (by decide) rfl rfl ?_
                                                              refine g_aload_n (pc := 937) X 0 rfl dL_law_937 ?_
                                                              refine g_aload_nS (pc := 938) X 3 rfl dL_law_938 ?_
                                                              refine g_iload_n (pc := 939) X 2 rfl dL_law_939 ?_
                                                              refine g_iconst (pc := 940) X (v := 1) dL_law_940 rfl ?_
                                                              refine g_iadd (pc := 941) X dL_law_941 ?_
                                                              obtain ⟨k388, h⟩ := gd_i h
                                                              refine g_sld (pc := 942) X S k388 dL_law_942 ?_
                                                              obtain ⟨k389, h⟩ := gd_i h
                                                              obtain ⟨r390, w391, h392, h⟩ := bd2_i h
                                                              refine g_callV (pc := 943) X FcX8 k389 mk_X8_why q_923 q_924 q_922 (c_X8_why h392) rfl rfl (by rw [Y.2.1]; decide)  rfl (rest := []) rfl (Nat.le_of_ble_eq_true rfl) ⟨lw_c Y.2.1 (by omega), lw_s Y.2.1 (by omega)⟩ dL_law_943 (st' := [.int r390]) rfl ?_
                                                              refine g_aload_n (pc := 946) X 1 rfl dL_law_946 ?_
                                                              refine g_aload_nS (pc := 947) X 3 rfl dL_law_947 ?_
                                                              refine g_iload_n (pc := 948) X 2 rfl dL_law_948 ?_
                                                              refine g_iconst (pc := 949) X (v := 1) dL_law_949 rfl ?_
                                                              refine g_iadd (pc := 950) X dL_law_950 ?_
                                                              obtain ⟨k393, h⟩ := gd_i h
                                                              refine g_sld (pc := 951) X S k393 dL_law_951 ?_
                                                              obtain ⟨k394, h⟩ := gd_i h
                                                              obtain ⟨r395, w396, h397, h⟩ := bd2_i h
                                                              refine g_callV (pc := 952) X FcX9 k394 mk_X9_why q_1439 q_1440 q_1438 (c_X9_why h397) rfl rfl (by rw [Y.2.1]; decide)  rfl (rest := [.int r390]) rfl (Nat.le_of_ble_eq_true rfl) ⟨lw_c Y.2.1 (by omega), lw_s Y.2.1 (by omega)⟩ dL_law_952 (st' := [.int r395, .int r390]) rfl ?_
                                                              refine g_icmp_eq (pc := 955) X (tgt := 1392) dL_law_955 rfl (fun c => ?_) (fun c => ?_)
                                                              · have h := br_y c h
                                                                obtain ⟨x398, e399, h⟩ := lb_i h
                                                                refine g_iinc (pc := 1392) X 2 rfl dL_law_1392 (v := x398) e399.symm (by decide) (lv' := [(3, .int x398), (1, rf V v1), (2, rf V v2), (0, .ref b)]) rfl ?_
                                                                refine g_goto (pc := 1395) X (tgt := 18) dL_law_1395 rfl ?_
                                                                refine g_sub (lv' := [(1, rf V v1), (2, rf V v2), (3, .int x398), (0, .ref b)]) [1, 2, 0, 3] rfl ?_
                                                                refine g_widen (ce' := ce + 10) (sl' := sl + 400) (by omega) (by omega) ?_
                                                                exact ih (by omega) (by omega) h
                                                              · have h := br_n c h
                                                                refine g_iconst (pc := 958) X (v := 0) dL_law_958 rfl ?_
                                                                exact absurd (rt_i h).1 (by decide)
                                                            · have h := br_n c387 h
                                                              by_cases c400 : ((xs (nx v3)) &&& 63) = 28
                                                              · have h := br_y c400 h
                                                                refine g_tswI (pc := 33) X 28 (tgt := 960) dL_law_33 c400 (by decide) (by decide) rfl rfl ?_
                                                                refine g_aload_n (pc := 960) X 0 rfl dL_law_960 ?_
                                                                refine g_aload_nS (pc := 961) X 3 rfl dL_law_961 ?_
                                                                refine g_iload_n (pc := 962) X 2 rfl dL_law_962 ?_
                                                                refine g_iconst (pc := 963) X (v := 1) dL_law_963 rfl ?_
                                                                refine g_iadd (pc := 964) X dL_law_964 ?_
                                                                obtain ⟨k401, h⟩ := gd_i h
                                                                refine g_sld (pc := 965) X S k401 dL_law_965 ?_
                                                                refine g_aload_nS (pc := 966) X 3 rfl dL_law_966 ?_
                                                                refine g_iload_n (pc := 967) X 2 rfl dL_law_967 ?_
                                                                refine g_iconst (pc := 968) X (v := 2) dL_law_968 rfl ?_
                                                                refine g_iadd (pc := 969) X dL_law_969 ?_
                                                                obtain ⟨k402, h⟩ := gd_i h
                                                                refine g_sld (pc := 970) X S k402 dL_law_970 ?_
                                                                refine g_aload_nS (pc := 971) X 3 rfl dL_law_971 ?_
                                                                refine g_iload_n (pc := 972) X 2 rfl dL_law_972 ?_
                                                                refine g_iconst (pc := 973) X (v := 3) dL_law_973 rfl ?_
                                                                refine g_iadd (pc := 974) X dL_law_974 ?_
                                                                obtain ⟨k403, h⟩ := gd_i h
                                                                refine g_sld (pc := 975) X S k403 dL_law_975 ?_
                                                                obtain ⟨k404, h⟩ := gd_i h
                                                                obtain ⟨r405, w406, h407, h⟩ := bd2_i h
                                                                refine g_callV (pc := 976) X FcX8 k404 mk_X8_sheet q_927 q_928 q_926 (c_X8_sheet h407) rfl rfl (by rw [Y.2.1]; decide)  rfl (rest := []) rfl (Nat.le_of_ble_eq_true rfl) ⟨lw_c Y.2.1 (by omega), lw_s Y.2.1 (by omega)⟩ dL_law_976 (st' := [.int r405]) rfl ?_
                                                                refine g_aload_n (pc := 979) X 1 rfl dL_law_979 ?_
                                                                refine g_aload_nS (pc := 980) X 3 rfl dL_law_980 ?_
                                                                refine g_iload_n (pc := 981) X 2 rfl dL_law_981 ?_
                                                                refine g_iconst (pc := 982) X (v := 1) dL_law_982 rfl ?_
                                                                refine g_iadd (pc := 983) X dL_law_983 ?_
                                                                obtain ⟨k408, h⟩ := gd_i h
                                                                refine g_sld (pc := 984) X S k408 dL_law_984 ?_
                                                                refine g_aload_nS (pc := 985) X 3 rfl dL_law_985 ?_
                                                                refine g_iload_n (pc := 986) X 2 rfl dL_law_986 ?_
                                                                refine g_iconst (pc := 987) X (v := 2) dL_law_987 rfl ?_
                                                                refine g_iadd (pc := 988) X dL_law_988 ?_
                                                                obtain ⟨k409, h⟩ := gd_i h
                                                                refine g_sld (pc := 989) X S k409 dL_law_989 ?_
                                                                refine g_aload_nS (pc := 990) X 3 rfl dL_law_990 ?_
                                                                refine g_iload_n (pc := 991) X 2 rfl dL_law_991 ?_
                                                                refine g_iconst (pc := 992) X (v := 3) dL_law_992 rfl ?_
                                                                refine g_iadd (pc := 993) X dL_law_993 ?_
                                                                obtain ⟨k410, h⟩ := gd_i h
                                                                refine g_sld (pc := 994) X S k410 dL_law_994 ?_
                                                                obtain ⟨k411, h⟩ := gd_i h
                                                                obtain ⟨r412, w413, h414, h⟩ := bd2_i h
                                                                refine g_callV (pc := 995) X FcX9 k411 mk_X9_sheet q_1443 q_1444 q_1442 (c_X9_sheet h414) rfl rfl (by rw [Y.2.1]; decide)  rfl (rest := [.int r405]) rfl (Nat.le_of_ble_eq_true rfl) ⟨lw_c Y.2.1 (by omega), lw_s Y.2.1 (by omega)⟩ dL_law_995 (st' := [.int r412, .int r405]) rfl ?_
                                                                refine g_icmp_eq (pc := 998) X (tgt := 1392) dL_law_998 rfl (fun c => ?_) (fun c => ?_)
                                                                · have h := br_y c h
                                                                  obtain ⟨x415, e416, h⟩ := lb_i h
                                                                  refine g_iinc (pc := 1392) X 2 rfl dL_law_1392 (v := x415) e416.symm (by decide) (lv' := [(3, .int x415), (1, rf V v1), (2, rf V v2), (0, .ref b)]) rfl ?_
                                                                  refine g_goto (pc := 1395) X (tgt := 18) dL_law_1395 rfl ?_
                                                                  refine g_sub (lv' := [(1, rf V v1), (2, rf V v2), (3, .int x415), (0, .ref b)]) [1, 2, 0, 3] rfl ?_
                                                                  refine g_widen (ce' := ce + 10) (sl' := sl + 400) (by omega) (by omega) ?_
                                                                  exact ih (by omega) (by omega) h
                                                                · have h := br_n c h
                                                                  refine g_iconst (pc := 1001) X (v := 0) dL_law_1001 rfl ?_
                                                                  exact absurd (rt_i h).1 (by decide)
                                                              · have h := br_n c400 h
                                                                by_cases c417 : ((xs (nx v3)) &&& 63) = 29
                                                                · have h := br_y c417 h
                                                                  refine g_tswI (pc := 33) X 29 (tgt := 1003) dL_law_33 c417 (by decide) (by decide) rfl rfl ?_
                                                                  refine g_aload_n (pc := 1003) X 0 rfl dL_law_1003 ?_
                                                                  refine g_aload_nS (pc := 1004) X 3 rfl dL_law_1004 ?_
                                                                  refine g_iload_n (pc := 1005) X 2 rfl dL_law_1005 ?_
                                                                  refine g_iconst (pc := 1006) X (v := 1) dL_law_1006 rfl ?_
                                                                  refine g_iadd (pc := 1007) X dL_law_1007 ?_
                                                                  obtain ⟨k418, h⟩ := gd_i h
                                                                  refine g_sld (pc := 1008) X S k418 dL_law_1008 ?_
                                                                  refine g_aload_nS (pc := 1009) X 3 rfl dL_law_1009 ?_
                                                                  refine g_iload_n (pc := 1010) X 2 rfl dL_law_1010 ?_
                                                                  refine g_iconst (pc := 1011) X (v := 2) dL_law_1011 rfl ?_
                                                                  refine g_iadd (pc := 1012) X dL_law_1012 ?_
                                                                  obtain ⟨k419, h⟩ := gd_i h
                                                                  refine g_sld (pc := 1013) X S k419 dL_law_1013 ?_
                                                                  refine g_aload_nS (pc := 1014) X 3 rfl dL_law_1014 ?_
                                                                  refine g_iload_n (pc := 1015) X 2 rfl dL_law_1015 ?_
                                                                  refine g_iconst (pc := 1016) X (v := 3) dL_law_1016 rfl ?_
                                                                  refine g_iadd (pc := 1017) X dL_law_1017 ?_
                                                                  obtain ⟨k420, h⟩ := gd_i h
                                                                  refine g_sld (pc := 1018) X S k420 dL_law_1018 ?_
                                                                  obtain ⟨k421, h⟩ := gd_i h
                                                                  obtain ⟨r422, w423, h424, h⟩ := bd2_i h
                                                                  refine g_callV (pc := 1019) X FcX8 k421 mk_X8_mark q_936 q_937 q_935 (c_X8_mark h424) rfl rfl (by rw [Y.2.1]; decide)  rfl (rest := []) rfl (Nat.le_of_ble_eq_true rfl) ⟨lw_c Y.2.1 (by omega), lw_s Y.2.1 (by omega)⟩ dL_law_1019 (st' := [.int r422]) rfl ?_
                                                                  refine g_aload_n (pc := 1022) X 1 rfl dL_law_1022 ?_
                                                                  refine g_aload_nS (pc := 1023) X 3 rfl dL_law_1023 ?_
                                                                  refine g_iload_n (pc := 1024) X 2 rfl dL_law_1024 ?_
                                                                  refine g_iconst (pc := 1025) X (v := 1) dL_law_1025 rfl ?_
                                                                  refine g_iadd (pc := 1026) X dL_law_1026 ?_
                                                                  obtain ⟨k425, h⟩ := gd_i h
                                                                  refine g_sld (pc := 1027) X S k425 dL_law_1027 ?_
                                                                  refine g_aload_nS (pc := 1028) X 3 rfl dL_law_1028 ?_
                                                                  refine g_iload_n (pc := 1029) X 2 rfl dL_law_1029 ?_
                                                                  refine g_iconst (pc := 1030) X (v := 2) dL_law_1030 rfl ?_
                                                                  refine g_iadd (pc := 1031) X dL_law_1031 ?_
                                                                  obtain ⟨k426, h⟩ := gd_i h
                                                                  refine g_sld (pc := 1032) X S k426 dL_law_1032 ?_
                                                                  refine g_aload_nS (pc := 1033) X 3 rfl dL_law_1033 ?_
                                                                  refine g_iload_n (pc := 1034) X 2 rfl dL_law_1034 ?_
                                                                  refine g_iconst (pc := 1035) X (v := 3) dL_law_1035 rfl ?_
                                                                  refine g_iadd (pc := 1036) X dL_law_1036 ?_
                                                                  obtain ⟨k427, h⟩ := gd_i h
                                                                  refine g_sld (pc := 1037) X S k427 dL_law_1037 ?_
                                                                  obtain ⟨k428, h⟩ := gd_i h
                                                                  obtain ⟨r429, w430, h431, h⟩ := bd2_i h
                                                                  refine g_callV (pc := 1038) X FcX9 k428 mk_X9_mark q_1448 q_1449 q_1447 (c_X9_mark h431) rfl rfl (by rw [Y.2.1]; decide)  rfl (rest := [.int r422]) rfl (Nat.le_of_ble_eq_true rfl) ⟨lw_c Y.2.1 (by omega), lw_s Y.2.1 (by omega)⟩ dL_law_1038 (st' := [.int r429, .int r422]) rfl ?_
                                                                  refine g_icmp_eq (pc := 1041) X (tgt := 1392) dL_law_1041 rfl (fun c => ?_) (fun c => ?_)
                                                                  · have h := br_y c h
                                                                    obtain ⟨x432, e433, h⟩ := lb_i h
                                                                    refine g_iinc (pc := 1392) X 2 rfl dL_law_1392 (v := x432) e433.symm (by decide) (lv' := [(3, .int x432), (1, rf V v1), (2, rf V v2), (0, .ref b)]) rfl ?_
                                                                    refine g_goto (pc := 1395) X (tgt := 18) dL_law_1395 rfl ?_
                                                                    refine g_sub (lv' := [(1, rf V v1), (2, rf V v2), (3, .int x432), (0, .ref b)]) [1, 2, 0, 3] rfl ?_
                                                                    refine g_widen (ce' := ce + 10) (sl' := sl + 400) (by omega) (by omega) ?_
                                                                    exact ih (by omega) (by omega) h
                                                                  · have h := br_n c h
                                                                    refine g_iconst (pc := 1044) X (v := 0) dL_law_1044 rfl ?_
                                                                    exact absurd (rt_i h).1 (by decide)
                                                                · have h := br_n c417 h
                                                                  by_cases c434 : ((xs (nx v3)) &&& 63) = 30
                                                                  · have h := br_y c434 h
                                                                    refine g_tswI (pc := 33) X 30 (tgt := 1046) dL_law_33 c434 (by decide) (by decide) rfl rfl ?_
                                                                    refine g_aload_n (pc := 1046) X 0 rfl dL_law_1046 ?_
                                                                    refine g_aload_nS (pc := 1047) X 3 rfl dL_law_1047 ?_
                                                                    refine g_iload_n (pc := 1048) X 2 rfl dL_law_1048 ?_
                                                                    refine g_iconst (pc := 1049) X (v := 1) dL_law_1049 rfl ?_
                                                                    refine g_iadd (pc := 1050) X dL_law_1050 ?_
                                                                    obtain ⟨k435, h⟩ := gd_i h
                                                                    refine g_sld (pc := 1051) X S k435 dL_law_1051 ?_
                                                                    obtain ⟨k436, h⟩ := gd_i h
                                                                    obtain ⟨r437, w438, h439, h⟩ := bd2_i h
                                                                    refine g_callV (pc := 1052) X FcX8 k436 mk_X8_pour q_948 q_949 q_947 (c_X8_pour h439) rfl rfl (by rw [Y.2.1]; decide)  rfl (rest := []) rfl (Nat.le_of_ble_eq_true rfl) ⟨lw_c Y.2.1 (by omega), lw_s Y.2.1 (by omega)⟩ dL_law_1052 (st' := [.int r437]) rfl ?_
                                                                    refine g_aload_n (pc := 1055) X 1 rfl dL_law_1055 ?_
                                                                    refine g_aload_nS (pc := 1056) X 3 rfl dL_law_1056 ?_
                                                                    refine g_iload_n (pc := 1057) X 2 rfl dL_law_1057 ?_
                                                                    refine g_iconst (pc := 1058) X (v := 1) dL_law_1058 rfl ?_
                                                                    refine g_iadd (pc := 1059) X dL_law_1059 ?_
                                                                    obtain ⟨k440, h⟩ := gd_i h
                                                                    refine g_sld (pc := 1060) X S k440 dL_law_1060 ?_
                                                                    obtain ⟨k441, h⟩ := gd_i h
                                                                    obtain ⟨r442, w443, h444, h⟩ := bd2_i h
                                                                    refine g_callV (pc := 1061) X FcX9 k441 mk_X9_pour q_1455 q_1456 q_1454 (c_X9_pour h444) rfl rfl (by rw [Y.2.1]; decide)  rfl (rest := [.int r437]) rfl (Nat.le_of_ble_eq_true rfl) ⟨lw_c Y.2.1 (by omega), lw_s Y.2.1 (by omega)⟩ dL_law_1061 (st' := [.int r442, .int r437]) rfl ?_
                                                                    refine g_icmp_eq (pc := 1064) X (tgt := 1392) dL_law_1064 rfl (fun c => ?_) (fun c => ?_)
                                                                    · have h := br_y c h
                                                                      obtain ⟨x445, e446, h⟩ := lb_i h
                                                                      refine g_iinc (pc := 1392) X 2 rfl dL_law_1392 (v := x445) e446.symm (by decide) (lv' := [(3, .int x445), (1, rf V v1), (2, rf V v2), (0, .ref b)]) rfl ?_
                                                                      refine g_goto (pc := 1395) X (tgt := 18) dL_law_1395 rfl ?_
                                                                      refine g_sub (lv' := [(1, rf V v1), (2, rf V v2), (3, .int x445), (0, .ref b)]) [1, 2, 0, 3] rfl ?_
                                                                      refine g_widen (ce' := ce + 10) (sl' := sl + 400) (by omega) (by omega) ?_
                                                                      exact ih (by omega) (by omega) h
                                                                    · have h := br_n c h
                                                                      refine g_iconst (pc := 1067) X (v := 0) dL_law_1067 rfl ?_
                                                                      exact absurd (rt_i h).1 (by decide)
                                                                  · have h := br_n c434 h
                                                                    by_cases c447 : ((xs (nx v3)) &&& 63) = 31
                                                                    · have h := br_y c447 h
                                                                      refine g_tswI (pc := 33) X 31 (tgt := 1069) dL_law_33 c447 (by decide) (by decide) rfl rfl ?_
                                                                      refine g_aload_n (pc := 1069) X 0 rfl dL_law_1069 ?_
                                                                      refine g_aload_nS (pc := 1070) X 3 rfl dL_law_1070 ?_
                                                                      refine g_iload_n (pc := 1071) X 2 rfl dL_law_1071 ?_
                                                                      refine g_iconst (pc := 1072) X (v := 1) dL_law_1072 rfl ?_
                                                                      refine g_iadd (pc := 1073) X dL_law_1073 ?_
                                                                      obtain ⟨k448, h⟩ := gd_i h
                                                                      refine g_sld (pc := 1074) X S k448 dL_law_1074 ?_
                                                                      obtain ⟨k449, h⟩ := gd_i h
                                                                      obtain ⟨r450, w451, h452, h⟩ := bd2_i h
                                                                      refine g_callV (pc := 1075) X FcX8 k449 mk_X8_reads q_953 q_954 q_952 (c_X8_reads h452) rfl rfl (by rw [Y.2.1]; decide)  rfl (rest := []) rfl (Nat.le_of_ble_eq_true rfl) ⟨lw_c Y.2.1 (by omega), lw_s Y.2.1 (by omega)⟩ dL_law_1075 (st' := [.int r450]) rfl ?_
                                                                      refine g_aload_n (pc := 1078) X 1 rfl dL_law_1078 ?_
                                                                      refine g_aload_nS (pc := 1079) X 3 rfl dL_law_1079 ?_
                                                                      refine g_iload_n (pc := 1080) X 2 rfl dL_law_1080 ?_
                                                                      refine g_iconst (pc := 1081) X (v := 1) dL_law_1081 rfl ?_
                                                                      refine g_iadd (pc := 1082) X dL_law_1082 ?_
                                                                      obtain ⟨k453, h⟩ := gd_i h
                                                                      refine g_sld (pc := 1083) X S k453 dL_law_1083 ?_
                                                                      obtain ⟨k454, h⟩ := gd_i h
                                                                      obtain ⟨r455, w456, h457, h⟩ := bd2_i h
                                                                      refine g_callV (pc := 1084) X FcX9 k454 mk_X9_reads q_1459 q_1460 q_1458 (c_X9_reads h457) rfl rfl (by rw [Y.2.1]; decide)  rfl (rest := [.int r450]) rfl (Nat.le_of_ble_eq_true rfl) ⟨lw_c Y.2.1 (by omega), lw_s Y.2.1 (by omega)⟩ dL_law_1084 (st' := [.int r455, .int r450]) rfl ?_
                                                                      refine g_icmp_eq (pc := 1087) X (tgt := 1392) dL_law_1087 rfl (fun c => ?_) (fun c => ?_)
                                                                      · have h := br_y c h
                                                                        obtain ⟨x458, e459, h⟩ := lb_i h
                                                                        refine g_iinc (pc := 1392) X 2 rfl dL_law_1392 (v := x458) e459.symm (by decide) (lv' := [(3, .int x458), (1, rf V v1), (2, rf V v2), (0, .ref b)]) rfl ?_
                                                                        refine g_goto (pc := 1395) X (tgt := 18) dL_law_1395 rfl ?_
                                                                        refine g_sub (lv' := [(1, rf V v1), (2, rf V v2), (3, .int x458), (0, .ref b)]) [1, 2, 0, 3] rfl ?_
                                                                        refine g_widen (ce' := ce + 10) (sl' := sl + 400) (by omega) (by omega) ?_
                                                                        exact ih (by omega) (by omega) h
                                                                      · have h := br_n c h
                                                                        refine g_iconst (pc := 1090) X (v := 0) dL_law_1090 rfl ?_
                                                                        exact absurd (rt_i h).1 (by decide)
                                                                    · have h := br_n c447 h
                                                                      by_cases c460 : ((xs (nx v3)) &&& 63) = 32
                                                                      · have h := br_y c460 h
                                                                        refine g_tswI (pc := 33) X 32 (tgt := 1092) dL_law_33 c460 (by decide) (by decide) rfl rfl ?_
                                                                        refine g_aload_n (pc := 1092) X 0 rfl dL_law_1092 ?_
                                                                        refine g_aload_nS (pc := 1093) X 3 rfl dL_law_1093 ?_
                                                                        refine g_iload_n (pc := 1094) X 2 rfl dL_law_1094 ?_
                                                                        refine g_iconst (pc := 1095) X (v := 1) dL_law_1095 rfl ?_
                                                                        refine g_iadd (pc := 1096) X dL_law_1096 ?_
                                                                        obtain ⟨k461, h⟩ := gd_i h
                                                                        refine g_sld (pc := 1097) X S k461 dL_law_1097 ?_
                                                                        refine g_aload_nS (pc := 1098) X 3 rfl dL_law_1098 ?_
                                                                        refine g_iload_n (pc := 1099) X 2 rfl dL_law_1099 ?_
                                                                        refine g_iconst (pc := 1100) X (v := 2) dL_law_1100 rfl ?_
                                                                        refine g_iadd (pc := 1101) X dL_law_1101 ?_
                                                                        obtain ⟨k462, h⟩ := gd_i h
                                                                        refine g_sld (pc := 1102) X S k462 dL_law_1102 ?_
                                                                        refine g_aload_nS (pc := 1103) X 3 rfl dL_law_1103 ?_
                                                                        refine g_iload_n (pc := 1104) X 2 rfl dL_law_1104 ?_
                                                                        refine g_iconst (pc := 1105) X (v := 3) dL_law_1105 rfl ?_
                                                                        refine g_iadd (pc := 1106) X dL_law_1106 ?_
                                                                        obtain ⟨k463, h⟩ := gd_i h
                                                                        refine g_sld (pc := 1107) X S k463 dL_law_1107 ?_
                                                                        refine g_aload_nS (pc := 1108) X 3 rfl dL_law_1108 ?_
                                                                        refine g_iload_n (pc := 1109) X 2 rfl dL_law_1109 ?_
                                                                        refine g_iconst (pc := 1110) X (v := 4) dL_law_1110 rfl ?_
                                                                        refine g_iadd (pc := 1111) X dL_law_1111 ?_
                                                                        obtain ⟨k464, h⟩ := gd_i h
                                                                        refine g_sld (pc := 1112) X S k464 dL_law_1112 ?_
                                                                        refine g_aload_nS (pc := 1113) X 3 rfl dL_law_1113 ?_
                                                                        refine g_iload_n (pc := 1114) X 2 rfl dL_law_1114 ?_
                                                                        refine g_iconst (pc := 1115) X (v := 5) dL_law_1115 rfl ?_
                                                                        refine g_iadd (pc := 1116) X dL_law_1116 ?_
                                                                        obtain ⟨k465, h⟩ := gd_i h
                                                                        refine g_sld (pc := 1117) X S k465 dL_law_1117 ?_
                                                                        obtain ⟨k466, h⟩ := gd_i h
                                                                        obtain ⟨r467, w468, h469, h⟩ := bd2_i h
                                                                        refine g_callV (pc := 1118) X FcX8 k466 mk_X8_copy q_957 q_958 q_956 (c_X8_copy h469) rfl rfl (by rw [Y.2.1]; decide)  rfl (rest := []) rfl (Nat.le_of_ble_eq_true rfl) ⟨lw_c Y.2.1 (by omega), lw_s Y.2.1 (by omega)⟩ dL_law_1118 (st' := [.int r467]) rfl ?_
                                                                        refine g_aload_n (pc := 1121) X 1 rfl dL_law_1121 ?_
                                                                        refine g_aload_nS (pc := 1122) X 3 rfl dL_law_1122 ?_
                                                                        refine g_iload_n (pc := 1123) X 2 rfl dL_law_1123 ?_
                                                                        refine g_iconst (pc := 1124) X (v := 1) dL_law_1124 rfl ?_
                                                                        refine g_iadd (pc := 1125) X dL_law_1125 ?_
                                                                        obtain ⟨k470, h⟩ := gd_i h
                                                                        refine g_sld (pc := 1126) X S k470 dL_law_1126 ?_
                                                                        refine g_aload_nS (pc := 1127) X 3 rfl dL_law_1127 ?_
                                                                        refine g_iload_n (pc := 1128) X 2 rfl dL_law_1128 ?_
                                                                        refine g_iconst (pc := 1129) X (v := 2) dL_law_1129 rfl ?_
                                                                        refine g_iadd (pc := 1130) X dL_law_1130 ?_
                                                                        obtain ⟨k471, h⟩ := gd_i h
                                                                        refine g_sld (pc := 1131) X S k471 dL_law_1131 ?_
                                                                        refine g_aload_nS (pc := 1132) X 3 rfl dL_law_1132 ?_
                                                                        refine g_iload_n (pc := 1133) X 2 rfl dL_law_1133 ?_
                                                                        refine g_iconst (pc := 1134) X (v := 3) dL_law_1134 rfl ?_
                                                                        refine g_iadd (pc := 1135) X dL_law_1135 ?_
                                                                        obtain ⟨k472, h⟩ := gd_i h
                                                                        refine g_sld (pc := 1136) X S k472 dL_law_1136 ?_
                                                                        refine g_aload_nS (pc := 1137) X 3 rfl dL_law_1137 ?_
                                                                        refine g_iload_n (pc := 1138) X 2 rfl dL_law_1138 ?_
                                                                        refine g_iconst (pc := 1139) X (v := 4) dL_law_1139 rfl ?_
                                                                        refine g_iadd (pc := 1140) X dL_law_1140 ?_
                                                                        obtain ⟨k473, h⟩ := gd_i h
                                                                        refine g_sld (pc := 1141) X S k473 dL_law_1141 ?_
                                                                        refine g_aload_nS (pc := 1142) X 3 rfl dL_law_1142 ?_
                                                                        refine g_iload_n (pc := 1143) X 2 rfl dL_law_1143 ?_
                                                                        refine g_iconst (pc := 1144) X (v := 5) dL_law_1144 rfl ?_
                                                                        refine g_iadd (pc := 1145) X dL_law_1145 ?_
                                                                        obtain ⟨k474, h⟩ := gd_i h
                                                                        refine g_sld (pc := 1146) X S k474 dL_law_1146 ?_
                                                                        obtain ⟨k475, h⟩ := gd_i h
                                                                        obtain ⟨r476, w477, h478, h⟩ := bd2_i h
                                                                        refine g_callV (pc := 1147) X FcX9 k475 mk_X9_copy q_1463 q_1464 q_1462 (c_X9_copy h478) rfl rfl (by rw [Y.2.1]; decide)  rfl (rest := [.int r467]) rfl (Nat.le_of_ble_eq_true rfl) ⟨lw_c Y.2.1 (by omega), lw_s Y.2.1 (by omega)⟩ dL_law_1147 (st' := [.int r476, .int r467]) rfl ?_
                                                                        refine g_icmp_eq (pc := 1150) X (tgt := 1392) dL_law_1150 rfl (fun c => ?_) (fun c => ?_)
                                                                        · have h := br_y c h
                                                                          obtain ⟨x479, e480, h⟩ := lb_i h
                                                                          refine g_iinc (pc := 1392) X 2 rfl dL_law_1392 (v := x479) e480.symm (by decide) (lv' := [(3, .int x479), (1, rf V v1), (2, rf V v2), (0, .ref b)]) rfl ?_
                                                                          refine g_goto (pc := 1395) X (tgt := 18) dL_law_1395 rfl ?_
                                                                          refine g_sub (lv' := [(1, rf V v1), (2, rf V v2), (3, .int x479), (0, .ref b)]) [1, 2, 0, 3] rfl ?_
                                                                          refine g_widen (ce' := ce + 10) (sl' := sl + 400) (by omega) (by omega) ?_
                                                                          exact ih (by omega) (by omega) h
                                                                        · have h := br_n c h
                                                                          refine g_iconst (pc := 1153) X (v := 0) dL_law_1153 rfl ?_
                                                                          exact absurd (rt_i h).1 (by decide)
                                                                      · have h := br_n c460 h
                                                                        by_cases c481 : ((xs (nx v3)) &&& 63) = 33
                                                                        · have h := br_y c481 h
                                                                          refine g_tswI (pc := 33) X 33 (tgt := 1155) dL_law_33 c481 (by decide) (by decide) rfl rfl ?_
                                                                          refine g_aload_n (pc := 1155) X 0 rfl dL_law_1155 ?_
                                                                          refine g_aload_nS (pc := 1156) X 3 rfl dL_law_1156 ?_
                                                                          refine g_iload_n (pc := 1157) X 2 rfl dL_law_1157 ?_
                                                                          refine g_iconst (pc := 1158) X (v := 1) dL_law_1158 rfl ?_
                                                                          refine g_iadd (pc := 1159) X dL_law_1159 ?_
                                                                          obtain ⟨k482, h⟩ := gd_i h
                                                                          refine g_sld (pc := 1160) X S k482 dL_law_1160 ?_
                                                                          refine g_aload_nS (pc := 1161) X 3 rfl dL_law_1161 ?_
                                                                          refine g_iload_n (pc := 1162) X 2 rfl dL_law_1162 ?_
                                                                          refine g_iconst (pc := 1163) X (v := 2) dL_law_1163 rfl ?_
                                                                          refine g_iadd (pc := 1164) X dL_law_1164 ?_
                                                                          obtain ⟨k483, h⟩ := gd_i h
                                                                          refine g_sld (pc := 1165) X S k483 dL_law_1165 ?_
                                                                          refine g_aload_nS (pc := 1166) X 3 rfl dL_law_1166 ?_
                                                                          refine g_iload_n (pc := 1167) X 2 rfl dL_law_1167 ?_
                                                                          refine g_iconst (pc := 1168) X (v := 3) dL_law_1168 rfl ?_
                                                                          refine g_iadd (pc := 1169) X dL_law_1169 ?_
                                                                          obtain ⟨k484, h⟩ := gd_i h
                                                                          refine g_sld (pc := 1170) X S k484 dL_law_1170 ?_
                                                                          obtain ⟨k485, h⟩ := gd_i h
                                                                          obtain ⟨r486, w487, h488, h⟩ := bd2_i h
                                                                          refine g_callV (pc := 1171) X FcX8 k485 mk_X8_lay q_966 q_967 q_965 (c_X8_lay h488) rfl rfl (by rw [Y.2.1]; decide)  rfl (rest := []) rfl (Nat.le_of_ble_eq_true rfl) ⟨lw_c Y.2.1 (by omega), lw_s Y.2.1 (by omega)⟩ dL_law_1171 (st' := [.int r486]) rfl ?_
                                                                          refine g_aload_n (pc := 1174) X 1 rfl dL_law_1174 ?_
                                                                          refine g_aload_nS (pc := 1175) X 3 rfl dL_law_1175 ?_
                                                                          refine g_iload_n (pc := 1176) X 2 rfl dL_law_1176 ?_
                                                                          refine g_iconst (pc := 1177) X (v := 1) dL_law_1177 rfl ?_
                                                                          refine g_iadd (pc := 1178) X dL_law_1178 ?_
                                                                          obtain ⟨k489, h⟩ := gd_i h
                                                                          refine g_sld (pc := 1179) X S k489 dL_law_1179 ?_
                                                                          refine g_aload_nS (pc := 1180) X 3 rfl dL_law_1180 ?_
                                                                          refine g_iload_n (pc := 1181) X 2 rfl dL_law_1181 ?_
                                                                          refine g_iconst (pc := 1182) X (v := 2) dL_law_1182 rfl ?_
                                                                          refine g_iadd (pc := 1183) X dL_law_1183 ?_
                                                                          obtain ⟨k490, h⟩ := gd_i h
                                                                          refine g_sld (pc := 1184) X S k490 dL_law_1184 ?_
                                                                          refine g_aload_nS (pc := 1185) X 3 rfl dL_law_1185 ?_
                                                                          refine g_iload_n (pc := 1186) X 2 rfl dL_law_1186 ?_
                                                                          refine g_iconst (pc := 1187) X (v := 3) dL_law_1187 rfl ?_
                                                                          refine g_iadd (pc := 1188) X dL_law_1188 ?_
                                                                          obtain ⟨k491, h⟩ := gd_i h
                                                                          refine g_sld (pc := 1189) X S k491 dL_law_1189 ?_
                                                                          obtain ⟨k492, h⟩ := gd_i h
                                                                          obtain ⟨r493, w494, h495, h⟩ := bd2_i h
                                                                          refine g_callV (pc := 1190) X FcX9 k492 mk_X9_lay q_1467 q_1468 q_1466 (c_X9_lay h495) rfl rfl (by rw [Y.2.1]; decide)  rfl (rest := [.int r486]) rfl (Nat.le_of_ble_eq_true rfl) ⟨lw_c Y.2.1 (by omega), lw_s Y.2.1 (by omega)⟩ dL_law_1190 (st' := [.int r493, .int r486]) rfl ?_
                                                                          refine g_icmp_eq (pc := 1193) X (tgt := 1392) dL_law_1193 rfl (fun c => ?_) (fun c => ?_)
                                                                          · have h := br_y c h
                                                                            obtain ⟨x496, e497, h⟩ := lb_i h
                                                                            refine g_iinc (pc := 1392) X 2 rfl dL_law_1392 (v := x496) e497.symm (by decide) (lv' := [(3, .int x496), (1, rf V v1), (2, rf V v2), (0, .ref b)]) rfl ?_
                                                                            refine g_goto (pc := 1395) X (tgt := 18) dL_law_1395 rfl ?_
                                                                            refine g_sub (lv' := [(1, rf V v1), (2, rf V v2), (3, .int x496), (0, .ref b)]) [1, 2, 0, 3] rfl ?_
                                                                            refine g_widen (ce' := ce + 10) (sl' := sl + 400) (by omega) (by omega) ?_
                                                                            exact ih (by omega) (by omega) h
                                                                          · have h := br_n c h
                                                                            refine g_iconst (pc := 1196) X (v := 0) dL_law_1196 rfl ?_
                                                                            exact absurd (rt_i h).1 (by decide)
                                                                        · have h := br_n c481 h
                                                                          by_cases c498 : ((xs (nx v3)) &&& 63) = 34
                                                                          · have h := br_y c498 h
                                                                            refine g_tswI (pc := 33) X 34 (tgt := 1198) dL_law_33 c498 (by decide) (by decide) rfl rfl ?_
                                                                            refine g_aload_n (pc := 1198) X 0 rfl dL_law_1198 ?_
                                                                            refine g_aload_nS (pc := 1199) X 3 rfl dL_law_1199 ?_
                                                                            refine g_iload_n (pc := 1200) X 2 rfl dL_law_1200 ?_
                                                                            refine g_iconst (pc := 1201) X (v := 1) dL_law_1201 rfl ?_
                                                                            refine g_iadd (pc := 1202) X dL_law_1202 ?_
                                                                            obtain ⟨k499, h⟩ := gd_i h
                                                                            refine g_sld (pc := 1203) X S k499 dL_law_1203 ?_
                                                                            refine g_aload_nS (pc := 1204) X 3 rfl dL_law_1204 ?_
                                                                            refine g_iload_n (pc := 1205) X 2 rfl dL_law_1205 ?_
                                                                            refine g_iconst (pc := 1206) X (v := 2) dL_law_1206 rfl ?_
                                                                            refine g_iadd (pc := 1207) X dL_law_1207 ?_
                                                                            obtain ⟨k500, h⟩ := gd_i h
                                                                            refine g_sld (pc := 1208) X S k500 dL_law_1208 ?_
                                                                            obtain ⟨k501, h⟩ := gd_i h
                                                                            obtain ⟨r502, w503, h504, h⟩ := bd2_i h
                                                                            refine g_callV (pc := 1209) X FcX8 k501 mk_X8_ask q_979 q_980 q_978 (c_X8_ask h504) rfl rfl (by rw [Y.2.1]; decide)  rfl (rest := []) rfl (Nat.le_of_ble_eq_true rfl) ⟨lw_c Y.2.1 (by omega), lw_s Y.2.1 (by omega)⟩ dL_law_1209 (st' := [.int r502]) rfl ?_
                                                                            refine g_aload_n (pc := 1212) X 1 rfl dL_law_1212 ?_
                                                                            refine g_aload_nS (pc := 1213) X 3 rfl dL_law_1213 ?_
                                                                            refine g_iload_n (pc := 1214) X 2 rfl dL_law_1214 ?_
                                                                            refine g_iconst (pc := 1215) X (v := 1) dL_law_1215 rfl ?_
                                                                            refine g_iadd (pc := 1216) X dL_law_1216 ?_
                                                                            obtain ⟨k505, h⟩ := gd_i h
                                                                            refine g_sld (pc := 1217) X S k505 dL_law_1217 ?_
                                                                            refine g_aload_nS (pc := 1218) X 3 rfl dL_law_1218 ?_
                                                                            refine g_iload_n (pc := 1219) X 2 rfl dL_law_1219 ?_
                                                                            refine g_iconst (pc := 1220) X (v := 2) dL_law_1220 rfl ?_
                                                                            refine g_iadd (pc := 1221) X dL_law_1221 ?_
                                                                            obtain ⟨k506, h⟩ := gd_i h
                                                                            refine g_sld (pc := 1222) X S k506 dL_law_1222 ?_
                                                                            obtain ⟨k507, h⟩ := gd_i h
                                                                            obtain ⟨r508, w509, h510, h⟩ := bd2_i h
                                                                            refine g_callV (pc := 1223) X FcX9 k507 mk_X9_ask q_1474 q_1475 q_1473 (c_X9_ask h510) rfl rfl (by rw [Y.2.1]; decide)  rfl (rest := [.int r502]) rfl (Nat.le_of_ble_eq_true rfl) ⟨lw_c Y.2.1 (by omega), lw_s Y.2.1 (by omega)⟩ dL_law_1223 (st' := [.int r508, .int r502]) rfl ?_
                                                                            refine g_icmp_eq (pc := 1226) X (tgt := 1392) dL_law_1226 rfl (fun c => ?_) (fun c => ?_)
                                                                            · have h := br_y c h
                                                                              obtain ⟨x511, e512, h⟩ := lb_i h
                                                                              refine g_iinc (pc := 1392) X 2 rfl dL_law_1392 (v := x511) e512.symm (by decide) (lv' := [(3, .int x511), (1, rf V v1), (2, rf V v2), (0, .ref b)]) rfl ?_
                                                                              refine g_goto (pc := 1395) X (tgt := 18) dL_law_1395 rfl ?_
                                                                              refine g_sub (lv' := [(1, rf V v1), (2, rf V v2), (3, .int x511), (0, .ref b)]) [1, 2, 0, 3] rfl ?_
                                                                              refine g_widen (ce' := ce + 10) (sl' := sl + 400) (by omega) (by omega) ?_
                                                                              exact ih (by omega) (by omega) h
                                                                            · have h := br_n c h
                                                                              refine g_iconst (pc := 1229) X (v := 0) dL_law_1229 rfl ?_
                                                                              exact absurd (rt_i h).1 (by decide)
                                                                          · have h := br_n c498 h
                                                                            by_cases c513 : ((xs (nx v3)) &&& 63) = 35
                                                                            · have h := br_y c513 h
                                                                              refine g_tswI (pc := 33) X 35 (tgt := 1231) dL_law_33 c513 (by decide) (by decide) rfl rfl ?_
                                                                              refine g_aload_n (pc := 1231) X 0 rfl dL_law_1231 ?_
                                                                              refine g_aload_nS (pc := 1232) X 3 rfl dL_law_1232 ?_
                                                                              refine g_iload_n (pc := 1233) X 2 rfl dL_law_1233 ?_
                                                                              refine g_iconst (pc := 1234) X (v := 1) dL_law_1234 rfl ?_
                                                                              refine g_iadd (pc := 1235) X dL_law_1235 ?_
                                                                              obtain ⟨k514, h⟩ := gd_i h
                                                                              refine g_sld (pc := 1236) X S k514 dL_law_1236 ?_
                                                                              refine g_aload_nS (pc := 1237) X 3 rfl dL_law_1237 ?_
                                                                              refine g_iload_n (pc := 1238) X 2 rfl dL_law_1238 ?_
                                                                              refine g_iconst (pc := 1239) X (v := 2) dL_law_1239 rfl ?_
                                                                              refine g_iadd (pc := 1240) X dL_law_1240 ?_
                                                                              obtain ⟨k515, h⟩ := gd_i h
                                                                              refine g_sld (pc := 1241) X S k515 dL_law_1241 ?_
                                                                              obtain ⟨k516, h⟩ := gd_i h
                                                                              obtain ⟨r517, w518, h519, h⟩ := bd2_i h
                                                                              refine g_callV (pc := 1242) X FcX8 k516 mk_X8_item q_983 q_984 q_982 (c_X8_item h519) rfl rfl (by rw [Y.2.1]; decide)  rfl (rest := []) rfl (Nat.le_of_ble_eq_true rfl) ⟨lw_c Y.2.1 (by omega), lw_s Y.2.1 (by omega)⟩ dL_law_1242 (st' := [.int r517]) rfl ?_
                                                                              refine g_aload_n (pc := 1245) X 1 rfl dL_law_1245 ?_
                                                                              refine g_aload_nS (pc := 1246) X 3 rfl dL_law_1246 ?_
                                                                              refine g_iload_n (pc := 1247) X 2 rfl dL_law_1247 ?_
                                                                              refine g_iconst (pc := 1248) X (v := 1) dL_law_1248 rfl ?_
                                                                              refine g_iadd (pc := 1249) X dL_law_1249 ?_
                                                                              obtain ⟨k520, h⟩ := gd_i h
                                                                              refine g_sld (pc := 1250) X S k520 dL_law_1250 ?_
                                                                              refine g_aload_nS (pc := 1251) X 3 rfl dL_law_1251 ?_
                                                                              refine g_iload_n (pc := 1252) X 2 rfl dL_law_1252 ?_
                                                                              refine g_iconst (pc := 1253) X (v := 2) dL_law_1253 rfl ?_
                                                                              refine g_iadd (pc := 1254) X dL_law_1254 ?_
                                                                              obtain ⟨k521, h⟩ := gd_i h
                                                                              refine g_sld (pc := 1255) X S k521 dL_law_1255 ?_
                                                                              obtain ⟨k522, h⟩ := gd_i h
                                                                              obtain ⟨r523, w524, h525, h⟩ := bd2_i h
                                                                              refine g_callV (pc := 1256) X FcX9 k522 mk_X9_item q_1478 q_1479 q_1477 (c_X9_item h525) rfl rfl (by rw [Y.2.1]; decide)  rfl (rest := [.int r517]) rfl (Nat.le_of_ble_eq_true rfl) ⟨lw_c Y.2.1 (by omega), lw_s Y.2.1 (by omega)⟩ dL_law_1256 (st' := [.int r523, .int r517]) rfl ?_
                                                                              refine g_icmp_eq (pc := 1259) X (tgt := 1392) dL_law_1259 rfl (fun c => ?_) (fun c => ?_)
                                                                              · have h := br_y c h
                                                                                obtain ⟨x526, e527, h⟩ := lb_i h
                                                                                refine g_iinc (pc := 1392) X 2 rfl dL_law_1392 (v := x526) e527.symm (by decide) (lv' := [(3, .int x526), (1, rf V v1), (2, rf V v2), (0, .ref b)]) rfl ?_
                                                                                refine g_goto (pc := 1395) X (tgt := 18) dL_law_1395 rfl ?_
                                                                                refine g_sub (lv' := [(1, rf V v1), (2, rf V v2), (3, .int x526), (0, .ref b)]) [1, 2, 0, 3] rfl ?_
                                                                                refine g_widen (ce' := ce + 10) (sl' := sl + 400) (by omega) (by omega) ?_
                                                                                exact ih (by omega) (by omega) h
                                                                              · have h := br_n c h
                                                                                refine g_iconst (pc := 1262) X (v := 0) dL_law_1262 rfl ?_
                                                                                exact absurd (rt_i h).1 (by decide)
                                                                            · have h := br_n c513 h
                                                                              by_cases c528 : ((xs (nx v3)) &&& 63) = 36
                                                                              · have h := br_y c528 h
                                                                                refine g_tswI (pc := 33) X 36 (tgt := 1264) dL_law_33 c528 (by decide) (by decide) rfl rfl ?_
                                                                                refine g_aload_n (pc := 1264) X 0 rfl dL_law_1264 ?_
                                                                                refine g_aload_nS (pc := 1265) X 3 rfl dL_law_1265 ?_
                                                                                refine g_iload_n (pc := 1266) X 2 rfl dL_law_1266 ?_
                                                                                refine g_iconst (pc := 1267) X (v := 1) dL_law_1267 rfl ?_
                                                                                refine g_iadd (pc := 1268) X dL_law_1268 ?_
                                                                                obtain ⟨k529, h⟩ := gd_i h
                                                                                refine g_sld (pc := 1269) X S k529 dL_law_1269 ?_
                                                                                refine g_aload_nS (pc := 1270) X 3 rfl dL_law_1270 ?_
                                                                                refine g_iload_n (pc := 1271) X 2 rfl dL_law_1271 ?_
                                                                                refine g_iconst (pc := 1272) X (v := 2) dL_law_1272 rfl ?_
                                                                                refine g_iadd (pc := 1273) X dL_law_1273 ?_
                                                                                obtain ⟨k530, h⟩ := gd_i h
                                                                                refine g_sld (pc := 1274) X S k530 dL_law_1274 ?_
                                                                                obtain ⟨k531, h⟩ := gd_i h
                                                                                obtain ⟨r532, w533, h534, h⟩ := bd2_i h
                                                                                refine g_callV (pc := 1275) X FcX8 k531 mk_X8_rest q_987 q_988 q_986 (c_X8_rest h534) rfl rfl (by rw [Y.2.1]; decide)  rfl (rest := []) rfl (Nat.le_of_ble_eq_true rfl) ⟨lw_c Y.2.1 (by omega), lw_s Y.2.1 (by omega)⟩ dL_law_1275 (st' := [.int r532]) rfl ?_
                                                                                refine g_aload_n (pc := 1278) X 1 rfl dL_law_1278 ?_
                                                                                refine g_aload_nS (pc := 1279) X 3 rfl dL_law_1279 ?_
                                                                                refine g_iload_n (pc := 1280) X 2 rfl dL_law_1280 ?_
                                                                                refine g_iconst (pc := 1281) X (v := 1) dL_law_1281 rfl ?_
                                                                                refine g_iadd (pc := 1282) X dL_law_1282 ?_
                                                                                obtain ⟨k535, h⟩ := gd_i h
                                                                                refine g_sld (pc := 1283) X S k535 dL_law_1283 ?_
                                                                                refine g_aload_nS (pc := 1284) X 3 rfl dL_law_1284 ?_
                                                                                refine g_iload_n (pc := 1285) X 2 rfl dL_law_1285 ?_
                                                                                refine g_iconst (pc := 1286) X (v := 2) dL_law_1286 rfl ?_
                                                                                refine g_iadd (pc := 1287) X dL_law_1287 ?_
                                                                                obtain ⟨k536, h⟩ := gd_i h
                                                                                refine g_sld (pc := 1288) X S k536 dL_law_1288 ?_
                                                                                obtain ⟨k537, h⟩ := gd_i h
                                                                                obtain ⟨r538, w539, h540, h⟩ := bd2_i h
                                                                                refine g_callV (pc := 1289) X FcX9 k537 mk_X9_rest q_1482 q_1483 q_1481 (c_X9_rest h540) rfl rfl (by rw [Y.2.1]; decide)  rfl (rest := [.int r532]) rfl (Nat.le_of_ble_eq_true rfl) ⟨lw_c Y.2.1 (by omega), lw_s Y.2.1 (by omega)⟩ dL_law_1289 (st' := [.int r538, .int r532]) rfl ?_
                                                                                refine g_icmp_eq (pc := 1292) X (tgt := 1392) dL_law_1292 rfl (fun c => ?_) (fun c => ?_)
                                                                                · have h := br_y c h
                                                                                  obtain ⟨x541, e542, h⟩ := lb_i h
                                                                                  refine g_iinc (pc := 1392) X 2 rfl dL_law_1392 (v := x541) e542.symm (by decide) (lv' := [(3, .int x541), (1, rf V v1), (2, rf V v2), (0, .ref b)]) rfl ?_
                                                                                  refine g_goto (pc := 1395) X (tgt := 18) dL_law_1395 rfl ?_
                                                                                  refine g_sub (lv' := [(1, rf V v1), (2, rf V v2), (3, .int x541), (0, .ref b)]) [1, 2, 0, 3] rfl ?_
                                                                                  refine g_widen (ce' := ce + 10) (sl' := sl + 400) (by omega) (by omega) ?_
                                                                                  exact ih (by omega) (by omega) h
                                                                                · have h := br_n c h
                                                                                  refine g_iconst (pc := 1295) X (v := 0) dL_law_1295 rfl ?_
                                                                                  exact absurd (rt_i h).1 (by decide)
                                                                              · have h := br_n c528 h
                                                                                by_cases c543 : ((xs (nx v3)) &&& 63) = 37
                                                                                · have h := br_y c543 h
                                                                                  refine g_tswI (pc := 33) X 37 (tgt := 1297) dL_law_33 c543 (by decide) (by decide) rfl rfl ?_
                                                                                  refine g_aload_n (pc := 1297) X 0 rfl dL_law_1297 ?_
                                                                                  refine g_aload_nS (pc := 1298) X 3 rfl dL_law_1298 ?_
                                                                                  refine g_iload_n (pc := 1299) X 2 rfl dL_law_1299 ?_
                                                                                  refine g_iconst (pc := 1300) X (v := 1) dL_law_1300 rfl ?_
                                                                                  refine g_iadd (pc := 1301) X dL_law_1301 ?_
                                                                                  obtain ⟨k544, h⟩ := gd_i h
                                                                                  refine g_sld (pc := 1302) X S k544 dL_law_1302 ?_
                                                                                  obtain ⟨k545, h⟩ := gd_i h
                                                                                  obtain ⟨r546, w547, h548, h⟩ := bd2_i h
                                                                                  refine g_callV (pc := 1303) X FcX8 k545 mk_X8_tell q_991 q_992 q_990 (c_X8_tell h548) rfl rfl (by rw [Y.2.1]; decide)  rfl (rest := []) rfl (Nat.le_of_ble_eq_true rfl) ⟨lw_c Y.2.1 (by omega), lw_s Y.2.1 (by omega)⟩ dL_law_1303 (st' := [.int r546]) rfl ?_
                                                                                  refine g_aload_n (pc := 1306) X 1 rfl dL_law_1306 ?_
                                                                                  refine g_aload_nS (pc := 1307) X 3 rfl dL_law_1307 ?_
                                                                                  refine g_iload_n (pc := 1308) X 2 rfl dL_law_1308 ?_
                                                                                  refine g_iconst (pc := 1309) X (v := 1) dL_law_1309 rfl ?_
                                                                                  refine g_iadd (pc := 1310) X dL_law_1310 ?_
                                                                                  obtain ⟨k549, h⟩ := gd_i h
                                                                                  refine g_sld (pc := 1311) X S k549 dL_law_1311 ?_
                                                                                  obtain ⟨k550, h⟩ := gd_i h
                                                                                  obtain ⟨r551, w552, h553, h⟩ := bd2_i h
                                                                                  refine g_callV (pc := 1312) X FcX9 k550 mk_X9_tell q_1486 q_1487 q_1485 (c_X9_tell h553) rfl rfl (by rw [Y.2.1]; decide)  rfl (rest := [.int r546]) rfl (Nat.le_of_ble_eq_true rfl) ⟨lw_c Y.2.1 (by omega), lw_s Y.2.1 (by omega)⟩ dL_law_1312 (st' := [.int r551, .int r546]) rfl ?_
                                                                                  refine g_icmp_eq (pc := 1315) X (tgt := 1392) dL_law_1315 rfl (fun c => ?_) (fun c => ?_)
                                                                                  · have h := br_y c h
                                                                                    obtain ⟨x554, e555, h⟩ := lb_i h
                                                                                    refine g_iinc (pc := 1392) X 2 rfl dL_law_1392 (v := x554) e555.symm (by decide) (lv' := [(3, .int x554), (1, rf V v1), (2, rf V v2), (0, .ref b)]) rfl ?_
                                                                                    refine g_goto (pc := 1395) X (tgt := 18) dL_law_1395 rfl ?_
                                                                                    refine g_sub (lv' := [(1, rf V v1), (2, rf V v2), (3, .int x554), (0, .ref b)]) [1, 2, 0, 3] rfl ?_
                                                                                    refine g_widen (ce' := ce + 10) (sl' := sl + 400) (by omega) (by omega) ?_
                                                                                    exact ih (by omega) (by omega) h
                                                                                  · have h := br_n c h
                                                                                    refine g_iconst (pc := 1318) X (v := 0) dL_law_1318 rfl ?_
                                                                                    exact absurd (rt_i h).1 (by decide)
                                                                                · have h := br_n c543 h
                                                                                  by_cases c556 : ((xs (nx v3)) &&& 63) = 38
                                                                                  · have h := br_y c556 h
                                                                                    refine g_tswI (pc := 33) X 38 (tgt := 1320) dL_law_33 c556 (by decide) (by decide) rfl rfl ?_
                                                                                    refine g_aload_n (pc := 1320) X 0 rfl dL_law_1320 ?_
                                                                                    refine g_aload_nS (pc := 1321) X 3 rfl dL_law_1321 ?_
                                                                                    refine g_iload_n (pc := 1322) X 2 rfl dL_law_1322 ?_
                                                                                    refine g_iconst (pc := 1323) X (v := 1) dL_law_1323 rfl ?_
                                                                                    refine g_iadd (pc := 1324) X dL_law_1324 ?_
                                                                                    obtain ⟨k557, h⟩ := gd_i h
                                                                                    refine g_sld (pc := 1325) X S k557 dL_law_1325 ?_
                                                                                    obtain ⟨k558, h⟩ := gd_i h
                                                                                    obtain ⟨r559, w560, h561, h⟩ := bd2_i h
                                                                                    refine g_callV (pc := 1326) X FcX8 k558 mk_X8_check q_995 q_996 q_994 (c_X8_check h561) rfl rfl (by rw [Y.2.1]; decide)  rfl (rest := []) rfl (Nat.le_of_ble_eq_true rfl) ⟨lw_c Y.2.1 (by omega), lw_s Y.2.1 (by omega)⟩ dL_law_1326 (st' := [.int r559]) rfl ?_
                                                                                    refine g_aload_n (pc := 1329) X 1 rfl dL_law_1329 ?_
                                                                                    refine g_aload_nS (pc := 1330) X 3 rfl dL_law_1330 ?_
                                                                                    refine g_iload_n (pc := 1331) X 2 rfl dL_law_1331 ?_
                                                                                    refine g_iconst (pc := 1332) X (v := 1) dL_law_1332 rfl ?_
                                                                                    refine g_iadd (pc := 1333) X dL_law_1333 ?_
                                                                                    obtain ⟨k562, h⟩ := gd_i h
                                                                                    refine g_sld (pc := 1334) X S k562 dL_law_1334 ?_
                                                                                    obtain ⟨k563, h⟩ := gd_i h
                                                                                    obtain ⟨r564, w565, h566, h⟩ := bd2_i h
                                                                                    refine g_callV (pc := 1335) X FcX9 k563 mk_X9_check q_1490 q_1491 q_1489 (c_X9_check h566) rfl rfl (by rw [Y.2.1]; decide)  rfl (rest := [.int r559]) rfl (Nat.le_of_ble_eq_true rfl) ⟨lw_c Y.2.1 (by omega), lw_s Y.2.1 (by omega)⟩ dL_law_1335 (st' := [.int r564, .int r559]) rfl ?_
                                                                                    refine g_icmp_eq (pc := 1338) X (tgt := 1392) dL_law_1338 rfl (fun c => ?_) (fun c => ?_)
                                                                                    · have h := br_y c h
                                                                                      obtain ⟨x567, e568, h⟩ := lb_i h
                                                                                      refine g_iinc (pc := 1392) X 2 rfl dL_law_1392 (v := x567) e568.symm (by decide) (lv' := [(3, .int x567), (1, rf V v1), (2, rf V v2), (0, .ref b)]) rfl ?_
                                                                                      refine g_goto (pc := 1395) X (tgt := 18) dL_law_1395 rfl ?_
                                                                                      refine g_sub (lv' := [(1, rf V v1), (2, rf V v2), (3, .int x567), (0, .ref b)]) [1, 2, 0, 3] rfl ?_
                                                                                      refine g_widen (ce' := ce + 10) (sl' := sl + 400) (by omega) (by omega) ?_
                                                                                      exact ih (by omega) (by omega) h
                                                                                    · have h := br_n c h
                                                                                      refine g_iconst (pc := 1341) X (v := 0) dL_law_1341 rfl ?_
                                                                                      exact absurd (rt_i h).1 (by decide)
                                                                                  · have h := br_n c556 h
                                                                                    by_cases c569 : ((xs (nx v3)) &&& 63) = 39
                                                                                    · have h := br_y c569 h
                                                                                      refine g_tswI (pc := 33) X 39 (tgt := 1343) dL_law_33 c569 (by decide) (by decide) rfl rfl ?_
                                                                                      refine g_aload_n (pc := 1343) X 0 rfl dL_law_1343 ?_
                                                                                      obtain ⟨k570, h⟩ := gd_i h
                                                                                      obtain ⟨r571, w572, h573, h⟩ := bd2_i h
                                                                                      refine g_callV (pc := 1344) X FcX8 k570 mk_X8_keep q_1003 q_1004 q_1002 (c_X8_keep h573) rfl rfl (by rw [Y.2.1]; decide)  rfl (rest := []) rfl (Nat.le_of_ble_eq_true rfl) ⟨lw_c Y.2.1 (by omega), lw_s Y.2.1 (by omega)⟩ dL_law_1344 (st' := [.int r571]) rfl ?_
                                                                                      refine g_aload_n (pc := 1347) X 1 rfl dL_law_1347 ?_
                                                                                      obtain ⟨k574, h⟩ := gd_i h
                                                                                      obtain ⟨r575, w576, h577, h⟩ := bd2_i h
                                                                                      refine g_callV (pc := 1348) X FcX9 k574 mk_X9_keep q_1497 q_1498 q_1496 (c_X9_keep h577) rfl rfl (by rw [Y.2.1]; decide)  rfl (rest := [.int r571]) rfl (Nat.le_of_ble_eq_true rfl) ⟨lw_c Y.2.1 (by omega), lw_s Y.2.1 (by omega)⟩ dL_law_1348 (st' := [.int r575, .int r571]) rfl ?_
                                                                                      refine g_icmp_eq (pc := 1351) X (tgt := 1392) dL_law_1351 rfl (fun c => ?_) (fun c => ?_)
                                                                                      · have h := br_y c h
                                                                                        obtain ⟨x578, e579, h⟩ := lb_i h
                                                                                        refine g_iinc (pc := 1392) X 2 rfl dL_law_1392 (v := x578) e579.symm (by decide) (lv' := [(3, .int x578), (1, rf V v1), (2, rf V v2), (0, .ref b)]) rfl ?_
                                                                                        refine g_goto (pc := 1395) X (tgt := 18) dL_law_1395 rfl ?_
                                                                                        refine g_sub (lv' := [(1, rf V v1), (2, rf V v2), (3, .int x578), (0, .ref b)]) [1, 2, 0, 3] rfl ?_
                                                                                        refine g_widen (ce' := ce + 10) (sl' := sl + 400) (by omega) (by omega) ?_
                                                                                        exact ih (by omega) (by omega) h
                                                                                      · have h := br_n c h
                                                                                        refine g_iconst (pc := 1354) X (v := 0) dL_law_1354 rfl ?_
                                                                                        exact absurd (rt_i h).1 (by decide)
                                                                                    · have h := br_n c569 h
                                                                                      by_cases c580 : ((xs (nx v3)) &&& 63) = 40
                                                                                      · have h := br_y c580 h
                                                                                        refine g_tswI (pc := 33) X 40 (tgt := 1356) dL_law_33 c580 (by decide) (by decide) rfl rfl ?_
                                                                                        refine g_aload_n (pc := 1356) X 0 rfl dL_law_1356 ?_
                                                                                        obtain ⟨k581, h⟩ := gd_i h
                                                                                        obtain ⟨r582, w583, h584, h⟩ := bd2_i h
                                                                                        refine g_callV (pc := 1357) X FcX8 k581 mk_X8_back q_1007 q_1008 q_1006 (c_X8_back h584) rfl rfl (by rw [Y.2.1]; decide)  rfl (rest := []) rfl (Nat.le_of_ble_eq_true rfl) ⟨lw_c Y.2.1 (by omega), lw_s Y.2.1 (by omega)⟩ dL_law_1357 (st' := [.int r582]) rfl ?_
                                                                                        refine g_aload_n (pc := 1360) X 1 rfl dL_law_1360 ?_
                                                                                        obtain ⟨k585, h⟩ := gd_i h
                                                                                        obtain ⟨r586, w587, h588, h⟩ := bd2_i h
                                                                                        refine g_callV (pc := 1361) X FcX9 k585 mk_X9_back q_1501 q_1502 q_1500 (c_X9_back h588) rfl rfl (by rw [Y.2.1]; decide)  rfl (rest := [.int r582]) rfl (Nat.le_of_ble_eq_true rfl) ⟨lw_c Y.2.1 (by omega), lw_s Y.2.1 (by omega)⟩ dL_law_1361 (st' := [.int r586, .int r582]) rfl ?_
                                                                                        refine g_icmp_eq (pc := 1364) X (tgt := 1392) dL_law_1364 rfl (fun c => ?_) (fun c => ?_)
                                                                                        · have h := br_y c h
                                                                                          obtain ⟨x589, e590, h⟩ := lb_i h
                                                                                          refine g_iinc (pc := 1392) X 2 rfl dL_law_1392 (v := x589) e590.symm (by decide) (lv' := [(3, .int x589), (1, rf V v1), (2, rf V v2), (0, .ref b)]) rfl ?_
                                                                                          refine g_goto (pc := 1395) X (tgt := 18) dL_law_1395 rfl ?_
                                                                                          refine g_sub (lv' := [(1, rf V v1), (2, rf V v2), (3, .int x589), (0, .ref b)]) [1, 2, 0, 3] rfl ?_
                                                                                          refine g_widen (ce' := ce + 10) (sl' := sl + 400) (by omega) (by omega) ?_
                                                                                          exact ih (by omega) (by omega) h
                                                                                        · have h := br_n c h
                                                                                          refine g_iconst (pc := 1367) X (v := 0) dL_law_1367 rfl ?_
                                                                                          exact absurd (rt_i h).1 (by decide)
                                                                                      · have h := br_n c580 h
                                                                                        by_cases c591 : ((xs (nx v3)) &&& 63) = 41
                                                                                        · have h := br_y c591 h
                                                                                          refine g_tswI (pc := 33) X 41 (tgt := 1369) dL_law_33 c591 (by decide) (by decide) rfl rfl ?_
                                                                                          refine g_aload_n (pc := 1369) X 0 rfl dL_law_1369 ?_
                                                                                          refine g_aload_nS (pc := 1370) X 3 rfl dL_law_1370 ?_
                                                                                          refine g_iload_n (pc := 1371) X 2 rfl dL_law_1371 ?_
                                                                                          refine g_iconst (pc := 1372) X (v := 1) dL_law_1372 rfl ?_
                                                                                          refine g_iadd (pc := 1373) X dL_law_1373 ?_
                                                                                          obtain ⟨k592, h⟩ := gd_i h
                                                                                          refine g_sld (pc := 1374) X S k592 dL_law_1374 ?_
                                                                                          obtain ⟨k593, h⟩ := gd_i h
                                                                                          obtain ⟨r594, w595, h596, h⟩ := bd2_i h
                                                                                          refine g_callV (pc := 1375) X FcX8 k593 mk_X8_count q_1011 q_1012 q_1010 (c_X8_count h596) rfl rfl (by rw [Y.2.1]; decide)  rfl (rest := []) rfl (Nat.le_of_ble_eq_true rfl) ⟨lw_c Y.2.1 (by omega), lw_s Y.2.1 (by omega)⟩ dL_law_1375 (st' := [.int r594]) rfl ?_
                                                                                          refine g_aload_n (pc := 1378) X 1 rfl dL_law_1378 ?_
                                                                                          refine g_aload_nS (pc := 1379) X 3 rfl dL_law_1379 ?_
                                                                                          refine g_iload_n (pc := 1380) X 2 rfl dL_law_1380 ?_
                                                                                          refine g_iconst (pc := 1381) X (v := 1) dL_law_1381 rfl ?_
                                                                                          refine g_iadd (pc := 1382) X dL_law_1382 ?_
                                                                                          obtain ⟨k597, h⟩ := gd_i h
                                                                                          refine g_sld (pc := 1383) X S k597 dL_law_1383 ?_
                                                                                          obtain ⟨k598, h⟩ := gd_i h
                                                                                          obtain ⟨r599, w600, h601, h⟩ := bd2_i h
                                                                                          refine g_callV (pc := 1384) X FcX9 k598 mk_X9_count q_1505 q_1506 q_1504 (c_X9_count h601) rfl rfl (by rw [Y.2.1]; decide)  rfl (rest := [.int r594]) rfl (Nat.le_of_ble_eq_true rfl) ⟨lw_c Y.2.1 (by omega), lw_s Y.2.1 (by omega)⟩ dL_law_1384 (st' := [.int r599, .int r594]) rfl ?_
                                                                                          refine g_icmp_eq (pc := 1387) X (tgt := 1392) dL_law_1387 rfl (fun c => ?_) (fun c => ?_)
                                                                                          · have h := br_y c h
                                                                                            obtain ⟨x602, e603, h⟩ := lb_i h
                                                                                            refine g_iinc (pc := 1392) X 2 rfl dL_law_1392 (v := x602) e603.symm (by decide) (lv' := [(3, .int x602), (1, rf V v1), (2, rf V v2), (0, .ref b)]) rfl ?_
                                                                                            refine g_goto (pc := 1395) X (tgt := 18) dL_law_1395 rfl ?_
                                                                                            refine g_sub (lv' := [(1, rf V v1), (2, rf V v2), (3, .int x602), (0, .ref b)]) [1, 2, 0, 3] rfl ?_
                                                                                            refine g_widen (ce' := ce + 10) (sl' := sl + 400) (by omega) (by omega) ?_
                                                                                            exact ih (by omega) (by omega) h
                                                                                          · have h := br_n c h
                                                                                            refine g_iconst (pc := 1390) X (v := 0) dL_law_1390 rfl ?_
                                                                                            exact absurd (rt_i h).1 (by decide)
                                                                                        · have h := br_n c591 h
                                                                                          refine g_tswO (pc := 33) X (tgt := 1392) dL_law_33 (by have n0 : Int32.toInt ((xs (nx v3)) &&& 63) ≠ 0 := nt_ c16; have n1 : Int32.toInt ((xs (nx v3)) &&& 63) ≠ 1 := nt_ c33; have n2 : Int32.toInt ((xs (nx v3)) &&& 63) ≠ 2 := nt_ c46; have n3 : Int32.toInt ((xs (nx v3)) &&& 63) ≠ 3 := nt_ c61; have n4 : Int32.toInt ((xs (nx v3)) &&& 63) ≠ 4 := nt_ c76; have n5 : Int32.toInt ((xs (nx v3)) &&& 63) ≠ 5 := nt_ c91; have n6 : Int32.toInt ((xs (nx v3)) &&& 63) ≠ 6 := nt_ c106; have n7 : Int32.toInt ((xs (nx v3)) &&& 63) ≠ 7 := nt_ c119; have n8 : Int32.toInt ((xs (nx v3)) &&& 63) ≠ 8 := nt_ c132; have n9 : Int32.toInt ((xs (nx v3)) &&& 63) ≠ 9 := nt_ c147; have n10 : Int32.toInt ((xs (nx v3)) &&& 63) ≠ 10 := nt_ c162; have n11 : Int32.toInt ((xs (nx v3)) &&& 63) ≠ 11 := nt_ c175; have n12 : Int32.toInt ((xs (nx v3)) &&& 63) ≠ 12 := nt_ c188; have n13 : Int32.toInt ((xs (nx v3)) &&& 63) ≠ 13 := nt_ c201; have n14 : Int32.toInt ((xs (nx v3)) &&& 63) ≠ 14 := nt_ c214; have n15 : Int32.toInt ((xs (nx v3)) &&& 63) ≠ 15 := nt_ c227; have n16 : Int32.toInt ((xs (nx v3)) &&& 63) ≠ 16 := nt_ c240; have n17 : Int32.toInt ((xs (nx v3)) &&& 63) ≠ 17 := nt_ c253; have n18 : Int32.toInt ((xs (nx v3)) &&& 63) ≠ 18 := nt_ c268; have n19 : Int32.toInt ((xs (nx v3)) &&& 63) ≠ 19 := nt_ c279; have n20 : Int32.toInt ((xs (nx v3)) &&& 63) ≠ 20 := nt_ c294; have n21 : Int32.toInt ((xs (nx v3)) &&& 63) ≠ 21 := nt_ c307; have n22 : Int32.toInt ((xs (nx v3)) &&& 63) ≠ 22 := nt_ c318; have n23 : Int32.toInt ((xs (nx v3)) &&& 63) ≠ 23 := nt_ c331; have n24 : Int32.toInt ((xs (nx v3)) &&& 63) ≠ 24 := nt_ c348; have n25 : Int32.toInt ((xs (nx v3)) &&& 63) ≠ 25 := nt_ c361; have n26 : Int32.toInt ((xs (nx v3)) &&& 63) ≠ 26 := nt_ c372; have n27 : Int32.toInt ((xs (nx v3)) &&& 63) ≠ 27 := nt_ c387; have n28 : Int32.toInt ((xs (nx v3)) &&& 63) ≠ 28 := nt_ c400; have n29 : Int32.toInt ((xs (nx v3)) &&& 63) ≠ 29 := nt_ c417; have n30 : Int32.toInt ((xs (nx v3)) &&& 63) ≠ 30 := nt_ c434; have n31 : Int32.toInt ((xs (nx v3)) &&& 63) ≠ 31 := nt_ c447; have n32 : Int32.toInt ((xs (nx v3)) &&& 63) ≠ 32 := nt_ c460; have n33 : Int32.toInt ((xs (nx v3)) &&& 63) ≠ 33 := nt_ c481; have n34 : Int32.toInt ((xs (nx v3)) &&& 63) ≠ 34 := nt_ c498; have n35 : Int32.toInt ((xs (nx v3)) &&& 63) ≠ 35 := nt_ c513; have n36 : Int32.toInt ((xs (nx v3)) &&& 63) ≠ 36 := nt_ c528; have n37 : Int32.toInt ((xs (nx v3)) &&& 63) ≠ 37 := nt_ c543; have n38 : Int32.toInt ((xs (nx v3)) &&& 63) ≠ 38 := nt_ c556; have n39 : Int32.toInt ((xs (nx v3)) &&& 63) ≠ 39 := nt_ c569; have n40 : Int32.toInt ((xs (nx v3)) &&& 63) ≠ 40 := nt_ c580; have n41 : Int32.toInt ((xs (nx v3)) &&& 63) ≠ 41 := nt_ c591; omega) rfl ?_
                                                                                          obtain ⟨x604, e605, h⟩ := lb_i h
                                                                                          refine g_iinc (pc := 1392) X 2 rfl dL_law_1392 (v := x604) e605.symm (by decide) (lv' := [(3, .int x604), (1, rf V v1), (2, rf V v2), (0, .ref b)]) rfl ?_
                                                                                          refine g_goto (pc := 1395) X (tgt := 18) dL_law_1395 rfl ?_
                                                                                          refine g_sub (lv' := [(1, rf V v1), (2, rf V v2), (3, .int x604), (0, .ref b)]) [1, 2, 0, 3] rfl ?_
                                                                                          refine g_widen (ce' := ce + 10) (sl' := sl + 400) (by omega) (by omega) ?_
                                                                                          exact ih (by omega) (by omega) h

def f_L_law (xs : Nat → Int32) (L : Nat) (w : Wd) : Option (Int32 × Wd) := (lb_ (wN w) fun a1 =>
 (lb_ (nC w 8 10) fun w3 =>
 (bd2 (f_X8_init a1 w3) fun r5 w6 =>
 (lb_ (wN w6) fun a8 =>
 (lb_ (nC w6 9 35) fun w10 =>
 (bd2 (f_X9_init a8 w10) fun r12 w13 =>
 L_L_law_18 xs L FU a1 a8 0 w13))))))
set_option maxHeartbeats 4000000 in
set_option maxRecDepth 100000 in
theorem b_L_law {t : Ct} {V : Vt} {Q : State → Prop} {nm : String} {xs : Nat → Int32} {L b : Nat} {w w' : Wd} (Y : Hd_ t V cL_law 4 RL room_1 ret nm) (S : Sc_ t V b L xs) (hQ : ∀ (pc ce sl : Nat) (lv : List (Nat × Value)) (w : Wd), decode cL_law pc = .ok (.ireturn, 1) → ce ≤ 600000 → sl ≤ 7302250 → Gd t V 4 ce sl Q pc lv [.int 1] w) (h : f_L_law xs L w = some (1, w')) : Gd t V 4 0 0 Q 0 [(0, .ref b)] [] w := by
  have X := Y.1
  unfold f_L_law at h
  refine g_new (pc := 0) X FcX8 dfX8 q_82 q_83 q_64 (by rw [Y.2.1]; exact Nat.le_of_ble_eq_true rfl) (by rw [Y.2.1]; exact Nat.le_of_ble_eq_true rfl) dL_law_0 ?_
  obtain ⟨a1, e2, h⟩ := lb_i h
  obtain ⟨w3, e4, h⟩ := lb_i h
  refine g_w e4 ?_
  refine g_topr e2 ?_
  refine g_dup (pc := 3) X rfl dL_law_3 ?_
  obtain ⟨r5, w6, h7, h⟩ := bd2_i h
  refine g_callI (pc := 4) X mk_X8_init rfl q_85 q_84 (c_X8_init h7) rfl rfl (by rw [Y.2.1]; decide)  rfl (rest := [rf V a1]) rfl (Nat.le_of_ble_eq_true rfl) (by rw [Y.2.1]; exact ⟨Nat.le_of_ble_eq_true rfl, Nat.le_of_ble_eq_true rfl⟩) dL_law_4 (st' := [rf V a1]) rfl ?_
  refine g_astore_n (pc := 7) X (lv' := [(1, rf V a1), (0, .ref b)]) dL_law_7 (by decide) rfl ?_
  refine g_new (pc := 8) X FcX9 dfX9 q_1014 q_1015 q_72 (by rw [Y.2.1]; exact Nat.le_of_ble_eq_true rfl) (by rw [Y.2.1]; exact Nat.le_of_ble_eq_true rfl) dL_law_8 ?_
  obtain ⟨a8, e9, h⟩ := lb_i h
  obtain ⟨w10, e11, h⟩ := lb_i h
  refine g_w e11 ?_
  refine g_topr e9 ?_
  refine g_dup (pc := 11) X rfl dL_law_11 ?_
  obtain ⟨r12, w13, h14, h⟩ := bd2_i h
  refine g_callI (pc := 12) X mk_X9_init rfl q_1017 q_1016 (c_X9_init h14) rfl rfl (by rw [Y.2.1]; decide)  rfl (rest := [rf V a8]) rfl (Nat.le_of_ble_eq_true rfl) (by rw [Y.2.1]; exact ⟨Nat.le_of_ble_eq_true rfl, Nat.le_of_ble_eq_true rfl⟩) dL_law_12 (st' := [rf V a8]) rfl ?_
  refine g_astore_n (pc := 15) X (lv' := [(2, rf V a8), (1, rf V a1), (0, .ref b)]) dL_law_15 (by decide) rfl ?_
  refine g_iconst (pc := 16) X (v := 0) dL_law_16 rfl ?_
  refine g_istore_n (pc := 17) X (lv' := [(3, .int 0), (2, rf V a8), (1, rf V a1), (0, .ref b)]) dL_law_17 (by decide) rfl ?_
  refine g_sub (lv' := [(1, rf V a1), (2, rf V a8), (3, .int 0), (0, .ref b)]) [2, 1, 0, 3] rfl ?_
  exact bL_L_law_18 Y S hQ (Nat.le_of_ble_eq_true rfl) (Nat.le_of_ble_eq_true rfl) h


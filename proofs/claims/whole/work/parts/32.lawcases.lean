theorem kw_266 : Cond.methodLink RL 13 yX6_floor ∈ uw := uw_mem 266 (by decide +kernel) (by decide +kernel)
theorem kw_267 : Cond.instanceMethod yX6_floor ∈ uw := uw_mem 267 (by decide +kernel) (by decide +kernel)
theorem kw_268 : Cond.selects RX6 yX6_floor yX6_floor ∈ uw := uw_mem 268 (by decide +kernel) (by decide +kernel)
theorem kw_269 : Cond.code yX6_floor cX6_floor 2 (some .int) ∈ uw := uw_mem 269 (by decide +kernel) (by decide +kernel)
theorem kw_278 : Cond.methodLink RL 18 yX6_car ∈ uw := uw_mem 278 (by decide +kernel) (by decide +kernel)
theorem kw_279 : Cond.instanceMethod yX6_car ∈ uw := uw_mem 279 (by decide +kernel) (by decide +kernel)
theorem kw_280 : Cond.selects RX6 yX6_car yX6_car ∈ uw := uw_mem 280 (by decide +kernel) (by decide +kernel)
theorem kw_281 : Cond.code yX6_car cX6_car 4 (some .int) ∈ uw := uw_mem 281 (by decide +kernel) (by decide +kernel)
theorem kw_305 : Cond.methodLink RL 23 yX6_type ∈ uw := uw_mem 305 (by decide +kernel) (by decide +kernel)
theorem kw_306 : Cond.instanceMethod yX6_type ∈ uw := uw_mem 306 (by decide +kernel) (by decide +kernel)
theorem kw_307 : Cond.selects RX6 yX6_type yX6_type ∈ uw := uw_mem 307 (by decide +kernel) (by decide +kernel)
theorem kw_308 : Cond.code yX6_type cX6_type 2 (some .int) ∈ uw := uw_mem 308 (by decide +kernel) (by decide +kernel)
theorem kw_313 : Cond.methodLink RL 28 yX6_clear ∈ uw := uw_mem 313 (by decide +kernel) (by decide +kernel)
theorem kw_314 : Cond.instanceMethod yX6_clear ∈ uw := uw_mem 314 (by decide +kernel) (by decide +kernel)
theorem kw_315 : Cond.selects RX6 yX6_clear yX6_clear ∈ uw := uw_mem 315 (by decide +kernel) (by decide +kernel)
theorem kw_316 : Cond.code yX6_clear cX6_clear 2 (some .int) ∈ uw := uw_mem 316 (by decide +kernel) (by decide +kernel)
theorem kw_317 : Cond.methodLink RL 32 yX6_read ∈ uw := uw_mem 317 (by decide +kernel) (by decide +kernel)
theorem kw_318 : Cond.instanceMethod yX6_read ∈ uw := uw_mem 318 (by decide +kernel) (by decide +kernel)
theorem kw_319 : Cond.selects RX6 yX6_read yX6_read ∈ uw := uw_mem 319 (by decide +kernel) (by decide +kernel)
theorem kw_320 : Cond.code yX6_read cX6_read 2 (some .int) ∈ uw := uw_mem 320 (by decide +kernel) (by decide +kernel)
theorem kw_427 : Cond.methodLink RL 36 yX6_tick ∈ uw := uw_mem 427 (by decide +kernel) (by decide +kernel)
theorem kw_428 : Cond.instanceMethod yX6_tick ∈ uw := uw_mem 428 (by decide +kernel) (by decide +kernel)
theorem kw_429 : Cond.selects RX6 yX6_tick yX6_tick ∈ uw := uw_mem 429 (by decide +kernel) (by decide +kernel)
theorem kw_430 : Cond.code yX6_tick cX6_tick 2 (some .int) ∈ uw := uw_mem 430 (by decide +kernel) (by decide +kernel)
theorem kw_478 : Cond.methodLink RL 40 yX6_hat ∈ uw := uw_mem 478 (by decide +kernel) (by decide +kernel)
theorem kw_479 : Cond.instanceMethod yX6_hat ∈ uw := uw_mem 479 (by decide +kernel) (by decide +kernel)
theorem kw_480 : Cond.selects RX6 yX6_hat yX6_hat ∈ uw := uw_mem 480 (by decide +kernel) (by decide +kernel)
theorem kw_481 : Cond.code yX6_hat cX6_hat 3 (some .int) ∈ uw := uw_mem 481 (by decide +kernel) (by decide +kernel)
theorem kw_483 : Cond.methodLink RL 44 yX6_push ∈ uw := uw_mem 483 (by decide +kernel) (by decide +kernel)
theorem kw_484 : Cond.instanceMethod yX6_push ∈ uw := uw_mem 484 (by decide +kernel) (by decide +kernel)
theorem kw_485 : Cond.selects RX6 yX6_push yX6_push ∈ uw := uw_mem 485 (by decide +kernel) (by decide +kernel)
theorem kw_486 : Cond.code yX6_push cX6_push 6 (some .int) ∈ uw := uw_mem 486 (by decide +kernel) (by decide +kernel)
theorem kw_487 : Cond.methodLink RL 48 yX6_undo ∈ uw := uw_mem 487 (by decide +kernel) (by decide +kernel)
theorem kw_488 : Cond.instanceMethod yX6_undo ∈ uw := uw_mem 488 (by decide +kernel) (by decide +kernel)
theorem kw_489 : Cond.selects RX6 yX6_undo yX6_undo ∈ uw := uw_mem 489 (by decide +kernel) (by decide +kernel)
theorem kw_490 : Cond.code yX6_undo cX6_undo 1 (some .int) ∈ uw := uw_mem 490 (by decide +kernel) (by decide +kernel)
theorem kw_495 : Cond.methodLink RL 52 yX6_of ∈ uw := uw_mem 495 (by decide +kernel) (by decide +kernel)
theorem kw_496 : Cond.instanceMethod yX6_of ∈ uw := uw_mem 496 (by decide +kernel) (by decide +kernel)
theorem kw_497 : Cond.selects RX6 yX6_of yX6_of ∈ uw := uw_mem 497 (by decide +kernel) (by decide +kernel)
theorem kw_498 : Cond.code yX6_of cX6_of 3 (some .int) ∈ uw := uw_mem 498 (by decide +kernel) (by decide +kernel)
theorem kw_503 : Cond.methodLink RL 57 yX6_at ∈ uw := uw_mem 503 (by decide +kernel) (by decide +kernel)
theorem kw_504 : Cond.instanceMethod yX6_at ∈ uw := uw_mem 504 (by decide +kernel) (by decide +kernel)
theorem kw_505 : Cond.selects RX6 yX6_at yX6_at ∈ uw := uw_mem 505 (by decide +kernel) (by decide +kernel)
theorem kw_506 : Cond.code yX6_at cX6_at 2 (some .int) ∈ uw := uw_mem 506 (by decide +kernel) (by decide +kernel)
theorem kw_507 : Cond.methodLink RL 61 yX6_way ∈ uw := uw_mem 507 (by decide +kernel) (by decide +kernel)
theorem kw_508 : Cond.instanceMethod yX6_way ∈ uw := uw_mem 508 (by decide +kernel) (by decide +kernel)
theorem kw_509 : Cond.selects RX6 yX6_way yX6_way ∈ uw := uw_mem 509 (by decide +kernel) (by decide +kernel)
theorem kw_510 : Cond.code yX6_way cX6_way 2 (some .int) ∈ uw := uw_mem 510 (by decide +kernel) (by decide +kernel)
theorem kw_512 : Cond.methodLink RL 65 yX6_then ∈ uw := uw_mem 512 (by decide +kernel) (by decide +kernel)
theorem kw_513 : Cond.instanceMethod yX6_then ∈ uw := uw_mem 513 (by decide +kernel) (by decide +kernel)
theorem kw_514 : Cond.selects RX6 yX6_then yX6_then ∈ uw := uw_mem 514 (by decide +kernel) (by decide +kernel)
theorem kw_515 : Cond.code yX6_then cX6_then 5 (some .int) ∈ uw := uw_mem 515 (by decide +kernel) (by decide +kernel)
theorem kw_521 : Cond.methodLink RL 69 yX6_when ∈ uw := uw_mem 521 (by decide +kernel) (by decide +kernel)
theorem kw_522 : Cond.instanceMethod yX6_when ∈ uw := uw_mem 522 (by decide +kernel) (by decide +kernel)
theorem kw_523 : Cond.selects RX6 yX6_when yX6_when ∈ uw := uw_mem 523 (by decide +kernel) (by decide +kernel)
theorem kw_524 : Cond.code yX6_when cX6_when 5 (some .int) ∈ uw := uw_mem 524 (by decide +kernel) (by decide +kernel)
theorem kw_526 : Cond.methodLink RL 73 yX6_bumps ∈ uw := uw_mem 526 (by decide +kernel) (by decide +kernel)
theorem kw_527 : Cond.instanceMethod yX6_bumps ∈ uw := uw_mem 527 (by decide +kernel) (by decide +kernel)
theorem kw_528 : Cond.selects RX6 yX6_bumps yX6_bumps ∈ uw := uw_mem 528 (by decide +kernel) (by decide +kernel)
theorem kw_529 : Cond.code yX6_bumps cX6_bumps 2 (some .int) ∈ uw := uw_mem 529 (by decide +kernel) (by decide +kernel)
theorem kw_530 : Cond.methodLink RL 77 yX6_cluster ∈ uw := uw_mem 530 (by decide +kernel) (by decide +kernel)
theorem kw_531 : Cond.instanceMethod yX6_cluster ∈ uw := uw_mem 531 (by decide +kernel) (by decide +kernel)
theorem kw_532 : Cond.selects RX6 yX6_cluster yX6_cluster ∈ uw := uw_mem 532 (by decide +kernel) (by decide +kernel)
theorem kw_533 : Cond.code yX6_cluster cX6_cluster 3 (some .int) ∈ uw := uw_mem 533 (by decide +kernel) (by decide +kernel)
theorem kw_556 : Cond.methodLink RL 81 yX6_stand ∈ uw := uw_mem 556 (by decide +kernel) (by decide +kernel)
theorem kw_557 : Cond.instanceMethod yX6_stand ∈ uw := uw_mem 557 (by decide +kernel) (by decide +kernel)
theorem kw_558 : Cond.selects RX6 yX6_stand yX6_stand ∈ uw := uw_mem 558 (by decide +kernel) (by decide +kernel)
theorem kw_559 : Cond.code yX6_stand cX6_stand 3 (some .int) ∈ uw := uw_mem 559 (by decide +kernel) (by decide +kernel)
theorem kw_569 : Cond.methodLink RL 85 yX6_steer ∈ uw := uw_mem 569 (by decide +kernel) (by decide +kernel)
theorem kw_570 : Cond.instanceMethod yX6_steer ∈ uw := uw_mem 570 (by decide +kernel) (by decide +kernel)
theorem kw_571 : Cond.selects RX6 yX6_steer yX6_steer ∈ uw := uw_mem 571 (by decide +kernel) (by decide +kernel)
theorem kw_572 : Cond.code yX6_steer cX6_steer 6 (some .int) ∈ uw := uw_mem 572 (by decide +kernel) (by decide +kernel)
theorem kw_584 : Cond.methodLink RL 90 yX6_note ∈ uw := uw_mem 584 (by decide +kernel) (by decide +kernel)
theorem kw_585 : Cond.instanceMethod yX6_note ∈ uw := uw_mem 585 (by decide +kernel) (by decide +kernel)
theorem kw_586 : Cond.selects RX6 yX6_note yX6_note ∈ uw := uw_mem 586 (by decide +kernel) (by decide +kernel)
theorem kw_587 : Cond.code yX6_note cX6_note 9 (some .int) ∈ uw := uw_mem 587 (by decide +kernel) (by decide +kernel)
theorem kw_595 : Cond.methodLink RL 95 yX6_forget ∈ uw := uw_mem 595 (by decide +kernel) (by decide +kernel)
theorem kw_596 : Cond.instanceMethod yX6_forget ∈ uw := uw_mem 596 (by decide +kernel) (by decide +kernel)
theorem kw_597 : Cond.selects RX6 yX6_forget yX6_forget ∈ uw := uw_mem 597 (by decide +kernel) (by decide +kernel)
theorem kw_598 : Cond.code yX6_forget cX6_forget 2 (some .int) ∈ uw := uw_mem 598 (by decide +kernel) (by decide +kernel)
theorem kw_599 : Cond.methodLink RL 99 yX6_is ∈ uw := uw_mem 599 (by decide +kernel) (by decide +kernel)
theorem kw_600 : Cond.instanceMethod yX6_is ∈ uw := uw_mem 600 (by decide +kernel) (by decide +kernel)
theorem kw_601 : Cond.selects RX6 yX6_is yX6_is ∈ uw := uw_mem 601 (by decide +kernel) (by decide +kernel)
theorem kw_602 : Cond.code yX6_is cX6_is 2 (some .int) ∈ uw := uw_mem 602 (by decide +kernel) (by decide +kernel)
theorem kw_612 : Cond.methodLink RL 103 yX6_look ∈ uw := uw_mem 612 (by decide +kernel) (by decide +kernel)
theorem kw_613 : Cond.instanceMethod yX6_look ∈ uw := uw_mem 613 (by decide +kernel) (by decide +kernel)
theorem kw_614 : Cond.selects RX6 yX6_look yX6_look ∈ uw := uw_mem 614 (by decide +kernel) (by decide +kernel)
theorem kw_615 : Cond.code yX6_look cX6_look 2 (some .int) ∈ uw := uw_mem 615 (by decide +kernel) (by decide +kernel)
theorem kw_629 : Cond.methodLink RL 107 yX6_two ∈ uw := uw_mem 629 (by decide +kernel) (by decide +kernel)
theorem kw_630 : Cond.instanceMethod yX6_two ∈ uw := uw_mem 630 (by decide +kernel) (by decide +kernel)
theorem kw_631 : Cond.selects RX6 yX6_two yX6_two ∈ uw := uw_mem 631 (by decide +kernel) (by decide +kernel)
theorem kw_632 : Cond.code yX6_two cX6_two 5 (some .int) ∈ uw := uw_mem 632 (by decide +kernel) (by decide +kernel)
theorem kw_647 : Cond.methodLink RL 111 yX6_bell ∈ uw := uw_mem 647 (by decide +kernel) (by decide +kernel)
theorem kw_648 : Cond.instanceMethod yX6_bell ∈ uw := uw_mem 648 (by decide +kernel) (by decide +kernel)
theorem kw_649 : Cond.selects RX6 yX6_bell yX6_bell ∈ uw := uw_mem 649 (by decide +kernel) (by decide +kernel)
theorem kw_650 : Cond.code yX6_bell cX6_bell 3 (some .int) ∈ uw := uw_mem 650 (by decide +kernel) (by decide +kernel)
theorem kw_667 : Cond.methodLink RL 115 yX6_rounds ∈ uw := uw_mem 667 (by decide +kernel) (by decide +kernel)
theorem kw_668 : Cond.instanceMethod yX6_rounds ∈ uw := uw_mem 668 (by decide +kernel) (by decide +kernel)
theorem kw_669 : Cond.selects RX6 yX6_rounds yX6_rounds ∈ uw := uw_mem 669 (by decide +kernel) (by decide +kernel)
theorem kw_670 : Cond.code yX6_rounds cX6_rounds 3 (some .int) ∈ uw := uw_mem 670 (by decide +kernel) (by decide +kernel)
theorem kw_682 : Cond.methodLink RL 119 yX6_part ∈ uw := uw_mem 682 (by decide +kernel) (by decide +kernel)
theorem kw_683 : Cond.instanceMethod yX6_part ∈ uw := uw_mem 683 (by decide +kernel) (by decide +kernel)
theorem kw_684 : Cond.selects RX6 yX6_part yX6_part ∈ uw := uw_mem 684 (by decide +kernel) (by decide +kernel)
theorem kw_685 : Cond.code yX6_part cX6_part 2 (some .long) ∈ uw := uw_mem 685 (by decide +kernel) (by decide +kernel)
theorem kw_686 : Cond.methodLink RL 124 yX6_image ∈ uw := uw_mem 686 (by decide +kernel) (by decide +kernel)
theorem kw_687 : Cond.instanceMethod yX6_image ∈ uw := uw_mem 687 (by decide +kernel) (by decide +kernel)
theorem kw_688 : Cond.selects RX6 yX6_image yX6_image ∈ uw := uw_mem 688 (by decide +kernel) (by decide +kernel)
theorem kw_689 : Cond.code yX6_image cX6_image 2 (some .int) ∈ uw := uw_mem 689 (by decide +kernel) (by decide +kernel)
theorem kw_699 : Cond.methodLink RL 128 yX6_from ∈ uw := uw_mem 699 (by decide +kernel) (by decide +kernel)
theorem kw_700 : Cond.instanceMethod yX6_from ∈ uw := uw_mem 700 (by decide +kernel) (by decide +kernel)
theorem kw_701 : Cond.selects RX6 yX6_from yX6_from ∈ uw := uw_mem 701 (by decide +kernel) (by decide +kernel)
theorem kw_702 : Cond.code yX6_from cX6_from 2 (some .int) ∈ uw := uw_mem 702 (by decide +kernel) (by decide +kernel)
theorem kw_703 : Cond.methodLink RL 132 yX6_status ∈ uw := uw_mem 703 (by decide +kernel) (by decide +kernel)
theorem kw_704 : Cond.instanceMethod yX6_status ∈ uw := uw_mem 704 (by decide +kernel) (by decide +kernel)
theorem kw_705 : Cond.selects RX6 yX6_status yX6_status ∈ uw := uw_mem 705 (by decide +kernel) (by decide +kernel)
theorem kw_706 : Cond.code yX6_status cX6_status 2 (some .int) ∈ uw := uw_mem 706 (by decide +kernel) (by decide +kernel)
theorem kw_707 : Cond.methodLink RL 136 yX6_count ∈ uw := uw_mem 707 (by decide +kernel) (by decide +kernel)
theorem kw_708 : Cond.instanceMethod yX6_count ∈ uw := uw_mem 708 (by decide +kernel) (by decide +kernel)
theorem kw_709 : Cond.selects RX6 yX6_count yX6_count ∈ uw := uw_mem 709 (by decide +kernel) (by decide +kernel)
theorem kw_710 : Cond.code yX6_count cX6_count 2 (some .int) ∈ uw := uw_mem 710 (by decide +kernel) (by decide +kernel)
theorem kw_719 : Cond.methodLink RL 140 yX6_digest ∈ uw := uw_mem 719 (by decide +kernel) (by decide +kernel)
theorem kw_720 : Cond.instanceMethod yX6_digest ∈ uw := uw_mem 720 (by decide +kernel) (by decide +kernel)
theorem kw_721 : Cond.selects RX6 yX6_digest yX6_digest ∈ uw := uw_mem 721 (by decide +kernel) (by decide +kernel)
theorem kw_722 : Cond.code yX6_digest cX6_digest 4 (some .long) ∈ uw := uw_mem 722 (by decide +kernel) (by decide +kernel)
theorem kw_809 : Cond.methodLink RL 17 yX7_floor ∈ uw := uw_mem 809 (by decide +kernel) (by decide +kernel)
theorem kw_810 : Cond.instanceMethod yX7_floor ∈ uw := uw_mem 810 (by decide +kernel) (by decide +kernel)
theorem kw_811 : Cond.selects RX7 yX7_floor yX7_floor ∈ uw := uw_mem 811 (by decide +kernel) (by decide +kernel)
theorem kw_812 : Cond.code yX7_floor cX7_floor 2 (some .int) ∈ uw := uw_mem 812 (by decide +kernel) (by decide +kernel)
theorem kw_817 : Cond.methodLink RL 22 yX7_car ∈ uw := uw_mem 817 (by decide +kernel) (by decide +kernel)
theorem kw_818 : Cond.instanceMethod yX7_car ∈ uw := uw_mem 818 (by decide +kernel) (by decide +kernel)
theorem kw_819 : Cond.selects RX7 yX7_car yX7_car ∈ uw := uw_mem 819 (by decide +kernel) (by decide +kernel)
theorem kw_820 : Cond.code yX7_car cX7_car 4 (some .int) ∈ uw := uw_mem 820 (by decide +kernel) (by decide +kernel)
theorem kw_851 : Cond.methodLink RL 39 yX7_tick ∈ uw := uw_mem 851 (by decide +kernel) (by decide +kernel)
theorem kw_852 : Cond.instanceMethod yX7_tick ∈ uw := uw_mem 852 (by decide +kernel) (by decide +kernel)
theorem kw_853 : Cond.selects RX7 yX7_tick yX7_tick ∈ uw := uw_mem 853 (by decide +kernel) (by decide +kernel)
theorem kw_854 : Cond.code yX7_tick cX7_tick 4 (some .int) ∈ uw := uw_mem 854 (by decide +kernel) (by decide +kernel)
theorem kw_904 : Cond.methodLink RL 43 yX7_hat ∈ uw := uw_mem 904 (by decide +kernel) (by decide +kernel)
theorem kw_905 : Cond.instanceMethod yX7_hat ∈ uw := uw_mem 905 (by decide +kernel) (by decide +kernel)
theorem kw_906 : Cond.selects RX7 yX7_hat yX7_hat ∈ uw := uw_mem 906 (by decide +kernel) (by decide +kernel)
theorem kw_907 : Cond.code yX7_hat cX7_hat 3 (some .int) ∈ uw := uw_mem 907 (by decide +kernel) (by decide +kernel)
theorem kw_913 : Cond.methodLink RL 47 yX7_push ∈ uw := uw_mem 913 (by decide +kernel) (by decide +kernel)
theorem kw_914 : Cond.instanceMethod yX7_push ∈ uw := uw_mem 914 (by decide +kernel) (by decide +kernel)
theorem kw_915 : Cond.selects RX7 yX7_push yX7_push ∈ uw := uw_mem 915 (by decide +kernel) (by decide +kernel)
theorem kw_916 : Cond.code yX7_push cX7_push 6 (some .int) ∈ uw := uw_mem 916 (by decide +kernel) (by decide +kernel)
theorem kw_921 : Cond.methodLink RL 51 yX7_undo ∈ uw := uw_mem 921 (by decide +kernel) (by decide +kernel)
theorem kw_922 : Cond.instanceMethod yX7_undo ∈ uw := uw_mem 922 (by decide +kernel) (by decide +kernel)
theorem kw_923 : Cond.selects RX7 yX7_undo yX7_undo ∈ uw := uw_mem 923 (by decide +kernel) (by decide +kernel)
theorem kw_924 : Cond.code yX7_undo cX7_undo 2 (some .int) ∈ uw := uw_mem 924 (by decide +kernel) (by decide +kernel)
theorem kw_925 : Cond.methodLink RL 56 yX7_of ∈ uw := uw_mem 925 (by decide +kernel) (by decide +kernel)
theorem kw_926 : Cond.instanceMethod yX7_of ∈ uw := uw_mem 926 (by decide +kernel) (by decide +kernel)
theorem kw_927 : Cond.selects RX7 yX7_of yX7_of ∈ uw := uw_mem 927 (by decide +kernel) (by decide +kernel)
theorem kw_928 : Cond.code yX7_of cX7_of 3 (some .int) ∈ uw := uw_mem 928 (by decide +kernel) (by decide +kernel)
theorem kw_930 : Cond.methodLink RL 60 yX7_at ∈ uw := uw_mem 930 (by decide +kernel) (by decide +kernel)
theorem kw_931 : Cond.instanceMethod yX7_at ∈ uw := uw_mem 931 (by decide +kernel) (by decide +kernel)
theorem kw_932 : Cond.selects RX7 yX7_at yX7_at ∈ uw := uw_mem 932 (by decide +kernel) (by decide +kernel)
theorem kw_933 : Cond.code yX7_at cX7_at 2 (some .int) ∈ uw := uw_mem 933 (by decide +kernel) (by decide +kernel)
theorem kw_934 : Cond.methodLink RL 64 yX7_way ∈ uw := uw_mem 934 (by decide +kernel) (by decide +kernel)
theorem kw_935 : Cond.instanceMethod yX7_way ∈ uw := uw_mem 935 (by decide +kernel) (by decide +kernel)
theorem kw_936 : Cond.selects RX7 yX7_way yX7_way ∈ uw := uw_mem 936 (by decide +kernel) (by decide +kernel)
theorem kw_937 : Cond.code yX7_way cX7_way 2 (some .int) ∈ uw := uw_mem 937 (by decide +kernel) (by decide +kernel)
theorem kw_938 : Cond.methodLink RL 68 yX7_then ∈ uw := uw_mem 938 (by decide +kernel) (by decide +kernel)
theorem kw_939 : Cond.instanceMethod yX7_then ∈ uw := uw_mem 939 (by decide +kernel) (by decide +kernel)
theorem kw_940 : Cond.selects RX7 yX7_then yX7_then ∈ uw := uw_mem 940 (by decide +kernel) (by decide +kernel)
theorem kw_941 : Cond.code yX7_then cX7_then 5 (some .int) ∈ uw := uw_mem 941 (by decide +kernel) (by decide +kernel)
theorem kw_942 : Cond.methodLink RL 72 yX7_when ∈ uw := uw_mem 942 (by decide +kernel) (by decide +kernel)
theorem kw_943 : Cond.instanceMethod yX7_when ∈ uw := uw_mem 943 (by decide +kernel) (by decide +kernel)
theorem kw_944 : Cond.selects RX7 yX7_when yX7_when ∈ uw := uw_mem 944 (by decide +kernel) (by decide +kernel)
theorem kw_945 : Cond.code yX7_when cX7_when 4 (some .int) ∈ uw := uw_mem 945 (by decide +kernel) (by decide +kernel)
theorem kw_946 : Cond.methodLink RL 76 yX7_bumps ∈ uw := uw_mem 946 (by decide +kernel) (by decide +kernel)
theorem kw_947 : Cond.instanceMethod yX7_bumps ∈ uw := uw_mem 947 (by decide +kernel) (by decide +kernel)
theorem kw_948 : Cond.selects RX7 yX7_bumps yX7_bumps ∈ uw := uw_mem 948 (by decide +kernel) (by decide +kernel)
theorem kw_949 : Cond.code yX7_bumps cX7_bumps 2 (some .int) ∈ uw := uw_mem 949 (by decide +kernel) (by decide +kernel)
theorem kw_950 : Cond.methodLink RL 80 yX7_cluster ∈ uw := uw_mem 950 (by decide +kernel) (by decide +kernel)
theorem kw_951 : Cond.instanceMethod yX7_cluster ∈ uw := uw_mem 951 (by decide +kernel) (by decide +kernel)
theorem kw_952 : Cond.selects RX7 yX7_cluster yX7_cluster ∈ uw := uw_mem 952 (by decide +kernel) (by decide +kernel)
theorem kw_953 : Cond.code yX7_cluster cX7_cluster 4 (some .int) ∈ uw := uw_mem 953 (by decide +kernel) (by decide +kernel)
theorem kw_967 : Cond.methodLink RL 84 yX7_stand ∈ uw := uw_mem 967 (by decide +kernel) (by decide +kernel)
theorem kw_968 : Cond.instanceMethod yX7_stand ∈ uw := uw_mem 968 (by decide +kernel) (by decide +kernel)
theorem kw_969 : Cond.selects RX7 yX7_stand yX7_stand ∈ uw := uw_mem 969 (by decide +kernel) (by decide +kernel)
theorem kw_970 : Cond.code yX7_stand cX7_stand 7 (some .int) ∈ uw := uw_mem 970 (by decide +kernel) (by decide +kernel)
theorem kw_972 : Cond.methodLink RL 89 yX7_steer ∈ uw := uw_mem 972 (by decide +kernel) (by decide +kernel)
theorem kw_973 : Cond.instanceMethod yX7_steer ∈ uw := uw_mem 973 (by decide +kernel) (by decide +kernel)
theorem kw_974 : Cond.selects RX7 yX7_steer yX7_steer ∈ uw := uw_mem 974 (by decide +kernel) (by decide +kernel)
theorem kw_975 : Cond.code yX7_steer cX7_steer 5 (some .int) ∈ uw := uw_mem 975 (by decide +kernel) (by decide +kernel)
theorem kw_980 : Cond.methodLink RL 94 yX7_note ∈ uw := uw_mem 980 (by decide +kernel) (by decide +kernel)
theorem kw_981 : Cond.instanceMethod yX7_note ∈ uw := uw_mem 981 (by decide +kernel) (by decide +kernel)
theorem kw_982 : Cond.selects RX7 yX7_note yX7_note ∈ uw := uw_mem 982 (by decide +kernel) (by decide +kernel)
theorem kw_983 : Cond.code yX7_note cX7_note 9 (some .int) ∈ uw := uw_mem 983 (by decide +kernel) (by decide +kernel)
theorem kw_986 : Cond.methodLink RL 98 yX7_forget ∈ uw := uw_mem 986 (by decide +kernel) (by decide +kernel)
theorem kw_987 : Cond.instanceMethod yX7_forget ∈ uw := uw_mem 987 (by decide +kernel) (by decide +kernel)
theorem kw_988 : Cond.selects RX7 yX7_forget yX7_forget ∈ uw := uw_mem 988 (by decide +kernel) (by decide +kernel)
theorem kw_989 : Cond.code yX7_forget cX7_forget 2 (some .int) ∈ uw := uw_mem 989 (by decide +kernel) (by decide +kernel)
theorem kw_990 : Cond.methodLink RL 102 yX7_is ∈ uw := uw_mem 990 (by decide +kernel) (by decide +kernel)
theorem kw_991 : Cond.instanceMethod yX7_is ∈ uw := uw_mem 991 (by decide +kernel) (by decide +kernel)
theorem kw_992 : Cond.selects RX7 yX7_is yX7_is ∈ uw := uw_mem 992 (by decide +kernel) (by decide +kernel)
theorem kw_993 : Cond.code yX7_is cX7_is 2 (some .int) ∈ uw := uw_mem 993 (by decide +kernel) (by decide +kernel)
theorem kw_998 : Cond.methodLink RL 106 yX7_look ∈ uw := uw_mem 998 (by decide +kernel) (by decide +kernel)
theorem kw_999 : Cond.instanceMethod yX7_look ∈ uw := uw_mem 999 (by decide +kernel) (by decide +kernel)
theorem kw_1000 : Cond.selects RX7 yX7_look yX7_look ∈ uw := uw_mem 1000 (by decide +kernel) (by decide +kernel)
theorem kw_1001 : Cond.code yX7_look cX7_look 11 (some .int) ∈ uw := uw_mem 1001 (by decide +kernel) (by decide +kernel)
theorem kw_1002 : Cond.methodLink RL 110 yX7_two ∈ uw := uw_mem 1002 (by decide +kernel) (by decide +kernel)
theorem kw_1003 : Cond.instanceMethod yX7_two ∈ uw := uw_mem 1003 (by decide +kernel) (by decide +kernel)
theorem kw_1004 : Cond.selects RX7 yX7_two yX7_two ∈ uw := uw_mem 1004 (by decide +kernel) (by decide +kernel)
theorem kw_1005 : Cond.code yX7_two cX7_two 7 (some .int) ∈ uw := uw_mem 1005 (by decide +kernel) (by decide +kernel)
theorem kw_1014 : Cond.methodLink RL 114 yX7_bell ∈ uw := uw_mem 1014 (by decide +kernel) (by decide +kernel)
theorem kw_1015 : Cond.instanceMethod yX7_bell ∈ uw := uw_mem 1015 (by decide +kernel) (by decide +kernel)
theorem kw_1016 : Cond.selects RX7 yX7_bell yX7_bell ∈ uw := uw_mem 1016 (by decide +kernel) (by decide +kernel)
theorem kw_1017 : Cond.code yX7_bell cX7_bell 10 (some .int) ∈ uw := uw_mem 1017 (by decide +kernel) (by decide +kernel)
theorem kw_1024 : Cond.methodLink RL 118 yX7_rounds ∈ uw := uw_mem 1024 (by decide +kernel) (by decide +kernel)
theorem kw_1025 : Cond.instanceMethod yX7_rounds ∈ uw := uw_mem 1025 (by decide +kernel) (by decide +kernel)
theorem kw_1026 : Cond.selects RX7 yX7_rounds yX7_rounds ∈ uw := uw_mem 1026 (by decide +kernel) (by decide +kernel)
theorem kw_1027 : Cond.code yX7_rounds cX7_rounds 7 (some .int) ∈ uw := uw_mem 1027 (by decide +kernel) (by decide +kernel)
theorem kw_1035 : Cond.methodLink RL 27 yX7_type ∈ uw := uw_mem 1035 (by decide +kernel) (by decide +kernel)
theorem kw_1036 : Cond.instanceMethod yX7_type ∈ uw := uw_mem 1036 (by decide +kernel) (by decide +kernel)
theorem kw_1037 : Cond.selects RX7 yX7_type yX7_type ∈ uw := uw_mem 1037 (by decide +kernel) (by decide +kernel)
theorem kw_1038 : Cond.code yX7_type cX7_type 2 (some .int) ∈ uw := uw_mem 1038 (by decide +kernel) (by decide +kernel)
theorem kw_1040 : Cond.methodLink RL 31 yX7_clear ∈ uw := uw_mem 1040 (by decide +kernel) (by decide +kernel)
theorem kw_1041 : Cond.instanceMethod yX7_clear ∈ uw := uw_mem 1041 (by decide +kernel) (by decide +kernel)
theorem kw_1042 : Cond.selects RX7 yX7_clear yX7_clear ∈ uw := uw_mem 1042 (by decide +kernel) (by decide +kernel)
theorem kw_1043 : Cond.code yX7_clear cX7_clear 2 (some .int) ∈ uw := uw_mem 1043 (by decide +kernel) (by decide +kernel)
theorem kw_1044 : Cond.methodLink RL 35 yX7_read ∈ uw := uw_mem 1044 (by decide +kernel) (by decide +kernel)
theorem kw_1045 : Cond.instanceMethod yX7_read ∈ uw := uw_mem 1045 (by decide +kernel) (by decide +kernel)
theorem kw_1046 : Cond.selects RX7 yX7_read yX7_read ∈ uw := uw_mem 1046 (by decide +kernel) (by decide +kernel)
theorem kw_1047 : Cond.code yX7_read cX7_read 3 (some .int) ∈ uw := uw_mem 1047 (by decide +kernel) (by decide +kernel)
theorem kw_1090 : Cond.methodLink RL 123 yX7_part ∈ uw := uw_mem 1090 (by decide +kernel) (by decide +kernel)
theorem kw_1091 : Cond.instanceMethod yX7_part ∈ uw := uw_mem 1091 (by decide +kernel) (by decide +kernel)
theorem kw_1092 : Cond.selects RX7 yX7_part yX7_part ∈ uw := uw_mem 1092 (by decide +kernel) (by decide +kernel)
theorem kw_1093 : Cond.code yX7_part cX7_part 2 (some .long) ∈ uw := uw_mem 1093 (by decide +kernel) (by decide +kernel)
theorem kw_1094 : Cond.methodLink RL 127 yX7_image ∈ uw := uw_mem 1094 (by decide +kernel) (by decide +kernel)
theorem kw_1095 : Cond.instanceMethod yX7_image ∈ uw := uw_mem 1095 (by decide +kernel) (by decide +kernel)
theorem kw_1096 : Cond.selects RX7 yX7_image yX7_image ∈ uw := uw_mem 1096 (by decide +kernel) (by decide +kernel)
theorem kw_1097 : Cond.code yX7_image cX7_image 3 (some .int) ∈ uw := uw_mem 1097 (by decide +kernel) (by decide +kernel)
theorem kw_1098 : Cond.methodLink RL 131 yX7_from ∈ uw := uw_mem 1098 (by decide +kernel) (by decide +kernel)
theorem kw_1099 : Cond.instanceMethod yX7_from ∈ uw := uw_mem 1099 (by decide +kernel) (by decide +kernel)
theorem kw_1100 : Cond.selects RX7 yX7_from yX7_from ∈ uw := uw_mem 1100 (by decide +kernel) (by decide +kernel)
theorem kw_1101 : Cond.code yX7_from cX7_from 3 (some .int) ∈ uw := uw_mem 1101 (by decide +kernel) (by decide +kernel)
theorem kw_1102 : Cond.methodLink RL 135 yX7_status ∈ uw := uw_mem 1102 (by decide +kernel) (by decide +kernel)
theorem kw_1103 : Cond.instanceMethod yX7_status ∈ uw := uw_mem 1103 (by decide +kernel) (by decide +kernel)
theorem kw_1104 : Cond.selects RX7 yX7_status yX7_status ∈ uw := uw_mem 1104 (by decide +kernel) (by decide +kernel)
theorem kw_1105 : Cond.code yX7_status cX7_status 2 (some .int) ∈ uw := uw_mem 1105 (by decide +kernel) (by decide +kernel)
theorem kw_1106 : Cond.methodLink RL 139 yX7_count ∈ uw := uw_mem 1106 (by decide +kernel) (by decide +kernel)
theorem kw_1107 : Cond.instanceMethod yX7_count ∈ uw := uw_mem 1107 (by decide +kernel) (by decide +kernel)
theorem kw_1108 : Cond.selects RX7 yX7_count yX7_count ∈ uw := uw_mem 1108 (by decide +kernel) (by decide +kernel)
theorem kw_1109 : Cond.code yX7_count cX7_count 2 (some .int) ∈ uw := uw_mem 1109 (by decide +kernel) (by decide +kernel)
theorem kw_1118 : Cond.methodLink RL 144 yX7_digest ∈ uw := uw_mem 1118 (by decide +kernel) (by decide +kernel)
theorem kw_1119 : Cond.instanceMethod yX7_digest ∈ uw := uw_mem 1119 (by decide +kernel) (by decide +kernel)
theorem kw_1120 : Cond.selects RX7 yX7_digest yX7_digest ∈ uw := uw_mem 1120 (by decide +kernel) (by decide +kernel)
theorem kw_1121 : Cond.code yX7_digest cX7_digest 5 (some .long) ∈ uw := uw_mem 1121 (by decide +kernel) (by decide +kernel)
theorem kg_RL_13 : GoodIn uw (wsV RL 13 RX6 yX6_floor (Cond.code yX6_floor cX6_floor 2 (some .int) :: uw)) := uw_V kw_266 kw_267 kw_268 kw_55 kw_269
theorem kg_RL_17 : GoodIn uw (wsV RL 17 RX7 yX7_floor (Cond.code yX7_floor cX7_floor 2 (some .int) :: uw)) := uw_V kw_809 kw_810 kw_811 kw_61 kw_812
theorem kg_RL_18 : GoodIn uw (wsV RL 18 RX6 yX6_car (Cond.code yX6_car cX6_car 4 (some .int) :: uw)) := uw_V kw_278 kw_279 kw_280 kw_55 kw_281
theorem kg_RL_22 : GoodIn uw (wsV RL 22 RX7 yX7_car (Cond.code yX7_car cX7_car 4 (some .int) :: uw)) := uw_V kw_817 kw_818 kw_819 kw_61 kw_820
theorem kg_RL_23 : GoodIn uw (wsV RL 23 RX6 yX6_type (Cond.code yX6_type cX6_type 2 (some .int) :: uw)) := uw_V kw_305 kw_306 kw_307 kw_55 kw_308
theorem kg_RL_27 : GoodIn uw (wsV RL 27 RX7 yX7_type (Cond.code yX7_type cX7_type 2 (some .int) :: uw)) := uw_V kw_1035 kw_1036 kw_1037 kw_61 kw_1038
theorem kg_RL_28 : GoodIn uw (wsV RL 28 RX6 yX6_clear (Cond.code yX6_clear cX6_clear 2 (some .int) :: uw)) := uw_V kw_313 kw_314 kw_315 kw_55 kw_316
theorem kg_RL_31 : GoodIn uw (wsV RL 31 RX7 yX7_clear (Cond.code yX7_clear cX7_clear 2 (some .int) :: uw)) := uw_V kw_1040 kw_1041 kw_1042 kw_61 kw_1043
theorem kg_RL_32 : GoodIn uw (wsV RL 32 RX6 yX6_read (Cond.code yX6_read cX6_read 2 (some .int) :: uw)) := uw_V kw_317 kw_318 kw_319 kw_55 kw_320
theorem kg_RL_35 : GoodIn uw (wsV RL 35 RX7 yX7_read (Cond.code yX7_read cX7_read 3 (some .int) :: uw)) := uw_V kw_1044 kw_1045 kw_1046 kw_61 kw_1047
theorem kg_RL_36 : GoodIn uw (wsV RL 36 RX6 yX6_tick (Cond.code yX6_tick cX6_tick 2 (some .int) :: uw)) := uw_V kw_427 kw_428 kw_429 kw_55 kw_430
theorem kg_RL_39 : GoodIn uw (wsV RL 39 RX7 yX7_tick (Cond.code yX7_tick cX7_tick 4 (some .int) :: uw)) := uw_V kw_851 kw_852 kw_853 kw_61 kw_854
theorem kg_RL_40 : GoodIn uw (wsV RL 40 RX6 yX6_hat (Cond.code yX6_hat cX6_hat 3 (some .int) :: uw)) := uw_V kw_478 kw_479 kw_480 kw_55 kw_481
theorem kg_RL_43 : GoodIn uw (wsV RL 43 RX7 yX7_hat (Cond.code yX7_hat cX7_hat 3 (some .int) :: uw)) := uw_V kw_904 kw_905 kw_906 kw_61 kw_907
theorem kg_RL_44 : GoodIn uw (wsV RL 44 RX6 yX6_push (Cond.code yX6_push cX6_push 6 (some .int) :: uw)) := uw_V kw_483 kw_484 kw_485 kw_55 kw_486
theorem kg_RL_47 : GoodIn uw (wsV RL 47 RX7 yX7_push (Cond.code yX7_push cX7_push 6 (some .int) :: uw)) := uw_V kw_913 kw_914 kw_915 kw_61 kw_916
theorem kg_RL_48 : GoodIn uw (wsV RL 48 RX6 yX6_undo (Cond.code yX6_undo cX6_undo 1 (some .int) :: uw)) := uw_V kw_487 kw_488 kw_489 kw_55 kw_490
theorem kg_RL_51 : GoodIn uw (wsV RL 51 RX7 yX7_undo (Cond.code yX7_undo cX7_undo 2 (some .int) :: uw)) := uw_V kw_921 kw_922 kw_923 kw_61 kw_924
theorem kg_RL_52 : GoodIn uw (wsV RL 52 RX6 yX6_of (Cond.code yX6_of cX6_of 3 (some .int) :: uw)) := uw_V kw_495 kw_496 kw_497 kw_55 kw_498
theorem kg_RL_56 : GoodIn uw (wsV RL 56 RX7 yX7_of (Cond.code yX7_of cX7_of 3 (some .int) :: uw)) := uw_V kw_925 kw_926 kw_927 kw_61 kw_928
theorem kg_RL_57 : GoodIn uw (wsV RL 57 RX6 yX6_at (Cond.code yX6_at cX6_at 2 (some .int) :: uw)) := uw_V kw_503 kw_504 kw_505 kw_55 kw_506
theorem kg_RL_60 : GoodIn uw (wsV RL 60 RX7 yX7_at (Cond.code yX7_at cX7_at 2 (some .int) :: uw)) := uw_V kw_930 kw_931 kw_932 kw_61 kw_933
theorem kg_RL_61 : GoodIn uw (wsV RL 61 RX6 yX6_way (Cond.code yX6_way cX6_way 2 (some .int) :: uw)) := uw_V kw_507 kw_508 kw_509 kw_55 kw_510
theorem kg_RL_64 : GoodIn uw (wsV RL 64 RX7 yX7_way (Cond.code yX7_way cX7_way 2 (some .int) :: uw)) := uw_V kw_934 kw_935 kw_936 kw_61 kw_937
theorem kg_RL_65 : GoodIn uw (wsV RL 65 RX6 yX6_then (Cond.code yX6_then cX6_then 5 (some .int) :: uw)) := uw_V kw_512 kw_513 kw_514 kw_55 kw_515
theorem kg_RL_68 : GoodIn uw (wsV RL 68 RX7 yX7_then (Cond.code yX7_then cX7_then 5 (some .int) :: uw)) := uw_V kw_938 kw_939 kw_940 kw_61 kw_941
theorem kg_RL_69 : GoodIn uw (wsV RL 69 RX6 yX6_when (Cond.code yX6_when cX6_when 5 (some .int) :: uw)) := uw_V kw_521 kw_522 kw_523 kw_55 kw_524
theorem kg_RL_72 : GoodIn uw (wsV RL 72 RX7 yX7_when (Cond.code yX7_when cX7_when 4 (some .int) :: uw)) := uw_V kw_942 kw_943 kw_944 kw_61 kw_945
theorem kg_RL_73 : GoodIn uw (wsV RL 73 RX6 yX6_bumps (Cond.code yX6_bumps cX6_bumps 2 (some .int) :: uw)) := uw_V kw_526 kw_527 kw_528 kw_55 kw_529
theorem kg_RL_76 : GoodIn uw (wsV RL 76 RX7 yX7_bumps (Cond.code yX7_bumps cX7_bumps 2 (some .int) :: uw)) := uw_V kw_946 kw_947 kw_948 kw_61 kw_949
theorem kg_RL_77 : GoodIn uw (wsV RL 77 RX6 yX6_cluster (Cond.code yX6_cluster cX6_cluster 3 (some .int) :: uw)) := uw_V kw_530 kw_531 kw_532 kw_55 kw_533
theorem kg_RL_80 : GoodIn uw (wsV RL 80 RX7 yX7_cluster (Cond.code yX7_cluster cX7_cluster 4 (some .int) :: uw)) := uw_V kw_950 kw_951 kw_952 kw_61 kw_953
theorem kg_RL_81 : GoodIn uw (wsV RL 81 RX6 yX6_stand (Cond.code yX6_stand cX6_stand 3 (some .int) :: uw)) := uw_V kw_556 kw_557 kw_558 kw_55 kw_559
theorem kg_RL_84 : GoodIn uw (wsV RL 84 RX7 yX7_stand (Cond.code yX7_stand cX7_stand 7 (some .int) :: uw)) := uw_V kw_967 kw_968 kw_969 kw_61 kw_970
theorem kg_RL_85 : GoodIn uw (wsV RL 85 RX6 yX6_steer (Cond.code yX6_steer cX6_steer 6 (some .int) :: uw)) := uw_V kw_569 kw_570 kw_571 kw_55 kw_572
theorem kg_RL_89 : GoodIn uw (wsV RL 89 RX7 yX7_steer (Cond.code yX7_steer cX7_steer 5 (some .int) :: uw)) := uw_V kw_972 kw_973 kw_974 kw_61 kw_975
theorem kg_RL_90 : GoodIn uw (wsV RL 90 RX6 yX6_note (Cond.code yX6_note cX6_note 9 (some .int) :: uw)) := uw_V kw_584 kw_585 kw_586 kw_55 kw_587
theorem kg_RL_94 : GoodIn uw (wsV RL 94 RX7 yX7_note (Cond.code yX7_note cX7_note 9 (some .int) :: uw)) := uw_V kw_980 kw_981 kw_982 kw_61 kw_983
theorem kg_RL_95 : GoodIn uw (wsV RL 95 RX6 yX6_forget (Cond.code yX6_forget cX6_forget 2 (some .int) :: uw)) := uw_V kw_595 kw_596 kw_597 kw_55 kw_598
theorem kg_RL_98 : GoodIn uw (wsV RL 98 RX7 yX7_forget (Cond.code yX7_forget cX7_forget 2 (some .int) :: uw)) := uw_V kw_986 kw_987 kw_988 kw_61 kw_989
theorem kg_RL_99 : GoodIn uw (wsV RL 99 RX6 yX6_is (Cond.code yX6_is cX6_is 2 (some .int) :: uw)) := uw_V kw_599 kw_600 kw_601 kw_55 kw_602
theorem kg_RL_102 : GoodIn uw (wsV RL 102 RX7 yX7_is (Cond.code yX7_is cX7_is 2 (some .int) :: uw)) := uw_V kw_990 kw_991 kw_992 kw_61 kw_993
theorem kg_RL_103 : GoodIn uw (wsV RL 103 RX6 yX6_look (Cond.code yX6_look cX6_look 2 (some .int) :: uw)) := uw_V kw_612 kw_613 kw_614 kw_55 kw_615
theorem kg_RL_106 : GoodIn uw (wsV RL 106 RX7 yX7_look (Cond.code yX7_look cX7_look 11 (some .int) :: uw)) := uw_V kw_998 kw_999 kw_1000 kw_61 kw_1001
theorem kg_RL_107 : GoodIn uw (wsV RL 107 RX6 yX6_two (Cond.code yX6_two cX6_two 5 (some .int) :: uw)) := uw_V kw_629 kw_630 kw_631 kw_55 kw_632
theorem kg_RL_110 : GoodIn uw (wsV RL 110 RX7 yX7_two (Cond.code yX7_two cX7_two 7 (some .int) :: uw)) := uw_V kw_1002 kw_1003 kw_1004 kw_61 kw_1005
theorem kg_RL_111 : GoodIn uw (wsV RL 111 RX6 yX6_bell (Cond.code yX6_bell cX6_bell 3 (some .int) :: uw)) := uw_V kw_647 kw_648 kw_649 kw_55 kw_650
theorem kg_RL_114 : GoodIn uw (wsV RL 114 RX7 yX7_bell (Cond.code yX7_bell cX7_bell 10 (some .int) :: uw)) := uw_V kw_1014 kw_1015 kw_1016 kw_61 kw_1017
theorem kg_RL_115 : GoodIn uw (wsV RL 115 RX6 yX6_rounds (Cond.code yX6_rounds cX6_rounds 3 (some .int) :: uw)) := uw_V kw_667 kw_668 kw_669 kw_55 kw_670
theorem kg_RL_118 : GoodIn uw (wsV RL 118 RX7 yX7_rounds (Cond.code yX7_rounds cX7_rounds 7 (some .int) :: uw)) := uw_V kw_1024 kw_1025 kw_1026 kw_61 kw_1027
theorem kg_RL_119 : GoodIn uw (wsV RL 119 RX6 yX6_part (Cond.code yX6_part cX6_part 2 (some .long) :: uw)) := uw_V kw_682 kw_683 kw_684 kw_55 kw_685
theorem kg_RL_123 : GoodIn uw (wsV RL 123 RX7 yX7_part (Cond.code yX7_part cX7_part 2 (some .long) :: uw)) := uw_V kw_1090 kw_1091 kw_1092 kw_61 kw_1093
theorem kg_RL_124 : GoodIn uw (wsV RL 124 RX6 yX6_image (Cond.code yX6_image cX6_image 2 (some .int) :: uw)) := uw_V kw_686 kw_687 kw_688 kw_55 kw_689
theorem kg_RL_127 : GoodIn uw (wsV RL 127 RX7 yX7_image (Cond.code yX7_image cX7_image 3 (some .int) :: uw)) := uw_V kw_1094 kw_1095 kw_1096 kw_61 kw_1097
theorem kg_RL_128 : GoodIn uw (wsV RL 128 RX6 yX6_from (Cond.code yX6_from cX6_from 2 (some .int) :: uw)) := uw_V kw_699 kw_700 kw_701 kw_55 kw_702
theorem kg_RL_131 : GoodIn uw (wsV RL 131 RX7 yX7_from (Cond.code yX7_from cX7_from 3 (some .int) :: uw)) := uw_V kw_1098 kw_1099 kw_1100 kw_61 kw_1101
theorem kg_RL_132 : GoodIn uw (wsV RL 132 RX6 yX6_status (Cond.code yX6_status cX6_status 2 (some .int) :: uw)) := uw_V kw_703 kw_704 kw_705 kw_55 kw_706
theorem kg_RL_135 : GoodIn uw (wsV RL 135 RX7 yX7_status (Cond.code yX7_status cX7_status 2 (some .int) :: uw)) := uw_V kw_1102 kw_1103 kw_1104 kw_61 kw_1105
theorem kg_RL_136 : GoodIn uw (wsV RL 136 RX6 yX6_count (Cond.code yX6_count cX6_count 2 (some .int) :: uw)) := uw_V kw_707 kw_708 kw_709 kw_55 kw_710
theorem kg_RL_139 : GoodIn uw (wsV RL 139 RX7 yX7_count (Cond.code yX7_count cX7_count 2 (some .int) :: uw)) := uw_V kw_1106 kw_1107 kw_1108 kw_61 kw_1109
theorem kg_RL_140 : GoodIn uw (wsV RL 140 RX6 yX6_digest (Cond.code yX6_digest cX6_digest 4 (some .long) :: uw)) := uw_V kw_719 kw_720 kw_721 kw_55 kw_722
theorem kg_RL_144 : GoodIn uw (wsV RL 144 RX7 yX7_digest (Cond.code yX7_digest cX7_digest 5 (some .long) :: uw)) := uw_V kw_1118 kw_1119 kw_1120 kw_61 kw_1121
theorem kd_X6_floor : yX6_floor.cls = RX6 ∧ yX6_floor.cls ≠ "java/lang/invoke/MethodHandle" ∧ yX6_floor.cls ≠ "java/lang/invoke/VarHandle" ∧ (parseMethodDescriptor yX6_floor.desc).map (fun d => d.parameters.length) = some 0 := by decide +kernel
theorem kd_X7_floor : yX7_floor.cls = RX7 ∧ yX7_floor.cls ≠ "java/lang/invoke/MethodHandle" ∧ yX7_floor.cls ≠ "java/lang/invoke/VarHandle" ∧ (parseMethodDescriptor yX7_floor.desc).map (fun d => d.parameters.length) = some 0 := by decide +kernel
theorem kd_X6_car : yX6_car.cls = RX6 ∧ yX6_car.cls ≠ "java/lang/invoke/MethodHandle" ∧ yX6_car.cls ≠ "java/lang/invoke/VarHandle" ∧ (parseMethodDescriptor yX6_car.desc).map (fun d => d.parameters.length) = some 3 := by decide +kernel
theorem kd_X7_car : yX7_car.cls = RX7 ∧ yX7_car.cls ≠ "java/lang/invoke/MethodHandle" ∧ yX7_car.cls ≠ "java/lang/invoke/VarHandle" ∧ (parseMethodDescriptor yX7_car.desc).map (fun d => d.parameters.length) = some 3 := by decide +kernel
theorem kd_X6_type : yX6_type.cls = RX6 ∧ yX6_type.cls ≠ "java/lang/invoke/MethodHandle" ∧ yX6_type.cls ≠ "java/lang/invoke/VarHandle" ∧ (parseMethodDescriptor yX6_type.desc).map (fun d => d.parameters.length) = some 1 := by decide +kernel
theorem kd_X7_type : yX7_type.cls = RX7 ∧ yX7_type.cls ≠ "java/lang/invoke/MethodHandle" ∧ yX7_type.cls ≠ "java/lang/invoke/VarHandle" ∧ (parseMethodDescriptor yX7_type.desc).map (fun d => d.parameters.length) = some 1 := by decide +kernel
theorem kd_X6_clear : yX6_clear.cls = RX6 ∧ yX6_clear.cls ≠ "java/lang/invoke/MethodHandle" ∧ yX6_clear.cls ≠ "java/lang/invoke/VarHandle" ∧ (parseMethodDescriptor yX6_clear.desc).map (fun d => d.parameters.length) = some 0 := by decide +kernel
theorem kd_X7_clear : yX7_clear.cls = RX7 ∧ yX7_clear.cls ≠ "java/lang/invoke/MethodHandle" ∧ yX7_clear.cls ≠ "java/lang/invoke/VarHandle" ∧ (parseMethodDescriptor yX7_clear.desc).map (fun d => d.parameters.length) = some 0 := by decide +kernel
theorem kd_X6_read : yX6_read.cls = RX6 ∧ yX6_read.cls ≠ "java/lang/invoke/MethodHandle" ∧ yX6_read.cls ≠ "java/lang/invoke/VarHandle" ∧ (parseMethodDescriptor yX6_read.desc).map (fun d => d.parameters.length) = some 0 := by decide +kernel
theorem kd_X7_read : yX7_read.cls = RX7 ∧ yX7_read.cls ≠ "java/lang/invoke/MethodHandle" ∧ yX7_read.cls ≠ "java/lang/invoke/VarHandle" ∧ (parseMethodDescriptor yX7_read.desc).map (fun d => d.parameters.length) = some 0 := by decide +kernel
theorem kd_X6_tick : yX6_tick.cls = RX6 ∧ yX6_tick.cls ≠ "java/lang/invoke/MethodHandle" ∧ yX6_tick.cls ≠ "java/lang/invoke/VarHandle" ∧ (parseMethodDescriptor yX6_tick.desc).map (fun d => d.parameters.length) = some 1 := by decide +kernel
theorem kd_X7_tick : yX7_tick.cls = RX7 ∧ yX7_tick.cls ≠ "java/lang/invoke/MethodHandle" ∧ yX7_tick.cls ≠ "java/lang/invoke/VarHandle" ∧ (parseMethodDescriptor yX7_tick.desc).map (fun d => d.parameters.length) = some 1 := by decide +kernel
theorem kd_X6_hat : yX6_hat.cls = RX6 ∧ yX6_hat.cls ≠ "java/lang/invoke/MethodHandle" ∧ yX6_hat.cls ≠ "java/lang/invoke/VarHandle" ∧ (parseMethodDescriptor yX6_hat.desc).map (fun d => d.parameters.length) = some 1 := by decide +kernel
theorem kd_X7_hat : yX7_hat.cls = RX7 ∧ yX7_hat.cls ≠ "java/lang/invoke/MethodHandle" ∧ yX7_hat.cls ≠ "java/lang/invoke/VarHandle" ∧ (parseMethodDescriptor yX7_hat.desc).map (fun d => d.parameters.length) = some 1 := by decide +kernel
theorem kd_X6_push : yX6_push.cls = RX6 ∧ yX6_push.cls ≠ "java/lang/invoke/MethodHandle" ∧ yX6_push.cls ≠ "java/lang/invoke/VarHandle" ∧ (parseMethodDescriptor yX6_push.desc).map (fun d => d.parameters.length) = some 3 := by decide +kernel
theorem kd_X7_push : yX7_push.cls = RX7 ∧ yX7_push.cls ≠ "java/lang/invoke/MethodHandle" ∧ yX7_push.cls ≠ "java/lang/invoke/VarHandle" ∧ (parseMethodDescriptor yX7_push.desc).map (fun d => d.parameters.length) = some 3 := by decide +kernel
theorem kd_X6_undo : yX6_undo.cls = RX6 ∧ yX6_undo.cls ≠ "java/lang/invoke/MethodHandle" ∧ yX6_undo.cls ≠ "java/lang/invoke/VarHandle" ∧ (parseMethodDescriptor yX6_undo.desc).map (fun d => d.parameters.length) = some 0 := by decide +kernel
theorem kd_X7_undo : yX7_undo.cls = RX7 ∧ yX7_undo.cls ≠ "java/lang/invoke/MethodHandle" ∧ yX7_undo.cls ≠ "java/lang/invoke/VarHandle" ∧ (parseMethodDescriptor yX7_undo.desc).map (fun d => d.parameters.length) = some 0 := by decide +kernel
theorem kd_X6_of : yX6_of.cls = RX6 ∧ yX6_of.cls ≠ "java/lang/invoke/MethodHandle" ∧ yX6_of.cls ≠ "java/lang/invoke/VarHandle" ∧ (parseMethodDescriptor yX6_of.desc).map (fun d => d.parameters.length) = some 2 := by decide +kernel
theorem kd_X7_of : yX7_of.cls = RX7 ∧ yX7_of.cls ≠ "java/lang/invoke/MethodHandle" ∧ yX7_of.cls ≠ "java/lang/invoke/VarHandle" ∧ (parseMethodDescriptor yX7_of.desc).map (fun d => d.parameters.length) = some 2 := by decide +kernel
theorem kd_X6_at : yX6_at.cls = RX6 ∧ yX6_at.cls ≠ "java/lang/invoke/MethodHandle" ∧ yX6_at.cls ≠ "java/lang/invoke/VarHandle" ∧ (parseMethodDescriptor yX6_at.desc).map (fun d => d.parameters.length) = some 1 := by decide +kernel
theorem kd_X7_at : yX7_at.cls = RX7 ∧ yX7_at.cls ≠ "java/lang/invoke/MethodHandle" ∧ yX7_at.cls ≠ "java/lang/invoke/VarHandle" ∧ (parseMethodDescriptor yX7_at.desc).map (fun d => d.parameters.length) = some 1 := by decide +kernel
theorem kd_X6_way : yX6_way.cls = RX6 ∧ yX6_way.cls ≠ "java/lang/invoke/MethodHandle" ∧ yX6_way.cls ≠ "java/lang/invoke/VarHandle" ∧ (parseMethodDescriptor yX6_way.desc).map (fun d => d.parameters.length) = some 1 := by decide +kernel
theorem kd_X7_way : yX7_way.cls = RX7 ∧ yX7_way.cls ≠ "java/lang/invoke/MethodHandle" ∧ yX7_way.cls ≠ "java/lang/invoke/VarHandle" ∧ (parseMethodDescriptor yX7_way.desc).map (fun d => d.parameters.length) = some 1 := by decide +kernel
theorem kd_X6_then : yX6_then.cls = RX6 ∧ yX6_then.cls ≠ "java/lang/invoke/MethodHandle" ∧ yX6_then.cls ≠ "java/lang/invoke/VarHandle" ∧ (parseMethodDescriptor yX6_then.desc).map (fun d => d.parameters.length) = some 3 := by decide +kernel
theorem kd_X7_then : yX7_then.cls = RX7 ∧ yX7_then.cls ≠ "java/lang/invoke/MethodHandle" ∧ yX7_then.cls ≠ "java/lang/invoke/VarHandle" ∧ (parseMethodDescriptor yX7_then.desc).map (fun d => d.parameters.length) = some 3 := by decide +kernel
theorem kd_X6_when : yX6_when.cls = RX6 ∧ yX6_when.cls ≠ "java/lang/invoke/MethodHandle" ∧ yX6_when.cls ≠ "java/lang/invoke/VarHandle" ∧ (parseMethodDescriptor yX6_when.desc).map (fun d => d.parameters.length) = some 1 := by decide +kernel
theorem kd_X7_when : yX7_when.cls = RX7 ∧ yX7_when.cls ≠ "java/lang/invoke/MethodHandle" ∧ yX7_when.cls ≠ "java/lang/invoke/VarHandle" ∧ (parseMethodDescriptor yX7_when.desc).map (fun d => d.parameters.length) = some 1 := by decide +kernel
theorem kd_X6_bumps : yX6_bumps.cls = RX6 ∧ yX6_bumps.cls ≠ "java/lang/invoke/MethodHandle" ∧ yX6_bumps.cls ≠ "java/lang/invoke/VarHandle" ∧ (parseMethodDescriptor yX6_bumps.desc).map (fun d => d.parameters.length) = some 1 := by decide +kernel
theorem kd_X7_bumps : yX7_bumps.cls = RX7 ∧ yX7_bumps.cls ≠ "java/lang/invoke/MethodHandle" ∧ yX7_bumps.cls ≠ "java/lang/invoke/VarHandle" ∧ (parseMethodDescriptor yX7_bumps.desc).map (fun d => d.parameters.length) = some 1 := by decide +kernel
theorem kd_X6_cluster : yX6_cluster.cls = RX6 ∧ yX6_cluster.cls ≠ "java/lang/invoke/MethodHandle" ∧ yX6_cluster.cls ≠ "java/lang/invoke/VarHandle" ∧ (parseMethodDescriptor yX6_cluster.desc).map (fun d => d.parameters.length) = some 1 := by decide +kernel
theorem kd_X7_cluster : yX7_cluster.cls = RX7 ∧ yX7_cluster.cls ≠ "java/lang/invoke/MethodHandle" ∧ yX7_cluster.cls ≠ "java/lang/invoke/VarHandle" ∧ (parseMethodDescriptor yX7_cluster.desc).map (fun d => d.parameters.length) = some 1 := by decide +kernel
theorem kd_X6_stand : yX6_stand.cls = RX6 ∧ yX6_stand.cls ≠ "java/lang/invoke/MethodHandle" ∧ yX6_stand.cls ≠ "java/lang/invoke/VarHandle" ∧ (parseMethodDescriptor yX6_stand.desc).map (fun d => d.parameters.length) = some 1 := by decide +kernel
theorem kd_X7_stand : yX7_stand.cls = RX7 ∧ yX7_stand.cls ≠ "java/lang/invoke/MethodHandle" ∧ yX7_stand.cls ≠ "java/lang/invoke/VarHandle" ∧ (parseMethodDescriptor yX7_stand.desc).map (fun d => d.parameters.length) = some 1 := by decide +kernel
theorem kd_X6_steer : yX6_steer.cls = RX6 ∧ yX6_steer.cls ≠ "java/lang/invoke/MethodHandle" ∧ yX6_steer.cls ≠ "java/lang/invoke/VarHandle" ∧ (parseMethodDescriptor yX6_steer.desc).map (fun d => d.parameters.length) = some 4 := by decide +kernel
theorem kd_X7_steer : yX7_steer.cls = RX7 ∧ yX7_steer.cls ≠ "java/lang/invoke/MethodHandle" ∧ yX7_steer.cls ≠ "java/lang/invoke/VarHandle" ∧ (parseMethodDescriptor yX7_steer.desc).map (fun d => d.parameters.length) = some 4 := by decide +kernel
theorem kd_X6_note : yX6_note.cls = RX6 ∧ yX6_note.cls ≠ "java/lang/invoke/MethodHandle" ∧ yX6_note.cls ≠ "java/lang/invoke/VarHandle" ∧ (parseMethodDescriptor yX6_note.desc).map (fun d => d.parameters.length) = some 7 := by decide +kernel
theorem kd_X7_note : yX7_note.cls = RX7 ∧ yX7_note.cls ≠ "java/lang/invoke/MethodHandle" ∧ yX7_note.cls ≠ "java/lang/invoke/VarHandle" ∧ (parseMethodDescriptor yX7_note.desc).map (fun d => d.parameters.length) = some 7 := by decide +kernel
theorem kd_X6_forget : yX6_forget.cls = RX6 ∧ yX6_forget.cls ≠ "java/lang/invoke/MethodHandle" ∧ yX6_forget.cls ≠ "java/lang/invoke/VarHandle" ∧ (parseMethodDescriptor yX6_forget.desc).map (fun d => d.parameters.length) = some 0 := by decide +kernel
theorem kd_X7_forget : yX7_forget.cls = RX7 ∧ yX7_forget.cls ≠ "java/lang/invoke/MethodHandle" ∧ yX7_forget.cls ≠ "java/lang/invoke/VarHandle" ∧ (parseMethodDescriptor yX7_forget.desc).map (fun d => d.parameters.length) = some 0 := by decide +kernel
theorem kd_X6_is : yX6_is.cls = RX6 ∧ yX6_is.cls ≠ "java/lang/invoke/MethodHandle" ∧ yX6_is.cls ≠ "java/lang/invoke/VarHandle" ∧ (parseMethodDescriptor yX6_is.desc).map (fun d => d.parameters.length) = some 1 := by decide +kernel
theorem kd_X7_is : yX7_is.cls = RX7 ∧ yX7_is.cls ≠ "java/lang/invoke/MethodHandle" ∧ yX7_is.cls ≠ "java/lang/invoke/VarHandle" ∧ (parseMethodDescriptor yX7_is.desc).map (fun d => d.parameters.length) = some 1 := by decide +kernel
theorem kd_X6_look : yX6_look.cls = RX6 ∧ yX6_look.cls ≠ "java/lang/invoke/MethodHandle" ∧ yX6_look.cls ≠ "java/lang/invoke/VarHandle" ∧ (parseMethodDescriptor yX6_look.desc).map (fun d => d.parameters.length) = some 1 := by decide +kernel
theorem kd_X7_look : yX7_look.cls = RX7 ∧ yX7_look.cls ≠ "java/lang/invoke/MethodHandle" ∧ yX7_look.cls ≠ "java/lang/invoke/VarHandle" ∧ (parseMethodDescriptor yX7_look.desc).map (fun d => d.parameters.length) = some 1 := by decide +kernel
theorem kd_X6_two : yX6_two.cls = RX6 ∧ yX6_two.cls ≠ "java/lang/invoke/MethodHandle" ∧ yX6_two.cls ≠ "java/lang/invoke/VarHandle" ∧ (parseMethodDescriptor yX6_two.desc).map (fun d => d.parameters.length) = some 3 := by decide +kernel
theorem kd_X7_two : yX7_two.cls = RX7 ∧ yX7_two.cls ≠ "java/lang/invoke/MethodHandle" ∧ yX7_two.cls ≠ "java/lang/invoke/VarHandle" ∧ (parseMethodDescriptor yX7_two.desc).map (fun d => d.parameters.length) = some 3 := by decide +kernel
theorem kd_X6_bell : yX6_bell.cls = RX6 ∧ yX6_bell.cls ≠ "java/lang/invoke/MethodHandle" ∧ yX6_bell.cls ≠ "java/lang/invoke/VarHandle" ∧ (parseMethodDescriptor yX6_bell.desc).map (fun d => d.parameters.length) = some 2 := by decide +kernel
theorem kd_X7_bell : yX7_bell.cls = RX7 ∧ yX7_bell.cls ≠ "java/lang/invoke/MethodHandle" ∧ yX7_bell.cls ≠ "java/lang/invoke/VarHandle" ∧ (parseMethodDescriptor yX7_bell.desc).map (fun d => d.parameters.length) = some 2 := by decide +kernel
theorem kd_X6_rounds : yX6_rounds.cls = RX6 ∧ yX6_rounds.cls ≠ "java/lang/invoke/MethodHandle" ∧ yX6_rounds.cls ≠ "java/lang/invoke/VarHandle" ∧ (parseMethodDescriptor yX6_rounds.desc).map (fun d => d.parameters.length) = some 2 := by decide +kernel
theorem kd_X7_rounds : yX7_rounds.cls = RX7 ∧ yX7_rounds.cls ≠ "java/lang/invoke/MethodHandle" ∧ yX7_rounds.cls ≠ "java/lang/invoke/VarHandle" ∧ (parseMethodDescriptor yX7_rounds.desc).map (fun d => d.parameters.length) = some 2 := by decide +kernel
theorem kd_X6_part : yX6_part.cls = RX6 ∧ yX6_part.cls ≠ "java/lang/invoke/MethodHandle" ∧ yX6_part.cls ≠ "java/lang/invoke/VarHandle" ∧ (parseMethodDescriptor yX6_part.desc).map (fun d => d.parameters.length) = some 1 := by decide +kernel
theorem kd_X7_part : yX7_part.cls = RX7 ∧ yX7_part.cls ≠ "java/lang/invoke/MethodHandle" ∧ yX7_part.cls ≠ "java/lang/invoke/VarHandle" ∧ (parseMethodDescriptor yX7_part.desc).map (fun d => d.parameters.length) = some 1 := by decide +kernel
theorem kd_X6_image : yX6_image.cls = RX6 ∧ yX6_image.cls ≠ "java/lang/invoke/MethodHandle" ∧ yX6_image.cls ≠ "java/lang/invoke/VarHandle" ∧ (parseMethodDescriptor yX6_image.desc).map (fun d => d.parameters.length) = some 1 := by decide +kernel
theorem kd_X7_image : yX7_image.cls = RX7 ∧ yX7_image.cls ≠ "java/lang/invoke/MethodHandle" ∧ yX7_image.cls ≠ "java/lang/invoke/VarHandle" ∧ (parseMethodDescriptor yX7_image.desc).map (fun d => d.parameters.length) = some 1 := by decide +kernel
theorem kd_X6_from : yX6_from.cls = RX6 ∧ yX6_from.cls ≠ "java/lang/invoke/MethodHandle" ∧ yX6_from.cls ≠ "java/lang/invoke/VarHandle" ∧ (parseMethodDescriptor yX6_from.desc).map (fun d => d.parameters.length) = some 1 := by decide +kernel
theorem kd_X7_from : yX7_from.cls = RX7 ∧ yX7_from.cls ≠ "java/lang/invoke/MethodHandle" ∧ yX7_from.cls ≠ "java/lang/invoke/VarHandle" ∧ (parseMethodDescriptor yX7_from.desc).map (fun d => d.parameters.length) = some 1 := by decide +kernel
theorem kd_X6_status : yX6_status.cls = RX6 ∧ yX6_status.cls ≠ "java/lang/invoke/MethodHandle" ∧ yX6_status.cls ≠ "java/lang/invoke/VarHandle" ∧ (parseMethodDescriptor yX6_status.desc).map (fun d => d.parameters.length) = some 1 := by decide +kernel
theorem kd_X7_status : yX7_status.cls = RX7 ∧ yX7_status.cls ≠ "java/lang/invoke/MethodHandle" ∧ yX7_status.cls ≠ "java/lang/invoke/VarHandle" ∧ (parseMethodDescriptor yX7_status.desc).map (fun d => d.parameters.length) = some 1 := by decide +kernel
theorem kd_X6_count : yX6_count.cls = RX6 ∧ yX6_count.cls ≠ "java/lang/invoke/MethodHandle" ∧ yX6_count.cls ≠ "java/lang/invoke/VarHandle" ∧ (parseMethodDescriptor yX6_count.desc).map (fun d => d.parameters.length) = some 1 := by decide +kernel
theorem kd_X7_count : yX7_count.cls = RX7 ∧ yX7_count.cls ≠ "java/lang/invoke/MethodHandle" ∧ yX7_count.cls ≠ "java/lang/invoke/VarHandle" ∧ (parseMethodDescriptor yX7_count.desc).map (fun d => d.parameters.length) = some 1 := by decide +kernel
theorem kd_X6_digest : yX6_digest.cls = RX6 ∧ yX6_digest.cls ≠ "java/lang/invoke/MethodHandle" ∧ yX6_digest.cls ≠ "java/lang/invoke/VarHandle" ∧ (parseMethodDescriptor yX6_digest.desc).map (fun d => d.parameters.length) = some 0 := by decide +kernel
theorem kd_X7_digest : yX7_digest.cls = RX7 ∧ yX7_digest.cls ≠ "java/lang/invoke/MethodHandle" ∧ yX7_digest.cls ≠ "java/lang/invoke/VarHandle" ∧ (parseMethodDescriptor yX7_digest.desc).map (fun d => d.parameters.length) = some 0 := by decide +kernel
set_option maxRecDepth 100000 in
theorem lc_0 {p : Program} {l : Launch} {e : Env} {s : State} {m : MethodId} {args : Array Value} {below : List Frame} {meth : Method} {c : Code} {gc gm : mmG} {b L : Nat} {xs : Nat → Int32} (hC : CallFix p m c cL_law 4 s args uw RL) (hK : lwK gc gm s) (hJc : mmJ bcK gc) (hJm : mmJ bmK gm) (hdis : lwD gc gm) (hX : va_X b L xs s s.heap) (hbl : b < s.heap.size) (hL : L ≤ 4096) {Inv : Nat → Mem → Mem → Prop} {n cells slots : Nat} (hcs : cells ≤ room_1.cells ∧ slots ≤ room_1.slots) {Mc Mm : Mem} {x3 : Int32} (hx3 : x3 = nI (8 * n)) (hn : 8 * n + 8 ≤ L) (hsim : sim0 Inv n Mc Mm) {H : Heap} {locs : List Loc} {ls : Array Slot} (hw : lwM gc gm Mc Mm s.heap H locs) (hl : lv_has ls 4 [(0, .ref b), (1, .ref (gc.2.2 39 0)), (2, .ref (gm.2.2 0 0)), (3, .int x3)]) {Q : State → Prop} (K : ∀ (Mc2 Mm2 : Mem) (H : Heap) (locs : List Loc), Inv (n + 1) Mc2 Mm2 → lwM gc gm Mc2 Mm2 s.heap H locs → W p l e room_1 s m args below meth c H locs cells slots Q (F0 m 1031 ls [])) : W p l e room_1 s m args below meth c H locs cells slots Q (F0 m 172 ls []) := by
  have hx := hC.1
  have hb := hC.2.1
  obtain ⟨r, Mc2, Mm2, h1, h2, hI⟩ := hsim
  refine lv_aload_n hx hb dL_law_172 rfl (lv_at hl 1 rfl) ?_
  refine lw_ci (As := []) (rest := []) hC hK hJc hdis hw (mX6_floor l hJc h1) kg_RL_13 kd_X6_floor ⟨Nat.le_of_ble_eq_true rfl, Nat.le_of_ble_eq_true rfl⟩ rfl hl.1 rfl (Nat.le_of_ble_eq_true rfl) hcs dL_law_173 (fun H locs hw => ?_)
  refine lv_aload_n hx hb dL_law_176 rfl (lv_at hl 2 rfl) ?_
  refine lw_mi (As := []) (rest := [.int r]) hC hK hJm hdis hw (mX7_floor l hJm h2) kg_RL_17 kd_X7_floor ⟨Nat.le_of_ble_eq_true rfl, Nat.le_of_ble_eq_true rfl⟩ rfl hl.1 rfl (Nat.le_of_ble_eq_true rfl) hcs dL_law_177 (fun H locs hw => ?_)
  refine lv_icmp_eq (tgt := 1031) hx hb dL_law_180 (by decide) (fun _ => ?_) (fun hc => absurd rfl hc)
  exact K Mc2 Mm2 _ _ hI hw
set_option maxRecDepth 100000 in
theorem lc_1 {p : Program} {l : Launch} {e : Env} {s : State} {m : MethodId} {args : Array Value} {below : List Frame} {meth : Method} {c : Code} {gc gm : mmG} {b L : Nat} {xs : Nat → Int32} (hC : CallFix p m c cL_law 4 s args uw RL) (hK : lwK gc gm s) (hJc : mmJ bcK gc) (hJm : mmJ bmK gm) (hdis : lwD gc gm) (hX : va_X b L xs s s.heap) (hbl : b < s.heap.size) (hL : L ≤ 4096) {Inv : Nat → Mem → Mem → Prop} {n cells slots : Nat} (hcs : cells ≤ room_1.cells ∧ slots ≤ room_1.slots) {Mc Mm : Mem} {x3 : Int32} (hx3 : x3 = nI (8 * n)) (hn : 8 * n + 8 ≤ L) (hsim : sim1 Inv n Mc Mm) {H : Heap} {locs : List Loc} {ls : Array Slot} (hw : lwM gc gm Mc Mm s.heap H locs) (hl : lv_has ls 4 [(0, .ref b), (1, .ref (gc.2.2 39 0)), (2, .ref (gm.2.2 0 0)), (3, .int x3)]) {Q : State → Prop} (K : ∀ (Mc2 Mm2 : Mem) (H : Heap) (locs : List Loc), Inv (n + 1) Mc2 Mm2 → lwM gc gm Mc2 Mm2 s.heap H locs → W p l e room_1 s m args below meth c H locs cells slots Q (F0 m 1031 ls [])) : W p l e room_1 s m args below meth c H locs cells slots Q (F0 m 185 ls []) := by
  have hx := hC.1
  have hb := hC.2.1
  obtain ⟨r, Mc2, Mm2, h1, h2, hI⟩ := hsim (xs (x3 + 1).toNatClampNeg) (xs (x3 + 2).toNatClampNeg) (xs (x3 + 3).toNatClampNeg)
  refine lv_aload_n hx hb dL_law_185 rfl (lv_at hl 1 rfl) ?_
  refine lv_aload_n hx hb dL_law_186 rfl (lv_at hl 0 rfl) ?_
  refine lv_iload_n hx hb dL_law_187 rfl (lv_at hl 3 rfl) ?_
  refine lv_iconst (v := (1 : Int32)) hx hb dL_law_188 (by decide) ?_
  refine lv_iadd hx hb dL_law_189 ?_
  refine va_sld hx hb hX hbl (Nat.not_le.mpr hbl) hw.2.2 (lw_in 1 hx3 hn hL (by decide)) dL_law_190 ?_
  refine lv_aload_n hx hb dL_law_191 rfl (lv_at hl 0 rfl) ?_
  refine lv_iload_n hx hb dL_law_192 rfl (lv_at hl 3 rfl) ?_
  refine lv_iconst (v := (2 : Int32)) hx hb dL_law_193 (by decide) ?_
  refine lv_iadd hx hb dL_law_194 ?_
  refine va_sld hx hb hX hbl (Nat.not_le.mpr hbl) hw.2.2 (lw_in 2 hx3 hn hL (by decide)) dL_law_195 ?_
  refine lv_aload_n hx hb dL_law_196 rfl (lv_at hl 0 rfl) ?_
  refine lv_iload_n hx hb dL_law_197 rfl (lv_at hl 3 rfl) ?_
  refine lv_iconst (v := (3 : Int32)) hx hb dL_law_198 (by decide) ?_
  refine lv_iadd hx hb dL_law_199 ?_
  refine va_sld hx hb hX hbl (Nat.not_le.mpr hbl) hw.2.2 (lw_in 3 hx3 hn hL (by decide)) dL_law_200 ?_
  refine lw_ci (As := [.int (xs (x3 + 1).toNatClampNeg), .int (xs (x3 + 2).toNatClampNeg), .int (xs (x3 + 3).toNatClampNeg)]) (rest := []) hC hK hJc hdis hw (mX6_car l hJc h1) kg_RL_18 kd_X6_car ⟨Nat.le_of_ble_eq_true rfl, Nat.le_of_ble_eq_true rfl⟩ rfl hl.1 rfl (Nat.le_of_ble_eq_true rfl) hcs dL_law_201 (fun H locs hw => ?_)
  refine lv_aload_n hx hb dL_law_204 rfl (lv_at hl 2 rfl) ?_
  refine lv_aload_n hx hb dL_law_205 rfl (lv_at hl 0 rfl) ?_
  refine lv_iload_n hx hb dL_law_206 rfl (lv_at hl 3 rfl) ?_
  refine lv_iconst (v := (1 : Int32)) hx hb dL_law_207 (by decide) ?_
  refine lv_iadd hx hb dL_law_208 ?_
  refine va_sld hx hb hX hbl (Nat.not_le.mpr hbl) hw.2.2 (lw_in 1 hx3 hn hL (by decide)) dL_law_209 ?_
  refine lv_aload_n hx hb dL_law_210 rfl (lv_at hl 0 rfl) ?_
  refine lv_iload_n hx hb dL_law_211 rfl (lv_at hl 3 rfl) ?_
  refine lv_iconst (v := (2 : Int32)) hx hb dL_law_212 (by decide) ?_
  refine lv_iadd hx hb dL_law_213 ?_
  refine va_sld hx hb hX hbl (Nat.not_le.mpr hbl) hw.2.2 (lw_in 2 hx3 hn hL (by decide)) dL_law_214 ?_
  refine lv_aload_n hx hb dL_law_215 rfl (lv_at hl 0 rfl) ?_
  refine lv_iload_n hx hb dL_law_216 rfl (lv_at hl 3 rfl) ?_
  refine lv_iconst (v := (3 : Int32)) hx hb dL_law_217 (by decide) ?_
  refine lv_iadd hx hb dL_law_218 ?_
  refine va_sld hx hb hX hbl (Nat.not_le.mpr hbl) hw.2.2 (lw_in 3 hx3 hn hL (by decide)) dL_law_219 ?_
  refine lw_mi (As := [.int (xs (x3 + 1).toNatClampNeg), .int (xs (x3 + 2).toNatClampNeg), .int (xs (x3 + 3).toNatClampNeg)]) (rest := [.int r]) hC hK hJm hdis hw (mX7_car l hJm h2) kg_RL_22 kd_X7_car ⟨Nat.le_of_ble_eq_true rfl, Nat.le_of_ble_eq_true rfl⟩ rfl hl.1 rfl (Nat.le_of_ble_eq_true rfl) hcs dL_law_220 (fun H locs hw => ?_)
  refine lv_icmp_eq (tgt := 1031) hx hb dL_law_223 (by decide) (fun _ => ?_) (fun hc => absurd rfl hc)
  exact K Mc2 Mm2 _ _ hI hw
set_option maxRecDepth 100000 in
theorem lc_2 {p : Program} {l : Launch} {e : Env} {s : State} {m : MethodId} {args : Array Value} {below : List Frame} {meth : Method} {c : Code} {gc gm : mmG} {b L : Nat} {xs : Nat → Int32} (hC : CallFix p m c cL_law 4 s args uw RL) (hK : lwK gc gm s) (hJc : mmJ bcK gc) (hJm : mmJ bmK gm) (hdis : lwD gc gm) (hX : va_X b L xs s s.heap) (hbl : b < s.heap.size) (hL : L ≤ 4096) {Inv : Nat → Mem → Mem → Prop} {n cells slots : Nat} (hcs : cells ≤ room_1.cells ∧ slots ≤ room_1.slots) {Mc Mm : Mem} {x3 : Int32} (hx3 : x3 = nI (8 * n)) (hn : 8 * n + 8 ≤ L) (hsim : sim2 Inv n Mc Mm) {H : Heap} {locs : List Loc} {ls : Array Slot} (hw : lwM gc gm Mc Mm s.heap H locs) (hl : lv_has ls 4 [(0, .ref b), (1, .ref (gc.2.2 39 0)), (2, .ref (gm.2.2 0 0)), (3, .int x3)]) {Q : State → Prop} (K : ∀ (Mc2 Mm2 : Mem) (H : Heap) (locs : List Loc), Inv (n + 1) Mc2 Mm2 → lwM gc gm Mc2 Mm2 s.heap H locs → W p l e room_1 s m args below meth c H locs cells slots Q (F0 m 1031 ls [])) : W p l e room_1 s m args below meth c H locs cells slots Q (F0 m 228 ls []) := by
  have hx := hC.1
  have hb := hC.2.1
  obtain ⟨r, Mc2, Mm2, h1, h2, hI⟩ := hsim (xs (x3 + 1).toNatClampNeg)
  refine lv_aload_n hx hb dL_law_228 rfl (lv_at hl 1 rfl) ?_
  refine lv_aload_n hx hb dL_law_229 rfl (lv_at hl 0 rfl) ?_
  refine lv_iload_n hx hb dL_law_230 rfl (lv_at hl 3 rfl) ?_
  refine lv_iconst (v := (1 : Int32)) hx hb dL_law_231 (by decide) ?_
  refine lv_iadd hx hb dL_law_232 ?_
  refine va_sld hx hb hX hbl (Nat.not_le.mpr hbl) hw.2.2 (lw_in 1 hx3 hn hL (by decide)) dL_law_233 ?_
  refine lw_ci (As := [.int (xs (x3 + 1).toNatClampNeg)]) (rest := []) hC hK hJc hdis hw (mX6_type l hJc h1) kg_RL_23 kd_X6_type ⟨Nat.le_of_ble_eq_true rfl, Nat.le_of_ble_eq_true rfl⟩ rfl hl.1 rfl (Nat.le_of_ble_eq_true rfl) hcs dL_law_234 (fun H locs hw => ?_)
  refine lv_aload_n hx hb dL_law_237 rfl (lv_at hl 2 rfl) ?_
  refine lv_aload_n hx hb dL_law_238 rfl (lv_at hl 0 rfl) ?_
  refine lv_iload_n hx hb dL_law_239 rfl (lv_at hl 3 rfl) ?_
  refine lv_iconst (v := (1 : Int32)) hx hb dL_law_240 (by decide) ?_
  refine lv_iadd hx hb dL_law_241 ?_
  refine va_sld hx hb hX hbl (Nat.not_le.mpr hbl) hw.2.2 (lw_in 1 hx3 hn hL (by decide)) dL_law_242 ?_
  refine lw_mi (As := [.int (xs (x3 + 1).toNatClampNeg)]) (rest := [.int r]) hC hK hJm hdis hw (mX7_type l hJm h2) kg_RL_27 kd_X7_type ⟨Nat.le_of_ble_eq_true rfl, Nat.le_of_ble_eq_true rfl⟩ rfl hl.1 rfl (Nat.le_of_ble_eq_true rfl) hcs dL_law_243 (fun H locs hw => ?_)
  refine lv_icmp_eq (tgt := 1031) hx hb dL_law_246 (by decide) (fun _ => ?_) (fun hc => absurd rfl hc)
  exact K Mc2 Mm2 _ _ hI hw
set_option maxRecDepth 100000 in
theorem lc_3 {p : Program} {l : Launch} {e : Env} {s : State} {m : MethodId} {args : Array Value} {below : List Frame} {meth : Method} {c : Code} {gc gm : mmG} {b L : Nat} {xs : Nat → Int32} (hC : CallFix p m c cL_law 4 s args uw RL) (hK : lwK gc gm s) (hJc : mmJ bcK gc) (hJm : mmJ bmK gm) (hdis : lwD gc gm) (hX : va_X b L xs s s.heap) (hbl : b < s.heap.size) (hL : L ≤ 4096) {Inv : Nat → Mem → Mem → Prop} {n cells slots : Nat} (hcs : cells ≤ room_1.cells ∧ slots ≤ room_1.slots) {Mc Mm : Mem} {x3 : Int32} (hx3 : x3 = nI (8 * n)) (hn : 8 * n + 8 ≤ L) (hsim : sim3 Inv n Mc Mm) {H : Heap} {locs : List Loc} {ls : Array Slot} (hw : lwM gc gm Mc Mm s.heap H locs) (hl : lv_has ls 4 [(0, .ref b), (1, .ref (gc.2.2 39 0)), (2, .ref (gm.2.2 0 0)), (3, .int x3)]) {Q : State → Prop} (K : ∀ (Mc2 Mm2 : Mem) (H : Heap) (locs : List Loc), Inv (n + 1) Mc2 Mm2 → lwM gc gm Mc2 Mm2 s.heap H locs → W p l e room_1 s m args below meth c H locs cells slots Q (F0 m 1031 ls [])) : W p l e room_1 s m args below meth c H locs cells slots Q (F0 m 251 ls []) := by
  have hx := hC.1
  have hb := hC.2.1
  obtain ⟨r, Mc2, Mm2, h1, h2, hI⟩ := hsim
  refine lv_aload_n hx hb dL_law_251 rfl (lv_at hl 1 rfl) ?_
  refine lw_ci (As := []) (rest := []) hC hK hJc hdis hw (mX6_clear l hJc h1) kg_RL_28 kd_X6_clear ⟨Nat.le_of_ble_eq_true rfl, Nat.le_of_ble_eq_true rfl⟩ rfl hl.1 rfl (Nat.le_of_ble_eq_true rfl) hcs dL_law_252 (fun H locs hw => ?_)
  refine lv_aload_n hx hb dL_law_255 rfl (lv_at hl 2 rfl) ?_
  refine lw_mi (As := []) (rest := [.int r]) hC hK hJm hdis hw (mX7_clear l hJm h2) kg_RL_31 kd_X7_clear ⟨Nat.le_of_ble_eq_true rfl, Nat.le_of_ble_eq_true rfl⟩ rfl hl.1 rfl (Nat.le_of_ble_eq_true rfl) hcs dL_law_256 (fun H locs hw => ?_)
  refine lv_icmp_eq (tgt := 1031) hx hb dL_law_259 (by decide) (fun _ => ?_) (fun hc => absurd rfl hc)
  exact K Mc2 Mm2 _ _ hI hw
set_option maxRecDepth 100000 in
theorem lc_4 {p : Program} {l : Launch} {e : Env} {s : State} {m : MethodId} {args : Array Value} {below : List Frame} {meth : Method} {c : Code} {gc gm : mmG} {b L : Nat} {xs : Nat → Int32} (hC : CallFix p m c cL_law 4 s args uw RL) (hK : lwK gc gm s) (hJc : mmJ bcK gc) (hJm : mmJ bmK gm) (hdis : lwD gc gm) (hX : va_X b L xs s s.heap) (hbl : b < s.heap.size) (hL : L ≤ 4096) {Inv : Nat → Mem → Mem → Prop} {n cells slots : Nat} (hcs : cells ≤ room_1.cells ∧ slots ≤ room_1.slots) {Mc Mm : Mem} {x3 : Int32} (hx3 : x3 = nI (8 * n)) (hn : 8 * n + 8 ≤ L) (hsim : sim4 Inv n Mc Mm) {H : Heap} {locs : List Loc} {ls : Array Slot} (hw : lwM gc gm Mc Mm s.heap H locs) (hl : lv_has ls 4 [(0, .ref b), (1, .ref (gc.2.2 39 0)), (2, .ref (gm.2.2 0 0)), (3, .int x3)]) {Q : State → Prop} (K : ∀ (Mc2 Mm2 : Mem) (H : Heap) (locs : List Loc), Inv (n + 1) Mc2 Mm2 → lwM gc gm Mc2 Mm2 s.heap H locs → W p l e room_1 s m args below meth c H locs cells slots Q (F0 m 1031 ls [])) : W p l e room_1 s m args below meth c H locs cells slots Q (F0 m 264 ls []) := by
  have hx := hC.1
  have hb := hC.2.1
  obtain ⟨r, Mc2, Mm2, h1, h2, hI⟩ := hsim
  refine lv_aload_n hx hb dL_law_264 rfl (lv_at hl 1 rfl) ?_
  refine lw_ci (As := []) (rest := []) hC hK hJc hdis hw (mX6_read l hJc h1) kg_RL_32 kd_X6_read ⟨Nat.le_of_ble_eq_true rfl, Nat.le_of_ble_eq_true rfl⟩ rfl hl.1 rfl (Nat.le_of_ble_eq_true rfl) hcs dL_law_265 (fun H locs hw => ?_)
  refine lv_aload_n hx hb dL_law_268 rfl (lv_at hl 2 rfl) ?_
  refine lw_mi (As := []) (rest := [.int r]) hC hK hJm hdis hw (mX7_read l hJm h2) kg_RL_35 kd_X7_read ⟨Nat.le_of_ble_eq_true rfl, Nat.le_of_ble_eq_true rfl⟩ rfl hl.1 rfl (Nat.le_of_ble_eq_true rfl) hcs dL_law_269 (fun H locs hw => ?_)
  refine lv_icmp_eq (tgt := 1031) hx hb dL_law_272 (by decide) (fun _ => ?_) (fun hc => absurd rfl hc)
  exact K Mc2 Mm2 _ _ hI hw
set_option maxRecDepth 100000 in
theorem lc_5 {p : Program} {l : Launch} {e : Env} {s : State} {m : MethodId} {args : Array Value} {below : List Frame} {meth : Method} {c : Code} {gc gm : mmG} {b L : Nat} {xs : Nat → Int32} (hC : CallFix p m c cL_law 4 s args uw RL) (hK : lwK gc gm s) (hJc : mmJ bcK gc) (hJm : mmJ bmK gm) (hdis : lwD gc gm) (hX : va_X b L xs s s.heap) (hbl : b < s.heap.size) (hL : L ≤ 4096) {Inv : Nat → Mem → Mem → Prop} {n cells slots : Nat} (hcs : cells ≤ room_1.cells ∧ slots ≤ room_1.slots) {Mc Mm : Mem} {x3 : Int32} (hx3 : x3 = nI (8 * n)) (hn : 8 * n + 8 ≤ L) (hsim : sim5 Inv n Mc Mm) {H : Heap} {locs : List Loc} {ls : Array Slot} (hw : lwM gc gm Mc Mm s.heap H locs) (hl : lv_has ls 4 [(0, .ref b), (1, .ref (gc.2.2 39 0)), (2, .ref (gm.2.2 0 0)), (3, .int x3)]) {Q : State → Prop} (K : ∀ (Mc2 Mm2 : Mem) (H : Heap) (locs : List Loc), Inv (n + 1) Mc2 Mm2 → lwM gc gm Mc2 Mm2 s.heap H locs → W p l e room_1 s m args below meth c H locs cells slots Q (F0 m 1031 ls [])) : W p l e room_1 s m args below meth c H locs cells slots Q (F0 m 277 ls []) := by
  have hx := hC.1
  have hb := hC.2.1
  obtain ⟨r, Mc2, Mm2, h1, h2, hI⟩ := hsim (xs (x3 + 1).toNatClampNeg)
  refine lv_aload_n hx hb dL_law_277 rfl (lv_at hl 1 rfl) ?_
  refine lv_aload_n hx hb dL_law_278 rfl (lv_at hl 0 rfl) ?_
  refine lv_iload_n hx hb dL_law_279 rfl (lv_at hl 3 rfl) ?_
  refine lv_iconst (v := (1 : Int32)) hx hb dL_law_280 (by decide) ?_
  refine lv_iadd hx hb dL_law_281 ?_
  refine va_sld hx hb hX hbl (Nat.not_le.mpr hbl) hw.2.2 (lw_in 1 hx3 hn hL (by decide)) dL_law_282 ?_
  refine lw_ci (As := [.int (xs (x3 + 1).toNatClampNeg)]) (rest := []) hC hK hJc hdis hw (mX6_tick l hJc h1) kg_RL_36 kd_X6_tick ⟨Nat.le_of_ble_eq_true rfl, Nat.le_of_ble_eq_true rfl⟩ rfl hl.1 rfl (Nat.le_of_ble_eq_true rfl) hcs dL_law_283 (fun H locs hw => ?_)
  refine lv_aload_n hx hb dL_law_286 rfl (lv_at hl 2 rfl) ?_
  refine lv_aload_n hx hb dL_law_287 rfl (lv_at hl 0 rfl) ?_
  refine lv_iload_n hx hb dL_law_288 rfl (lv_at hl 3 rfl) ?_
  refine lv_iconst (v := (1 : Int32)) hx hb dL_law_289 (by decide) ?_
  refine lv_iadd hx hb dL_law_290 ?_
  refine va_sld hx hb hX hbl (Nat.not_le.mpr hbl) hw.2.2 (lw_in 1 hx3 hn hL (by decide)) dL_law_291 ?_
  refine lw_mi (As := [.int (xs (x3 + 1).toNatClampNeg)]) (rest := [.int r]) hC hK hJm hdis hw (mX7_tick l hJm h2) kg_RL_39 kd_X7_tick ⟨Nat.le_of_ble_eq_true rfl, Nat.le_of_ble_eq_true rfl⟩ rfl hl.1 rfl (Nat.le_of_ble_eq_true rfl) hcs dL_law_292 (fun H locs hw => ?_)
  refine lv_icmp_eq (tgt := 1031) hx hb dL_law_295 (by decide) (fun _ => ?_) (fun hc => absurd rfl hc)
  exact K Mc2 Mm2 _ _ hI hw
set_option maxRecDepth 100000 in
theorem lc_6 {p : Program} {l : Launch} {e : Env} {s : State} {m : MethodId} {args : Array Value} {below : List Frame} {meth : Method} {c : Code} {gc gm : mmG} {b L : Nat} {xs : Nat → Int32} (hC : CallFix p m c cL_law 4 s args uw RL) (hK : lwK gc gm s) (hJc : mmJ bcK gc) (hJm : mmJ bmK gm) (hdis : lwD gc gm) (hX : va_X b L xs s s.heap) (hbl : b < s.heap.size) (hL : L ≤ 4096) {Inv : Nat → Mem → Mem → Prop} {n cells slots : Nat} (hcs : cells ≤ room_1.cells ∧ slots ≤ room_1.slots) {Mc Mm : Mem} {x3 : Int32} (hx3 : x3 = nI (8 * n)) (hn : 8 * n + 8 ≤ L) (hsim : sim6 Inv n Mc Mm) {H : Heap} {locs : List Loc} {ls : Array Slot} (hw : lwM gc gm Mc Mm s.heap H locs) (hl : lv_has ls 4 [(0, .ref b), (1, .ref (gc.2.2 39 0)), (2, .ref (gm.2.2 0 0)), (3, .int x3)]) {Q : State → Prop} (K : ∀ (Mc2 Mm2 : Mem) (H : Heap) (locs : List Loc), Inv (n + 1) Mc2 Mm2 → lwM gc gm Mc2 Mm2 s.heap H locs → W p l e room_1 s m args below meth c H locs cells slots Q (F0 m 1031 ls [])) : W p l e room_1 s m args below meth c H locs cells slots Q (F0 m 300 ls []) := by
  have hx := hC.1
  have hb := hC.2.1
  obtain ⟨r, Mc2, Mm2, h1, h2, hI⟩ := hsim (xs (x3 + 1).toNatClampNeg)
  refine lv_aload_n hx hb dL_law_300 rfl (lv_at hl 1 rfl) ?_
  refine lv_aload_n hx hb dL_law_301 rfl (lv_at hl 0 rfl) ?_
  refine lv_iload_n hx hb dL_law_302 rfl (lv_at hl 3 rfl) ?_
  refine lv_iconst (v := (1 : Int32)) hx hb dL_law_303 (by decide) ?_
  refine lv_iadd hx hb dL_law_304 ?_
  refine va_sld hx hb hX hbl (Nat.not_le.mpr hbl) hw.2.2 (lw_in 1 hx3 hn hL (by decide)) dL_law_305 ?_
  refine lw_ci (As := [.int (xs (x3 + 1).toNatClampNeg)]) (rest := []) hC hK hJc hdis hw (mX6_hat l hJc h1) kg_RL_40 kd_X6_hat ⟨Nat.le_of_ble_eq_true rfl, Nat.le_of_ble_eq_true rfl⟩ rfl hl.1 rfl (Nat.le_of_ble_eq_true rfl) hcs dL_law_306 (fun H locs hw => ?_)
  refine lv_aload_n hx hb dL_law_309 rfl (lv_at hl 2 rfl) ?_
  refine lv_aload_n hx hb dL_law_310 rfl (lv_at hl 0 rfl) ?_
  refine lv_iload_n hx hb dL_law_311 rfl (lv_at hl 3 rfl) ?_
  refine lv_iconst (v := (1 : Int32)) hx hb dL_law_312 (by decide) ?_
  refine lv_iadd hx hb dL_law_313 ?_
  refine va_sld hx hb hX hbl (Nat.not_le.mpr hbl) hw.2.2 (lw_in 1 hx3 hn hL (by decide)) dL_law_314 ?_
  refine lw_mi (As := [.int (xs (x3 + 1).toNatClampNeg)]) (rest := [.int r]) hC hK hJm hdis hw (mX7_hat l hJm h2) kg_RL_43 kd_X7_hat ⟨Nat.le_of_ble_eq_true rfl, Nat.le_of_ble_eq_true rfl⟩ rfl hl.1 rfl (Nat.le_of_ble_eq_true rfl) hcs dL_law_315 (fun H locs hw => ?_)
  refine lv_icmp_eq (tgt := 1031) hx hb dL_law_318 (by decide) (fun _ => ?_) (fun hc => absurd rfl hc)
  exact K Mc2 Mm2 _ _ hI hw
set_option maxRecDepth 100000 in
theorem lc_7 {p : Program} {l : Launch} {e : Env} {s : State} {m : MethodId} {args : Array Value} {below : List Frame} {meth : Method} {c : Code} {gc gm : mmG} {b L : Nat} {xs : Nat → Int32} (hC : CallFix p m c cL_law 4 s args uw RL) (hK : lwK gc gm s) (hJc : mmJ bcK gc) (hJm : mmJ bmK gm) (hdis : lwD gc gm) (hX : va_X b L xs s s.heap) (hbl : b < s.heap.size) (hL : L ≤ 4096) {Inv : Nat → Mem → Mem → Prop} {n cells slots : Nat} (hcs : cells ≤ room_1.cells ∧ slots ≤ room_1.slots) {Mc Mm : Mem} {x3 : Int32} (hx3 : x3 = nI (8 * n)) (hn : 8 * n + 8 ≤ L) (hsim : sim7 Inv n Mc Mm) {H : Heap} {locs : List Loc} {ls : Array Slot} (hw : lwM gc gm Mc Mm s.heap H locs) (hl : lv_has ls 4 [(0, .ref b), (1, .ref (gc.2.2 39 0)), (2, .ref (gm.2.2 0 0)), (3, .int x3)]) {Q : State → Prop} (K : ∀ (Mc2 Mm2 : Mem) (H : Heap) (locs : List Loc), Inv (n + 1) Mc2 Mm2 → lwM gc gm Mc2 Mm2 s.heap H locs → W p l e room_1 s m args below meth c H locs cells slots Q (F0 m 1031 ls [])) : W p l e room_1 s m args below meth c H locs cells slots Q (F0 m 323 ls []) := by
  have hx := hC.1
  have hb := hC.2.1
  obtain ⟨r, Mc2, Mm2, h1, h2, hI⟩ := hsim (xs (x3 + 1).toNatClampNeg) (xs (x3 + 2).toNatClampNeg) (xs (x3 + 3).toNatClampNeg)
  refine lv_aload_n hx hb dL_law_323 rfl (lv_at hl 1 rfl) ?_
  refine lv_aload_n hx hb dL_law_324 rfl (lv_at hl 0 rfl) ?_
  refine lv_iload_n hx hb dL_law_325 rfl (lv_at hl 3 rfl) ?_
  refine lv_iconst (v := (1 : Int32)) hx hb dL_law_326 (by decide) ?_
  refine lv_iadd hx hb dL_law_327 ?_
  refine va_sld hx hb hX hbl (Nat.not_le.mpr hbl) hw.2.2 (lw_in 1 hx3 hn hL (by decide)) dL_law_328 ?_
  refine lv_aload_n hx hb dL_law_329 rfl (lv_at hl 0 rfl) ?_
  refine lv_iload_n hx hb dL_law_330 rfl (lv_at hl 3 rfl) ?_
  refine lv_iconst (v := (2 : Int32)) hx hb dL_law_331 (by decide) ?_
  refine lv_iadd hx hb dL_law_332 ?_
  refine va_sld hx hb hX hbl (Nat.not_le.mpr hbl) hw.2.2 (lw_in 2 hx3 hn hL (by decide)) dL_law_333 ?_
  refine lv_aload_n hx hb dL_law_334 rfl (lv_at hl 0 rfl) ?_
  refine lv_iload_n hx hb dL_law_335 rfl (lv_at hl 3 rfl) ?_
  refine lv_iconst (v := (3 : Int32)) hx hb dL_law_336 (by decide) ?_
  refine lv_iadd hx hb dL_law_337 ?_
  refine va_sld hx hb hX hbl (Nat.not_le.mpr hbl) hw.2.2 (lw_in 3 hx3 hn hL (by decide)) dL_law_338 ?_
  refine lw_ci (As := [.int (xs (x3 + 1).toNatClampNeg), .int (xs (x3 + 2).toNatClampNeg), .int (xs (x3 + 3).toNatClampNeg)]) (rest := []) hC hK hJc hdis hw (mX6_push l hJc h1) kg_RL_44 kd_X6_push ⟨Nat.le_of_ble_eq_true rfl, Nat.le_of_ble_eq_true rfl⟩ rfl hl.1 rfl (Nat.le_of_ble_eq_true rfl) hcs dL_law_339 (fun H locs hw => ?_)
  refine lv_aload_n hx hb dL_law_342 rfl (lv_at hl 2 rfl) ?_
  refine lv_aload_n hx hb dL_law_343 rfl (lv_at hl 0 rfl) ?_
  refine lv_iload_n hx hb dL_law_344 rfl (lv_at hl 3 rfl) ?_
  refine lv_iconst (v := (1 : Int32)) hx hb dL_law_345 (by decide) ?_
  refine lv_iadd hx hb dL_law_346 ?_
  refine va_sld hx hb hX hbl (Nat.not_le.mpr hbl) hw.2.2 (lw_in 1 hx3 hn hL (by decide)) dL_law_347 ?_
  refine lv_aload_n hx hb dL_law_348 rfl (lv_at hl 0 rfl) ?_
  refine lv_iload_n hx hb dL_law_349 rfl (lv_at hl 3 rfl) ?_
  refine lv_iconst (v := (2 : Int32)) hx hb dL_law_350 (by decide) ?_
  refine lv_iadd hx hb dL_law_351 ?_
  refine va_sld hx hb hX hbl (Nat.not_le.mpr hbl) hw.2.2 (lw_in 2 hx3 hn hL (by decide)) dL_law_352 ?_
  refine lv_aload_n hx hb dL_law_353 rfl (lv_at hl 0 rfl) ?_
  refine lv_iload_n hx hb dL_law_354 rfl (lv_at hl 3 rfl) ?_
  refine lv_iconst (v := (3 : Int32)) hx hb dL_law_355 (by decide) ?_
  refine lv_iadd hx hb dL_law_356 ?_
  refine va_sld hx hb hX hbl (Nat.not_le.mpr hbl) hw.2.2 (lw_in 3 hx3 hn hL (by decide)) dL_law_357 ?_
  refine lw_mi (As := [.int (xs (x3 + 1).toNatClampNeg), .int (xs (x3 + 2).toNatClampNeg), .int (xs (x3 + 3).toNatClampNeg)]) (rest := [.int r]) hC hK hJm hdis hw (mX7_push l hJm h2) kg_RL_47 kd_X7_push ⟨Nat.le_of_ble_eq_true rfl, Nat.le_of_ble_eq_true rfl⟩ rfl hl.1 rfl (Nat.le_of_ble_eq_true rfl) hcs dL_law_358 (fun H locs hw => ?_)
  refine lv_icmp_eq (tgt := 1031) hx hb dL_law_361 (by decide) (fun _ => ?_) (fun hc => absurd rfl hc)
  exact K Mc2 Mm2 _ _ hI hw
set_option maxRecDepth 100000 in
theorem lc_8 {p : Program} {l : Launch} {e : Env} {s : State} {m : MethodId} {args : Array Value} {below : List Frame} {meth : Method} {c : Code} {gc gm : mmG} {b L : Nat} {xs : Nat → Int32} (hC : CallFix p m c cL_law 4 s args uw RL) (hK : lwK gc gm s) (hJc : mmJ bcK gc) (hJm : mmJ bmK gm) (hdis : lwD gc gm) (hX : va_X b L xs s s.heap) (hbl : b < s.heap.size) (hL : L ≤ 4096) {Inv : Nat → Mem → Mem → Prop} {n cells slots : Nat} (hcs : cells ≤ room_1.cells ∧ slots ≤ room_1.slots) {Mc Mm : Mem} {x3 : Int32} (hx3 : x3 = nI (8 * n)) (hn : 8 * n + 8 ≤ L) (hsim : sim8 Inv n Mc Mm) {H : Heap} {locs : List Loc} {ls : Array Slot} (hw : lwM gc gm Mc Mm s.heap H locs) (hl : lv_has ls 4 [(0, .ref b), (1, .ref (gc.2.2 39 0)), (2, .ref (gm.2.2 0 0)), (3, .int x3)]) {Q : State → Prop} (K : ∀ (Mc2 Mm2 : Mem) (H : Heap) (locs : List Loc), Inv (n + 1) Mc2 Mm2 → lwM gc gm Mc2 Mm2 s.heap H locs → W p l e room_1 s m args below meth c H locs cells slots Q (F0 m 1031 ls [])) : W p l e room_1 s m args below meth c H locs cells slots Q (F0 m 366 ls []) := by
  have hx := hC.1
  have hb := hC.2.1
  obtain ⟨r, Mc2, Mm2, h1, h2, hI⟩ := hsim
  refine lv_aload_n hx hb dL_law_366 rfl (lv_at hl 1 rfl) ?_
  refine lw_ci (As := []) (rest := []) hC hK hJc hdis hw (mX6_undo l hJc h1) kg_RL_48 kd_X6_undo ⟨Nat.le_of_ble_eq_true rfl, Nat.le_of_ble_eq_true rfl⟩ rfl hl.1 rfl (Nat.le_of_ble_eq_true rfl) hcs dL_law_367 (fun H locs hw => ?_)
  refine lv_aload_n hx hb dL_law_370 rfl (lv_at hl 2 rfl) ?_
  refine lw_mi (As := []) (rest := [.int r]) hC hK hJm hdis hw (mX7_undo l hJm h2) kg_RL_51 kd_X7_undo ⟨Nat.le_of_ble_eq_true rfl, Nat.le_of_ble_eq_true rfl⟩ rfl hl.1 rfl (Nat.le_of_ble_eq_true rfl) hcs dL_law_371 (fun H locs hw => ?_)
  refine lv_icmp_eq (tgt := 1031) hx hb dL_law_374 (by decide) (fun _ => ?_) (fun hc => absurd rfl hc)
  exact K Mc2 Mm2 _ _ hI hw
set_option maxRecDepth 100000 in
theorem lc_9 {p : Program} {l : Launch} {e : Env} {s : State} {m : MethodId} {args : Array Value} {below : List Frame} {meth : Method} {c : Code} {gc gm : mmG} {b L : Nat} {xs : Nat → Int32} (hC : CallFix p m c cL_law 4 s args uw RL) (hK : lwK gc gm s) (hJc : mmJ bcK gc) (hJm : mmJ bmK gm) (hdis : lwD gc gm) (hX : va_X b L xs s s.heap) (hbl : b < s.heap.size) (hL : L ≤ 4096) {Inv : Nat → Mem → Mem → Prop} {n cells slots : Nat} (hcs : cells ≤ room_1.cells ∧ slots ≤ room_1.slots) {Mc Mm : Mem} {x3 : Int32} (hx3 : x3 = nI (8 * n)) (hn : 8 * n + 8 ≤ L) (hsim : sim9 Inv n Mc Mm) {H : Heap} {locs : List Loc} {ls : Array Slot} (hw : lwM gc gm Mc Mm s.heap H locs) (hl : lv_has ls 4 [(0, .ref b), (1, .ref (gc.2.2 39 0)), (2, .ref (gm.2.2 0 0)), (3, .int x3)]) {Q : State → Prop} (K : ∀ (Mc2 Mm2 : Mem) (H : Heap) (locs : List Loc), Inv (n + 1) Mc2 Mm2 → lwM gc gm Mc2 Mm2 s.heap H locs → W p l e room_1 s m args below meth c H locs cells slots Q (F0 m 1031 ls [])) : W p l e room_1 s m args below meth c H locs cells slots Q (F0 m 379 ls []) := by
  have hx := hC.1
  have hb := hC.2.1
  obtain ⟨r, Mc2, Mm2, h1, h2, hI⟩ := hsim (xs (x3 + 1).toNatClampNeg) (xs (x3 + 2).toNatClampNeg)
  refine lv_aload_n hx hb dL_law_379 rfl (lv_at hl 1 rfl) ?_
  refine lv_aload_n hx hb dL_law_380 rfl (lv_at hl 0 rfl) ?_
  refine lv_iload_n hx hb dL_law_381 rfl (lv_at hl 3 rfl) ?_
  refine lv_iconst (v := (1 : Int32)) hx hb dL_law_382 (by decide) ?_
  refine lv_iadd hx hb dL_law_383 ?_
  refine va_sld hx hb hX hbl (Nat.not_le.mpr hbl) hw.2.2 (lw_in 1 hx3 hn hL (by decide)) dL_law_384 ?_
  refine lv_aload_n hx hb dL_law_385 rfl (lv_at hl 0 rfl) ?_
  refine lv_iload_n hx hb dL_law_386 rfl (lv_at hl 3 rfl) ?_
  refine lv_iconst (v := (2 : Int32)) hx hb dL_law_387 (by decide) ?_
  refine lv_iadd hx hb dL_law_388 ?_
  refine va_sld hx hb hX hbl (Nat.not_le.mpr hbl) hw.2.2 (lw_in 2 hx3 hn hL (by decide)) dL_law_389 ?_
  refine lw_ci (As := [.int (xs (x3 + 1).toNatClampNeg), .int (xs (x3 + 2).toNatClampNeg)]) (rest := []) hC hK hJc hdis hw (mX6_of l hJc h1) kg_RL_52 kd_X6_of ⟨Nat.le_of_ble_eq_true rfl, Nat.le_of_ble_eq_true rfl⟩ rfl hl.1 rfl (Nat.le_of_ble_eq_true rfl) hcs dL_law_390 (fun H locs hw => ?_)
  refine lv_aload_n hx hb dL_law_393 rfl (lv_at hl 2 rfl) ?_
  refine lv_aload_n hx hb dL_law_394 rfl (lv_at hl 0 rfl) ?_
  refine lv_iload_n hx hb dL_law_395 rfl (lv_at hl 3 rfl) ?_
  refine lv_iconst (v := (1 : Int32)) hx hb dL_law_396 (by decide) ?_
  refine lv_iadd hx hb dL_law_397 ?_
  refine va_sld hx hb hX hbl (Nat.not_le.mpr hbl) hw.2.2 (lw_in 1 hx3 hn hL (by decide)) dL_law_398 ?_
  refine lv_aload_n hx hb dL_law_399 rfl (lv_at hl 0 rfl) ?_
  refine lv_iload_n hx hb dL_law_400 rfl (lv_at hl 3 rfl) ?_
  refine lv_iconst (v := (2 : Int32)) hx hb dL_law_401 (by decide) ?_
  refine lv_iadd hx hb dL_law_402 ?_
  refine va_sld hx hb hX hbl (Nat.not_le.mpr hbl) hw.2.2 (lw_in 2 hx3 hn hL (by decide)) dL_law_403 ?_
  refine lw_mi (As := [.int (xs (x3 + 1).toNatClampNeg), .int (xs (x3 + 2).toNatClampNeg)]) (rest := [.int r]) hC hK hJm hdis hw (mX7_of l hJm h2) kg_RL_56 kd_X7_of ⟨Nat.le_of_ble_eq_true rfl, Nat.le_of_ble_eq_true rfl⟩ rfl hl.1 rfl (Nat.le_of_ble_eq_true rfl) hcs dL_law_404 (fun H locs hw => ?_)
  refine lv_icmp_eq (tgt := 1031) hx hb dL_law_407 (by decide) (fun _ => ?_) (fun hc => absurd rfl hc)
  exact K Mc2 Mm2 _ _ hI hw
set_option maxRecDepth 100000 in
theorem lc_10 {p : Program} {l : Launch} {e : Env} {s : State} {m : MethodId} {args : Array Value} {below : List Frame} {meth : Method} {c : Code} {gc gm : mmG} {b L : Nat} {xs : Nat → Int32} (hC : CallFix p m c cL_law 4 s args uw RL) (hK : lwK gc gm s) (hJc : mmJ bcK gc) (hJm : mmJ bmK gm) (hdis : lwD gc gm) (hX : va_X b L xs s s.heap) (hbl : b < s.heap.size) (hL : L ≤ 4096) {Inv : Nat → Mem → Mem → Prop} {n cells slots : Nat} (hcs : cells ≤ room_1.cells ∧ slots ≤ room_1.slots) {Mc Mm : Mem} {x3 : Int32} (hx3 : x3 = nI (8 * n)) (hn : 8 * n + 8 ≤ L) (hsim : sim10 Inv n Mc Mm) {H : Heap} {locs : List Loc} {ls : Array Slot} (hw : lwM gc gm Mc Mm s.heap H locs) (hl : lv_has ls 4 [(0, .ref b), (1, .ref (gc.2.2 39 0)), (2, .ref (gm.2.2 0 0)), (3, .int x3)]) {Q : State → Prop} (K : ∀ (Mc2 Mm2 : Mem) (H : Heap) (locs : List Loc), Inv (n + 1) Mc2 Mm2 → lwM gc gm Mc2 Mm2 s.heap H locs → W p l e room_1 s m args below meth c H locs cells slots Q (F0 m 1031 ls [])) : W p l e room_1 s m args below meth c H locs cells slots Q (F0 m 412 ls []) := by
  have hx := hC.1
  have hb := hC.2.1
  obtain ⟨r, Mc2, Mm2, h1, h2, hI⟩ := hsim (xs (x3 + 1).toNatClampNeg)
  refine lv_aload_n hx hb dL_law_412 rfl (lv_at hl 1 rfl) ?_
  refine lv_aload_n hx hb dL_law_413 rfl (lv_at hl 0 rfl) ?_
  refine lv_iload_n hx hb dL_law_414 rfl (lv_at hl 3 rfl) ?_
  refine lv_iconst (v := (1 : Int32)) hx hb dL_law_415 (by decide) ?_
  refine lv_iadd hx hb dL_law_416 ?_
  refine va_sld hx hb hX hbl (Nat.not_le.mpr hbl) hw.2.2 (lw_in 1 hx3 hn hL (by decide)) dL_law_417 ?_
  refine lw_ci (As := [.int (xs (x3 + 1).toNatClampNeg)]) (rest := []) hC hK hJc hdis hw (mX6_at l hJc h1) kg_RL_57 kd_X6_at ⟨Nat.le_of_ble_eq_true rfl, Nat.le_of_ble_eq_true rfl⟩ rfl hl.1 rfl (Nat.le_of_ble_eq_true rfl) hcs dL_law_418 (fun H locs hw => ?_)
  refine lv_aload_n hx hb dL_law_421 rfl (lv_at hl 2 rfl) ?_
  refine lv_aload_n hx hb dL_law_422 rfl (lv_at hl 0 rfl) ?_
  refine lv_iload_n hx hb dL_law_423 rfl (lv_at hl 3 rfl) ?_
  refine lv_iconst (v := (1 : Int32)) hx hb dL_law_424 (by decide) ?_
  refine lv_iadd hx hb dL_law_425 ?_
  refine va_sld hx hb hX hbl (Nat.not_le.mpr hbl) hw.2.2 (lw_in 1 hx3 hn hL (by decide)) dL_law_426 ?_
  refine lw_mi (As := [.int (xs (x3 + 1).toNatClampNeg)]) (rest := [.int r]) hC hK hJm hdis hw (mX7_at l hJm h2) kg_RL_60 kd_X7_at ⟨Nat.le_of_ble_eq_true rfl, Nat.le_of_ble_eq_true rfl⟩ rfl hl.1 rfl (Nat.le_of_ble_eq_true rfl) hcs dL_law_427 (fun H locs hw => ?_)
  refine lv_icmp_eq (tgt := 1031) hx hb dL_law_430 (by decide) (fun _ => ?_) (fun hc => absurd rfl hc)
  exact K Mc2 Mm2 _ _ hI hw
set_option maxRecDepth 100000 in
theorem lc_11 {p : Program} {l : Launch} {e : Env} {s : State} {m : MethodId} {args : Array Value} {below : List Frame} {meth : Method} {c : Code} {gc gm : mmG} {b L : Nat} {xs : Nat → Int32} (hC : CallFix p m c cL_law 4 s args uw RL) (hK : lwK gc gm s) (hJc : mmJ bcK gc) (hJm : mmJ bmK gm) (hdis : lwD gc gm) (hX : va_X b L xs s s.heap) (hbl : b < s.heap.size) (hL : L ≤ 4096) {Inv : Nat → Mem → Mem → Prop} {n cells slots : Nat} (hcs : cells ≤ room_1.cells ∧ slots ≤ room_1.slots) {Mc Mm : Mem} {x3 : Int32} (hx3 : x3 = nI (8 * n)) (hn : 8 * n + 8 ≤ L) (hsim : sim11 Inv n Mc Mm) {H : Heap} {locs : List Loc} {ls : Array Slot} (hw : lwM gc gm Mc Mm s.heap H locs) (hl : lv_has ls 4 [(0, .ref b), (1, .ref (gc.2.2 39 0)), (2, .ref (gm.2.2 0 0)), (3, .int x3)]) {Q : State → Prop} (K : ∀ (Mc2 Mm2 : Mem) (H : Heap) (locs : List Loc), Inv (n + 1) Mc2 Mm2 → lwM gc gm Mc2 Mm2 s.heap H locs → W p l e room_1 s m args below meth c H locs cells slots Q (F0 m 1031 ls [])) : W p l e room_1 s m args below meth c H locs cells slots Q (F0 m 435 ls []) := by
  have hx := hC.1
  have hb := hC.2.1
  obtain ⟨r, Mc2, Mm2, h1, h2, hI⟩ := hsim (xs (x3 + 1).toNatClampNeg)
  refine lv_aload_n hx hb dL_law_435 rfl (lv_at hl 1 rfl) ?_
  refine lv_aload_n hx hb dL_law_436 rfl (lv_at hl 0 rfl) ?_
  refine lv_iload_n hx hb dL_law_437 rfl (lv_at hl 3 rfl) ?_
  refine lv_iconst (v := (1 : Int32)) hx hb dL_law_438 (by decide) ?_
  refine lv_iadd hx hb dL_law_439 ?_
  refine va_sld hx hb hX hbl (Nat.not_le.mpr hbl) hw.2.2 (lw_in 1 hx3 hn hL (by decide)) dL_law_440 ?_
  refine lw_ci (As := [.int (xs (x3 + 1).toNatClampNeg)]) (rest := []) hC hK hJc hdis hw (mX6_way l hJc h1) kg_RL_61 kd_X6_way ⟨Nat.le_of_ble_eq_true rfl, Nat.le_of_ble_eq_true rfl⟩ rfl hl.1 rfl (Nat.le_of_ble_eq_true rfl) hcs dL_law_441 (fun H locs hw => ?_)
  refine lv_aload_n hx hb dL_law_444 rfl (lv_at hl 2 rfl) ?_
  refine lv_aload_n hx hb dL_law_445 rfl (lv_at hl 0 rfl) ?_
  refine lv_iload_n hx hb dL_law_446 rfl (lv_at hl 3 rfl) ?_
  refine lv_iconst (v := (1 : Int32)) hx hb dL_law_447 (by decide) ?_
  refine lv_iadd hx hb dL_law_448 ?_
  refine va_sld hx hb hX hbl (Nat.not_le.mpr hbl) hw.2.2 (lw_in 1 hx3 hn hL (by decide)) dL_law_449 ?_
  refine lw_mi (As := [.int (xs (x3 + 1).toNatClampNeg)]) (rest := [.int r]) hC hK hJm hdis hw (mX7_way l hJm h2) kg_RL_64 kd_X7_way ⟨Nat.le_of_ble_eq_true rfl, Nat.le_of_ble_eq_true rfl⟩ rfl hl.1 rfl (Nat.le_of_ble_eq_true rfl) hcs dL_law_450 (fun H locs hw => ?_)
  refine lv_icmp_eq (tgt := 1031) hx hb dL_law_453 (by decide) (fun _ => ?_) (fun hc => absurd rfl hc)
  exact K Mc2 Mm2 _ _ hI hw
set_option maxRecDepth 100000 in
theorem lc_12 {p : Program} {l : Launch} {e : Env} {s : State} {m : MethodId} {args : Array Value} {below : List Frame} {meth : Method} {c : Code} {gc gm : mmG} {b L : Nat} {xs : Nat → Int32} (hC : CallFix p m c cL_law 4 s args uw RL) (hK : lwK gc gm s) (hJc : mmJ bcK gc) (hJm : mmJ bmK gm) (hdis : lwD gc gm) (hX : va_X b L xs s s.heap) (hbl : b < s.heap.size) (hL : L ≤ 4096) {Inv : Nat → Mem → Mem → Prop} {n cells slots : Nat} (hcs : cells ≤ room_1.cells ∧ slots ≤ room_1.slots) {Mc Mm : Mem} {x3 : Int32} (hx3 : x3 = nI (8 * n)) (hn : 8 * n + 8 ≤ L) (hsim : sim12 Inv n Mc Mm) {H : Heap} {locs : List Loc} {ls : Array Slot} (hw : lwM gc gm Mc Mm s.heap H locs) (hl : lv_has ls 4 [(0, .ref b), (1, .ref (gc.2.2 39 0)), (2, .ref (gm.2.2 0 0)), (3, .int x3)]) {Q : State → Prop} (K : ∀ (Mc2 Mm2 : Mem) (H : Heap) (locs : List Loc), Inv (n + 1) Mc2 Mm2 → lwM gc gm Mc2 Mm2 s.heap H locs → W p l e room_1 s m args below meth c H locs cells slots Q (F0 m 1031 ls [])) : W p l e room_1 s m args below meth c H locs cells slots Q (F0 m 458 ls []) := by
  have hx := hC.1
  have hb := hC.2.1
  obtain ⟨r, Mc2, Mm2, h1, h2, hI⟩ := hsim (xs (x3 + 1).toNatClampNeg) (xs (x3 + 2).toNatClampNeg) (xs (x3 + 3).toNatClampNeg)
  refine lv_aload_n hx hb dL_law_458 rfl (lv_at hl 1 rfl) ?_
  refine lv_aload_n hx hb dL_law_459 rfl (lv_at hl 0 rfl) ?_
  refine lv_iload_n hx hb dL_law_460 rfl (lv_at hl 3 rfl) ?_
  refine lv_iconst (v := (1 : Int32)) hx hb dL_law_461 (by decide) ?_
  refine lv_iadd hx hb dL_law_462 ?_
  refine va_sld hx hb hX hbl (Nat.not_le.mpr hbl) hw.2.2 (lw_in 1 hx3 hn hL (by decide)) dL_law_463 ?_
  refine lv_aload_n hx hb dL_law_464 rfl (lv_at hl 0 rfl) ?_
  refine lv_iload_n hx hb dL_law_465 rfl (lv_at hl 3 rfl) ?_
  refine lv_iconst (v := (2 : Int32)) hx hb dL_law_466 (by decide) ?_
  refine lv_iadd hx hb dL_law_467 ?_
  refine va_sld hx hb hX hbl (Nat.not_le.mpr hbl) hw.2.2 (lw_in 2 hx3 hn hL (by decide)) dL_law_468 ?_
  refine lv_aload_n hx hb dL_law_469 rfl (lv_at hl 0 rfl) ?_
  refine lv_iload_n hx hb dL_law_470 rfl (lv_at hl 3 rfl) ?_
  refine lv_iconst (v := (3 : Int32)) hx hb dL_law_471 (by decide) ?_
  refine lv_iadd hx hb dL_law_472 ?_
  refine va_sld hx hb hX hbl (Nat.not_le.mpr hbl) hw.2.2 (lw_in 3 hx3 hn hL (by decide)) dL_law_473 ?_
  refine lw_ci (As := [.int (xs (x3 + 1).toNatClampNeg), .int (xs (x3 + 2).toNatClampNeg), .int (xs (x3 + 3).toNatClampNeg)]) (rest := []) hC hK hJc hdis hw (mX6_then l hJc h1) kg_RL_65 kd_X6_then ⟨Nat.le_of_ble_eq_true rfl, Nat.le_of_ble_eq_true rfl⟩ rfl hl.1 rfl (Nat.le_of_ble_eq_true rfl) hcs dL_law_474 (fun H locs hw => ?_)
  refine lv_aload_n hx hb dL_law_477 rfl (lv_at hl 2 rfl) ?_
  refine lv_aload_n hx hb dL_law_478 rfl (lv_at hl 0 rfl) ?_
  refine lv_iload_n hx hb dL_law_479 rfl (lv_at hl 3 rfl) ?_
  refine lv_iconst (v := (1 : Int32)) hx hb dL_law_480 (by decide) ?_
  refine lv_iadd hx hb dL_law_481 ?_
  refine va_sld hx hb hX hbl (Nat.not_le.mpr hbl) hw.2.2 (lw_in 1 hx3 hn hL (by decide)) dL_law_482 ?_
  refine lv_aload_n hx hb dL_law_483 rfl (lv_at hl 0 rfl) ?_
  refine lv_iload_n hx hb dL_law_484 rfl (lv_at hl 3 rfl) ?_
  refine lv_iconst (v := (2 : Int32)) hx hb dL_law_485 (by decide) ?_
  refine lv_iadd hx hb dL_law_486 ?_
  refine va_sld hx hb hX hbl (Nat.not_le.mpr hbl) hw.2.2 (lw_in 2 hx3 hn hL (by decide)) dL_law_487 ?_
  refine lv_aload_n hx hb dL_law_488 rfl (lv_at hl 0 rfl) ?_
  refine lv_iload_n hx hb dL_law_489 rfl (lv_at hl 3 rfl) ?_
  refine lv_iconst (v := (3 : Int32)) hx hb dL_law_490 (by decide) ?_
  refine lv_iadd hx hb dL_law_491 ?_
  refine va_sld hx hb hX hbl (Nat.not_le.mpr hbl) hw.2.2 (lw_in 3 hx3 hn hL (by decide)) dL_law_492 ?_
  refine lw_mi (As := [.int (xs (x3 + 1).toNatClampNeg), .int (xs (x3 + 2).toNatClampNeg), .int (xs (x3 + 3).toNatClampNeg)]) (rest := [.int r]) hC hK hJm hdis hw (mX7_then l hJm h2) kg_RL_68 kd_X7_then ⟨Nat.le_of_ble_eq_true rfl, Nat.le_of_ble_eq_true rfl⟩ rfl hl.1 rfl (Nat.le_of_ble_eq_true rfl) hcs dL_law_493 (fun H locs hw => ?_)
  refine lv_icmp_eq (tgt := 1031) hx hb dL_law_496 (by decide) (fun _ => ?_) (fun hc => absurd rfl hc)
  exact K Mc2 Mm2 _ _ hI hw
set_option maxRecDepth 100000 in
theorem lc_13 {p : Program} {l : Launch} {e : Env} {s : State} {m : MethodId} {args : Array Value} {below : List Frame} {meth : Method} {c : Code} {gc gm : mmG} {b L : Nat} {xs : Nat → Int32} (hC : CallFix p m c cL_law 4 s args uw RL) (hK : lwK gc gm s) (hJc : mmJ bcK gc) (hJm : mmJ bmK gm) (hdis : lwD gc gm) (hX : va_X b L xs s s.heap) (hbl : b < s.heap.size) (hL : L ≤ 4096) {Inv : Nat → Mem → Mem → Prop} {n cells slots : Nat} (hcs : cells ≤ room_1.cells ∧ slots ≤ room_1.slots) {Mc Mm : Mem} {x3 : Int32} (hx3 : x3 = nI (8 * n)) (hn : 8 * n + 8 ≤ L) (hsim : sim13 Inv n Mc Mm) {H : Heap} {locs : List Loc} {ls : Array Slot} (hw : lwM gc gm Mc Mm s.heap H locs) (hl : lv_has ls 4 [(0, .ref b), (1, .ref (gc.2.2 39 0)), (2, .ref (gm.2.2 0 0)), (3, .int x3)]) {Q : State → Prop} (K : ∀ (Mc2 Mm2 : Mem) (H : Heap) (locs : List Loc), Inv (n + 1) Mc2 Mm2 → lwM gc gm Mc2 Mm2 s.heap H locs → W p l e room_1 s m args below meth c H locs cells slots Q (F0 m 1031 ls [])) : W p l e room_1 s m args below meth c H locs cells slots Q (F0 m 501 ls []) := by
  have hx := hC.1
  have hb := hC.2.1
  obtain ⟨r, Mc2, Mm2, h1, h2, hI⟩ := hsim (xs (x3 + 1).toNatClampNeg)
  refine lv_aload_n hx hb dL_law_501 rfl (lv_at hl 1 rfl) ?_
  refine lv_aload_n hx hb dL_law_502 rfl (lv_at hl 0 rfl) ?_
  refine lv_iload_n hx hb dL_law_503 rfl (lv_at hl 3 rfl) ?_
  refine lv_iconst (v := (1 : Int32)) hx hb dL_law_504 (by decide) ?_
  refine lv_iadd hx hb dL_law_505 ?_
  refine va_sld hx hb hX hbl (Nat.not_le.mpr hbl) hw.2.2 (lw_in 1 hx3 hn hL (by decide)) dL_law_506 ?_
  refine lw_ci (As := [.int (xs (x3 + 1).toNatClampNeg)]) (rest := []) hC hK hJc hdis hw (mX6_when l hJc h1) kg_RL_69 kd_X6_when ⟨Nat.le_of_ble_eq_true rfl, Nat.le_of_ble_eq_true rfl⟩ rfl hl.1 rfl (Nat.le_of_ble_eq_true rfl) hcs dL_law_507 (fun H locs hw => ?_)
  refine lv_aload_n hx hb dL_law_510 rfl (lv_at hl 2 rfl) ?_
  refine lv_aload_n hx hb dL_law_511 rfl (lv_at hl 0 rfl) ?_
  refine lv_iload_n hx hb dL_law_512 rfl (lv_at hl 3 rfl) ?_
  refine lv_iconst (v := (1 : Int32)) hx hb dL_law_513 (by decide) ?_
  refine lv_iadd hx hb dL_law_514 ?_
  refine va_sld hx hb hX hbl (Nat.not_le.mpr hbl) hw.2.2 (lw_in 1 hx3 hn hL (by decide)) dL_law_515 ?_
  refine lw_mi (As := [.int (xs (x3 + 1).toNatClampNeg)]) (rest := [.int r]) hC hK hJm hdis hw (mX7_when l hJm h2) kg_RL_72 kd_X7_when ⟨Nat.le_of_ble_eq_true rfl, Nat.le_of_ble_eq_true rfl⟩ rfl hl.1 rfl (Nat.le_of_ble_eq_true rfl) hcs dL_law_516 (fun H locs hw => ?_)
  refine lv_icmp_eq (tgt := 1031) hx hb dL_law_519 (by decide) (fun _ => ?_) (fun hc => absurd rfl hc)
  exact K Mc2 Mm2 _ _ hI hw
set_option maxRecDepth 100000 in
theorem lc_14 {p : Program} {l : Launch} {e : Env} {s : State} {m : MethodId} {args : Array Value} {below : List Frame} {meth : Method} {c : Code} {gc gm : mmG} {b L : Nat} {xs : Nat → Int32} (hC : CallFix p m c cL_law 4 s args uw RL) (hK : lwK gc gm s) (hJc : mmJ bcK gc) (hJm : mmJ bmK gm) (hdis : lwD gc gm) (hX : va_X b L xs s s.heap) (hbl : b < s.heap.size) (hL : L ≤ 4096) {Inv : Nat → Mem → Mem → Prop} {n cells slots : Nat} (hcs : cells ≤ room_1.cells ∧ slots ≤ room_1.slots) {Mc Mm : Mem} {x3 : Int32} (hx3 : x3 = nI (8 * n)) (hn : 8 * n + 8 ≤ L) (hsim : sim14 Inv n Mc Mm) {H : Heap} {locs : List Loc} {ls : Array Slot} (hw : lwM gc gm Mc Mm s.heap H locs) (hl : lv_has ls 4 [(0, .ref b), (1, .ref (gc.2.2 39 0)), (2, .ref (gm.2.2 0 0)), (3, .int x3)]) {Q : State → Prop} (K : ∀ (Mc2 Mm2 : Mem) (H : Heap) (locs : List Loc), Inv (n + 1) Mc2 Mm2 → lwM gc gm Mc2 Mm2 s.heap H locs → W p l e room_1 s m args below meth c H locs cells slots Q (F0 m 1031 ls [])) : W p l e room_1 s m args below meth c H locs cells slots Q (F0 m 524 ls []) := by
  have hx := hC.1
  have hb := hC.2.1
  obtain ⟨r, Mc2, Mm2, h1, h2, hI⟩ := hsim (xs (x3 + 1).toNatClampNeg)
  refine lv_aload_n hx hb dL_law_524 rfl (lv_at hl 1 rfl) ?_
  refine lv_aload_n hx hb dL_law_525 rfl (lv_at hl 0 rfl) ?_
  refine lv_iload_n hx hb dL_law_526 rfl (lv_at hl 3 rfl) ?_
  refine lv_iconst (v := (1 : Int32)) hx hb dL_law_527 (by decide) ?_
  refine lv_iadd hx hb dL_law_528 ?_
  refine va_sld hx hb hX hbl (Nat.not_le.mpr hbl) hw.2.2 (lw_in 1 hx3 hn hL (by decide)) dL_law_529 ?_
  refine lw_ci (As := [.int (xs (x3 + 1).toNatClampNeg)]) (rest := []) hC hK hJc hdis hw (mX6_bumps l hJc h1) kg_RL_73 kd_X6_bumps ⟨Nat.le_of_ble_eq_true rfl, Nat.le_of_ble_eq_true rfl⟩ rfl hl.1 rfl (Nat.le_of_ble_eq_true rfl) hcs dL_law_530 (fun H locs hw => ?_)
  refine lv_aload_n hx hb dL_law_533 rfl (lv_at hl 2 rfl) ?_
  refine lv_aload_n hx hb dL_law_534 rfl (lv_at hl 0 rfl) ?_
  refine lv_iload_n hx hb dL_law_535 rfl (lv_at hl 3 rfl) ?_
  refine lv_iconst (v := (1 : Int32)) hx hb dL_law_536 (by decide) ?_
  refine lv_iadd hx hb dL_law_537 ?_
  refine va_sld hx hb hX hbl (Nat.not_le.mpr hbl) hw.2.2 (lw_in 1 hx3 hn hL (by decide)) dL_law_538 ?_
  refine lw_mi (As := [.int (xs (x3 + 1).toNatClampNeg)]) (rest := [.int r]) hC hK hJm hdis hw (mX7_bumps l hJm h2) kg_RL_76 kd_X7_bumps ⟨Nat.le_of_ble_eq_true rfl, Nat.le_of_ble_eq_true rfl⟩ rfl hl.1 rfl (Nat.le_of_ble_eq_true rfl) hcs dL_law_539 (fun H locs hw => ?_)
  refine lv_icmp_eq (tgt := 1031) hx hb dL_law_542 (by decide) (fun _ => ?_) (fun hc => absurd rfl hc)
  exact K Mc2 Mm2 _ _ hI hw
set_option maxRecDepth 100000 in
theorem lc_15 {p : Program} {l : Launch} {e : Env} {s : State} {m : MethodId} {args : Array Value} {below : List Frame} {meth : Method} {c : Code} {gc gm : mmG} {b L : Nat} {xs : Nat → Int32} (hC : CallFix p m c cL_law 4 s args uw RL) (hK : lwK gc gm s) (hJc : mmJ bcK gc) (hJm : mmJ bmK gm) (hdis : lwD gc gm) (hX : va_X b L xs s s.heap) (hbl : b < s.heap.size) (hL : L ≤ 4096) {Inv : Nat → Mem → Mem → Prop} {n cells slots : Nat} (hcs : cells ≤ room_1.cells ∧ slots ≤ room_1.slots) {Mc Mm : Mem} {x3 : Int32} (hx3 : x3 = nI (8 * n)) (hn : 8 * n + 8 ≤ L) (hsim : sim15 Inv n Mc Mm) {H : Heap} {locs : List Loc} {ls : Array Slot} (hw : lwM gc gm Mc Mm s.heap H locs) (hl : lv_has ls 4 [(0, .ref b), (1, .ref (gc.2.2 39 0)), (2, .ref (gm.2.2 0 0)), (3, .int x3)]) {Q : State → Prop} (K : ∀ (Mc2 Mm2 : Mem) (H : Heap) (locs : List Loc), Inv (n + 1) Mc2 Mm2 → lwM gc gm Mc2 Mm2 s.heap H locs → W p l e room_1 s m args below meth c H locs cells slots Q (F0 m 1031 ls [])) : W p l e room_1 s m args below meth c H locs cells slots Q (F0 m 547 ls []) := by
  have hx := hC.1
  have hb := hC.2.1
  obtain ⟨r, Mc2, Mm2, h1, h2, hI⟩ := hsim (xs (x3 + 1).toNatClampNeg)
  refine lv_aload_n hx hb dL_law_547 rfl (lv_at hl 1 rfl) ?_
  refine lv_aload_n hx hb dL_law_548 rfl (lv_at hl 0 rfl) ?_
  refine lv_iload_n hx hb dL_law_549 rfl (lv_at hl 3 rfl) ?_
  refine lv_iconst (v := (1 : Int32)) hx hb dL_law_550 (by decide) ?_
  refine lv_iadd hx hb dL_law_551 ?_
  refine va_sld hx hb hX hbl (Nat.not_le.mpr hbl) hw.2.2 (lw_in 1 hx3 hn hL (by decide)) dL_law_552 ?_
  refine lw_ci (As := [.int (xs (x3 + 1).toNatClampNeg)]) (rest := []) hC hK hJc hdis hw (mX6_cluster l hJc h1) kg_RL_77 kd_X6_cluster ⟨Nat.le_of_ble_eq_true rfl, Nat.le_of_ble_eq_true rfl⟩ rfl hl.1 rfl (Nat.le_of_ble_eq_true rfl) hcs dL_law_553 (fun H locs hw => ?_)
  refine lv_aload_n hx hb dL_law_556 rfl (lv_at hl 2 rfl) ?_
  refine lv_aload_n hx hb dL_law_557 rfl (lv_at hl 0 rfl) ?_
  refine lv_iload_n hx hb dL_law_558 rfl (lv_at hl 3 rfl) ?_
  refine lv_iconst (v := (1 : Int32)) hx hb dL_law_559 (by decide) ?_
  refine lv_iadd hx hb dL_law_560 ?_
  refine va_sld hx hb hX hbl (Nat.not_le.mpr hbl) hw.2.2 (lw_in 1 hx3 hn hL (by decide)) dL_law_561 ?_
  refine lw_mi (As := [.int (xs (x3 + 1).toNatClampNeg)]) (rest := [.int r]) hC hK hJm hdis hw (mX7_cluster l hJm h2) kg_RL_80 kd_X7_cluster ⟨Nat.le_of_ble_eq_true rfl, Nat.le_of_ble_eq_true rfl⟩ rfl hl.1 rfl (Nat.le_of_ble_eq_true rfl) hcs dL_law_562 (fun H locs hw => ?_)
  refine lv_icmp_eq (tgt := 1031) hx hb dL_law_565 (by decide) (fun _ => ?_) (fun hc => absurd rfl hc)
  exact K Mc2 Mm2 _ _ hI hw
set_option maxRecDepth 100000 in
theorem lc_16 {p : Program} {l : Launch} {e : Env} {s : State} {m : MethodId} {args : Array Value} {below : List Frame} {meth : Method} {c : Code} {gc gm : mmG} {b L : Nat} {xs : Nat → Int32} (hC : CallFix p m c cL_law 4 s args uw RL) (hK : lwK gc gm s) (hJc : mmJ bcK gc) (hJm : mmJ bmK gm) (hdis : lwD gc gm) (hX : va_X b L xs s s.heap) (hbl : b < s.heap.size) (hL : L ≤ 4096) {Inv : Nat → Mem → Mem → Prop} {n cells slots : Nat} (hcs : cells ≤ room_1.cells ∧ slots ≤ room_1.slots) {Mc Mm : Mem} {x3 : Int32} (hx3 : x3 = nI (8 * n)) (hn : 8 * n + 8 ≤ L) (hsim : sim16 Inv n Mc Mm) {H : Heap} {locs : List Loc} {ls : Array Slot} (hw : lwM gc gm Mc Mm s.heap H locs) (hl : lv_has ls 4 [(0, .ref b), (1, .ref (gc.2.2 39 0)), (2, .ref (gm.2.2 0 0)), (3, .int x3)]) {Q : State → Prop} (K : ∀ (Mc2 Mm2 : Mem) (H : Heap) (locs : List Loc), Inv (n + 1) Mc2 Mm2 → lwM gc gm Mc2 Mm2 s.heap H locs → W p l e room_1 s m args below meth c H locs cells slots Q (F0 m 1031 ls [])) : W p l e room_1 s m args below meth c H locs cells slots Q (F0 m 570 ls []) := by
  have hx := hC.1
  have hb := hC.2.1
  obtain ⟨r, Mc2, Mm2, h1, h2, hI⟩ := hsim (xs (x3 + 1).toNatClampNeg)
  refine lv_aload_n hx hb dL_law_570 rfl (lv_at hl 1 rfl) ?_
  refine lv_aload_n hx hb dL_law_571 rfl (lv_at hl 0 rfl) ?_
  refine lv_iload_n hx hb dL_law_572 rfl (lv_at hl 3 rfl) ?_
  refine lv_iconst (v := (1 : Int32)) hx hb dL_law_573 (by decide) ?_
  refine lv_iadd hx hb dL_law_574 ?_
  refine va_sld hx hb hX hbl (Nat.not_le.mpr hbl) hw.2.2 (lw_in 1 hx3 hn hL (by decide)) dL_law_575 ?_
  refine lw_ci (As := [.int (xs (x3 + 1).toNatClampNeg)]) (rest := []) hC hK hJc hdis hw (mX6_stand l hJc h1) kg_RL_81 kd_X6_stand ⟨Nat.le_of_ble_eq_true rfl, Nat.le_of_ble_eq_true rfl⟩ rfl hl.1 rfl (Nat.le_of_ble_eq_true rfl) hcs dL_law_576 (fun H locs hw => ?_)
  refine lv_aload_n hx hb dL_law_579 rfl (lv_at hl 2 rfl) ?_
  refine lv_aload_n hx hb dL_law_580 rfl (lv_at hl 0 rfl) ?_
  refine lv_iload_n hx hb dL_law_581 rfl (lv_at hl 3 rfl) ?_
  refine lv_iconst (v := (1 : Int32)) hx hb dL_law_582 (by decide) ?_
  refine lv_iadd hx hb dL_law_583 ?_
  refine va_sld hx hb hX hbl (Nat.not_le.mpr hbl) hw.2.2 (lw_in 1 hx3 hn hL (by decide)) dL_law_584 ?_
  refine lw_mi (As := [.int (xs (x3 + 1).toNatClampNeg)]) (rest := [.int r]) hC hK hJm hdis hw (mX7_stand l hJm h2) kg_RL_84 kd_X7_stand ⟨Nat.le_of_ble_eq_true rfl, Nat.le_of_ble_eq_true rfl⟩ rfl hl.1 rfl (Nat.le_of_ble_eq_true rfl) hcs dL_law_585 (fun H locs hw => ?_)
  refine lv_icmp_eq (tgt := 1031) hx hb dL_law_588 (by decide) (fun _ => ?_) (fun hc => absurd rfl hc)
  exact K Mc2 Mm2 _ _ hI hw
set_option maxRecDepth 100000 in
theorem lc_17 {p : Program} {l : Launch} {e : Env} {s : State} {m : MethodId} {args : Array Value} {below : List Frame} {meth : Method} {c : Code} {gc gm : mmG} {b L : Nat} {xs : Nat → Int32} (hC : CallFix p m c cL_law 4 s args uw RL) (hK : lwK gc gm s) (hJc : mmJ bcK gc) (hJm : mmJ bmK gm) (hdis : lwD gc gm) (hX : va_X b L xs s s.heap) (hbl : b < s.heap.size) (hL : L ≤ 4096) {Inv : Nat → Mem → Mem → Prop} {n cells slots : Nat} (hcs : cells ≤ room_1.cells ∧ slots ≤ room_1.slots) {Mc Mm : Mem} {x3 : Int32} (hx3 : x3 = nI (8 * n)) (hn : 8 * n + 8 ≤ L) (hsim : sim17 Inv n Mc Mm) {H : Heap} {locs : List Loc} {ls : Array Slot} (hw : lwM gc gm Mc Mm s.heap H locs) (hl : lv_has ls 4 [(0, .ref b), (1, .ref (gc.2.2 39 0)), (2, .ref (gm.2.2 0 0)), (3, .int x3)]) {Q : State → Prop} (K : ∀ (Mc2 Mm2 : Mem) (H : Heap) (locs : List Loc), Inv (n + 1) Mc2 Mm2 → lwM gc gm Mc2 Mm2 s.heap H locs → W p l e room_1 s m args below meth c H locs cells slots Q (F0 m 1031 ls [])) : W p l e room_1 s m args below meth c H locs cells slots Q (F0 m 593 ls []) := by
  have hx := hC.1
  have hb := hC.2.1
  obtain ⟨r, Mc2, Mm2, h1, h2, hI⟩ := hsim (xs (x3 + 1).toNatClampNeg) (xs (x3 + 2).toNatClampNeg) (xs (x3 + 3).toNatClampNeg) (xs (x3 + 4).toNatClampNeg)
  refine lv_aload_n hx hb dL_law_593 rfl (lv_at hl 1 rfl) ?_
  refine lv_aload_n hx hb dL_law_594 rfl (lv_at hl 0 rfl) ?_
  refine lv_iload_n hx hb dL_law_595 rfl (lv_at hl 3 rfl) ?_
  refine lv_iconst (v := (1 : Int32)) hx hb dL_law_596 (by decide) ?_
  refine lv_iadd hx hb dL_law_597 ?_
  refine va_sld hx hb hX hbl (Nat.not_le.mpr hbl) hw.2.2 (lw_in 1 hx3 hn hL (by decide)) dL_law_598 ?_
  refine lv_aload_n hx hb dL_law_599 rfl (lv_at hl 0 rfl) ?_
  refine lv_iload_n hx hb dL_law_600 rfl (lv_at hl 3 rfl) ?_
  refine lv_iconst (v := (2 : Int32)) hx hb dL_law_601 (by decide) ?_
  refine lv_iadd hx hb dL_law_602 ?_
  refine va_sld hx hb hX hbl (Nat.not_le.mpr hbl) hw.2.2 (lw_in 2 hx3 hn hL (by decide)) dL_law_603 ?_
  refine lv_aload_n hx hb dL_law_604 rfl (lv_at hl 0 rfl) ?_
  refine lv_iload_n hx hb dL_law_605 rfl (lv_at hl 3 rfl) ?_
  refine lv_iconst (v := (3 : Int32)) hx hb dL_law_606 (by decide) ?_
  refine lv_iadd hx hb dL_law_607 ?_
  refine va_sld hx hb hX hbl (Nat.not_le.mpr hbl) hw.2.2 (lw_in 3 hx3 hn hL (by decide)) dL_law_608 ?_
  refine lv_aload_n hx hb dL_law_609 rfl (lv_at hl 0 rfl) ?_
  refine lv_iload_n hx hb dL_law_610 rfl (lv_at hl 3 rfl) ?_
  refine lv_iconst (v := (4 : Int32)) hx hb dL_law_611 (by decide) ?_
  refine lv_iadd hx hb dL_law_612 ?_
  refine va_sld hx hb hX hbl (Nat.not_le.mpr hbl) hw.2.2 (lw_in 4 hx3 hn hL (by decide)) dL_law_613 ?_
  refine lw_ci (As := [.int (xs (x3 + 1).toNatClampNeg), .int (xs (x3 + 2).toNatClampNeg), .int (xs (x3 + 3).toNatClampNeg), .int (xs (x3 + 4).toNatClampNeg)]) (rest := []) hC hK hJc hdis hw (mX6_steer l hJc h1) kg_RL_85 kd_X6_steer ⟨Nat.le_of_ble_eq_true rfl, Nat.le_of_ble_eq_true rfl⟩ rfl hl.1 rfl (Nat.le_of_ble_eq_true rfl) hcs dL_law_614 (fun H locs hw => ?_)
  refine lv_aload_n hx hb dL_law_617 rfl (lv_at hl 2 rfl) ?_
  refine lv_aload_n hx hb dL_law_618 rfl (lv_at hl 0 rfl) ?_
  refine lv_iload_n hx hb dL_law_619 rfl (lv_at hl 3 rfl) ?_
  refine lv_iconst (v := (1 : Int32)) hx hb dL_law_620 (by decide) ?_
  refine lv_iadd hx hb dL_law_621 ?_
  refine va_sld hx hb hX hbl (Nat.not_le.mpr hbl) hw.2.2 (lw_in 1 hx3 hn hL (by decide)) dL_law_622 ?_
  refine lv_aload_n hx hb dL_law_623 rfl (lv_at hl 0 rfl) ?_
  refine lv_iload_n hx hb dL_law_624 rfl (lv_at hl 3 rfl) ?_
  refine lv_iconst (v := (2 : Int32)) hx hb dL_law_625 (by decide) ?_
  refine lv_iadd hx hb dL_law_626 ?_
  refine va_sld hx hb hX hbl (Nat.not_le.mpr hbl) hw.2.2 (lw_in 2 hx3 hn hL (by decide)) dL_law_627 ?_
  refine lv_aload_n hx hb dL_law_628 rfl (lv_at hl 0 rfl) ?_
  refine lv_iload_n hx hb dL_law_629 rfl (lv_at hl 3 rfl) ?_
  refine lv_iconst (v := (3 : Int32)) hx hb dL_law_630 (by decide) ?_
  refine lv_iadd hx hb dL_law_631 ?_
  refine va_sld hx hb hX hbl (Nat.not_le.mpr hbl) hw.2.2 (lw_in 3 hx3 hn hL (by decide)) dL_law_632 ?_
  refine lv_aload_n hx hb dL_law_633 rfl (lv_at hl 0 rfl) ?_
  refine lv_iload_n hx hb dL_law_634 rfl (lv_at hl 3 rfl) ?_
  refine lv_iconst (v := (4 : Int32)) hx hb dL_law_635 (by decide) ?_
  refine lv_iadd hx hb dL_law_636 ?_
  refine va_sld hx hb hX hbl (Nat.not_le.mpr hbl) hw.2.2 (lw_in 4 hx3 hn hL (by decide)) dL_law_637 ?_
  refine lw_mi (As := [.int (xs (x3 + 1).toNatClampNeg), .int (xs (x3 + 2).toNatClampNeg), .int (xs (x3 + 3).toNatClampNeg), .int (xs (x3 + 4).toNatClampNeg)]) (rest := [.int r]) hC hK hJm hdis hw (mX7_steer l hJm h2) kg_RL_89 kd_X7_steer ⟨Nat.le_of_ble_eq_true rfl, Nat.le_of_ble_eq_true rfl⟩ rfl hl.1 rfl (Nat.le_of_ble_eq_true rfl) hcs dL_law_638 (fun H locs hw => ?_)
  refine lv_icmp_eq (tgt := 1031) hx hb dL_law_641 (by decide) (fun _ => ?_) (fun hc => absurd rfl hc)
  exact K Mc2 Mm2 _ _ hI hw
set_option maxRecDepth 100000 in
theorem lc_18 {p : Program} {l : Launch} {e : Env} {s : State} {m : MethodId} {args : Array Value} {below : List Frame} {meth : Method} {c : Code} {gc gm : mmG} {b L : Nat} {xs : Nat → Int32} (hC : CallFix p m c cL_law 4 s args uw RL) (hK : lwK gc gm s) (hJc : mmJ bcK gc) (hJm : mmJ bmK gm) (hdis : lwD gc gm) (hX : va_X b L xs s s.heap) (hbl : b < s.heap.size) (hL : L ≤ 4096) {Inv : Nat → Mem → Mem → Prop} {n cells slots : Nat} (hcs : cells ≤ room_1.cells ∧ slots ≤ room_1.slots) {Mc Mm : Mem} {x3 : Int32} (hx3 : x3 = nI (8 * n)) (hn : 8 * n + 8 ≤ L) (hsim : sim18 Inv n Mc Mm) {H : Heap} {locs : List Loc} {ls : Array Slot} (hw : lwM gc gm Mc Mm s.heap H locs) (hl : lv_has ls 4 [(0, .ref b), (1, .ref (gc.2.2 39 0)), (2, .ref (gm.2.2 0 0)), (3, .int x3)]) {Q : State → Prop} (K : ∀ (Mc2 Mm2 : Mem) (H : Heap) (locs : List Loc), Inv (n + 1) Mc2 Mm2 → lwM gc gm Mc2 Mm2 s.heap H locs → W p l e room_1 s m args below meth c H locs cells slots Q (F0 m 1031 ls [])) : W p l e room_1 s m args below meth c H locs cells slots Q (F0 m 646 ls []) := by
  have hx := hC.1
  have hb := hC.2.1
  obtain ⟨r, Mc2, Mm2, h1, h2, hI⟩ := hsim (xs (x3 + 1).toNatClampNeg) (xs (x3 + 2).toNatClampNeg) (xs (x3 + 3).toNatClampNeg) (xs (x3 + 4).toNatClampNeg) (xs (x3 + 5).toNatClampNeg) (xs (x3 + 6).toNatClampNeg) (xs (x3 + 7).toNatClampNeg)
  refine lv_aload_n hx hb dL_law_646 rfl (lv_at hl 1 rfl) ?_
  refine lv_aload_n hx hb dL_law_647 rfl (lv_at hl 0 rfl) ?_
  refine lv_iload_n hx hb dL_law_648 rfl (lv_at hl 3 rfl) ?_
  refine lv_iconst (v := (1 : Int32)) hx hb dL_law_649 (by decide) ?_
  refine lv_iadd hx hb dL_law_650 ?_
  refine va_sld hx hb hX hbl (Nat.not_le.mpr hbl) hw.2.2 (lw_in 1 hx3 hn hL (by decide)) dL_law_651 ?_
  refine lv_aload_n hx hb dL_law_652 rfl (lv_at hl 0 rfl) ?_
  refine lv_iload_n hx hb dL_law_653 rfl (lv_at hl 3 rfl) ?_
  refine lv_iconst (v := (2 : Int32)) hx hb dL_law_654 (by decide) ?_
  refine lv_iadd hx hb dL_law_655 ?_
  refine va_sld hx hb hX hbl (Nat.not_le.mpr hbl) hw.2.2 (lw_in 2 hx3 hn hL (by decide)) dL_law_656 ?_
  refine lv_aload_n hx hb dL_law_657 rfl (lv_at hl 0 rfl) ?_
  refine lv_iload_n hx hb dL_law_658 rfl (lv_at hl 3 rfl) ?_
  refine lv_iconst (v := (3 : Int32)) hx hb dL_law_659 (by decide) ?_
  refine lv_iadd hx hb dL_law_660 ?_
  refine va_sld hx hb hX hbl (Nat.not_le.mpr hbl) hw.2.2 (lw_in 3 hx3 hn hL (by decide)) dL_law_661 ?_
  refine lv_aload_n hx hb dL_law_662 rfl (lv_at hl 0 rfl) ?_
  refine lv_iload_n hx hb dL_law_663 rfl (lv_at hl 3 rfl) ?_
  refine lv_iconst (v := (4 : Int32)) hx hb dL_law_664 (by decide) ?_
  refine lv_iadd hx hb dL_law_665 ?_
  refine va_sld hx hb hX hbl (Nat.not_le.mpr hbl) hw.2.2 (lw_in 4 hx3 hn hL (by decide)) dL_law_666 ?_
  refine lv_aload_n hx hb dL_law_667 rfl (lv_at hl 0 rfl) ?_
  refine lv_iload_n hx hb dL_law_668 rfl (lv_at hl 3 rfl) ?_
  refine lv_iconst (v := (5 : Int32)) hx hb dL_law_669 (by decide) ?_
  refine lv_iadd hx hb dL_law_670 ?_
  refine va_sld hx hb hX hbl (Nat.not_le.mpr hbl) hw.2.2 (lw_in 5 hx3 hn hL (by decide)) dL_law_671 ?_
  refine lv_aload_n hx hb dL_law_672 rfl (lv_at hl 0 rfl) ?_
  refine lv_iload_n hx hb dL_law_673 rfl (lv_at hl 3 rfl) ?_
  refine lv_bipush (v := (6 : Int32)) hx hb dL_law_674 (by decide) ?_
  refine lv_iadd hx hb dL_law_676 ?_
  refine va_sld hx hb hX hbl (Nat.not_le.mpr hbl) hw.2.2 (lw_in 6 hx3 hn hL (by decide)) dL_law_677 ?_
  refine lv_aload_n hx hb dL_law_678 rfl (lv_at hl 0 rfl) ?_
  refine lv_iload_n hx hb dL_law_679 rfl (lv_at hl 3 rfl) ?_
  refine lv_bipush (v := (7 : Int32)) hx hb dL_law_680 (by decide) ?_
  refine lv_iadd hx hb dL_law_682 ?_
  refine va_sld hx hb hX hbl (Nat.not_le.mpr hbl) hw.2.2 (lw_in 7 hx3 hn hL (by decide)) dL_law_683 ?_
  refine lw_ci (As := [.int (xs (x3 + 1).toNatClampNeg), .int (xs (x3 + 2).toNatClampNeg), .int (xs (x3 + 3).toNatClampNeg), .int (xs (x3 + 4).toNatClampNeg), .int (xs (x3 + 5).toNatClampNeg), .int (xs (x3 + 6).toNatClampNeg), .int (xs (x3 + 7).toNatClampNeg)]) (rest := []) hC hK hJc hdis hw (mX6_note l hJc h1) kg_RL_90 kd_X6_note ⟨Nat.le_of_ble_eq_true rfl, Nat.le_of_ble_eq_true rfl⟩ rfl hl.1 rfl (Nat.le_of_ble_eq_true rfl) hcs dL_law_684 (fun H locs hw => ?_)
  refine lv_aload_n hx hb dL_law_687 rfl (lv_at hl 2 rfl) ?_
  refine lv_aload_n hx hb dL_law_688 rfl (lv_at hl 0 rfl) ?_
  refine lv_iload_n hx hb dL_law_689 rfl (lv_at hl 3 rfl) ?_
  refine lv_iconst (v := (1 : Int32)) hx hb dL_law_690 (by decide) ?_
  refine lv_iadd hx hb dL_law_691 ?_
  refine va_sld hx hb hX hbl (Nat.not_le.mpr hbl) hw.2.2 (lw_in 1 hx3 hn hL (by decide)) dL_law_692 ?_
  refine lv_aload_n hx hb dL_law_693 rfl (lv_at hl 0 rfl) ?_
  refine lv_iload_n hx hb dL_law_694 rfl (lv_at hl 3 rfl) ?_
  refine lv_iconst (v := (2 : Int32)) hx hb dL_law_695 (by decide) ?_
  refine lv_iadd hx hb dL_law_696 ?_
  refine va_sld hx hb hX hbl (Nat.not_le.mpr hbl) hw.2.2 (lw_in 2 hx3 hn hL (by decide)) dL_law_697 ?_
  refine lv_aload_n hx hb dL_law_698 rfl (lv_at hl 0 rfl) ?_
  refine lv_iload_n hx hb dL_law_699 rfl (lv_at hl 3 rfl) ?_
  refine lv_iconst (v := (3 : Int32)) hx hb dL_law_700 (by decide) ?_
  refine lv_iadd hx hb dL_law_701 ?_
  refine va_sld hx hb hX hbl (Nat.not_le.mpr hbl) hw.2.2 (lw_in 3 hx3 hn hL (by decide)) dL_law_702 ?_
  refine lv_aload_n hx hb dL_law_703 rfl (lv_at hl 0 rfl) ?_
  refine lv_iload_n hx hb dL_law_704 rfl (lv_at hl 3 rfl) ?_
  refine lv_iconst (v := (4 : Int32)) hx hb dL_law_705 (by decide) ?_
  refine lv_iadd hx hb dL_law_706 ?_
  refine va_sld hx hb hX hbl (Nat.not_le.mpr hbl) hw.2.2 (lw_in 4 hx3 hn hL (by decide)) dL_law_707 ?_
  refine lv_aload_n hx hb dL_law_708 rfl (lv_at hl 0 rfl) ?_
  refine lv_iload_n hx hb dL_law_709 rfl (lv_at hl 3 rfl) ?_
  refine lv_iconst (v := (5 : Int32)) hx hb dL_law_710 (by decide) ?_
  refine lv_iadd hx hb dL_law_711 ?_
  refine va_sld hx hb hX hbl (Nat.not_le.mpr hbl) hw.2.2 (lw_in 5 hx3 hn hL (by decide)) dL_law_712 ?_
  refine lv_aload_n hx hb dL_law_713 rfl (lv_at hl 0 rfl) ?_
  refine lv_iload_n hx hb dL_law_714 rfl (lv_at hl 3 rfl) ?_
  refine lv_bipush (v := (6 : Int32)) hx hb dL_law_715 (by decide) ?_
  refine lv_iadd hx hb dL_law_717 ?_
  refine va_sld hx hb hX hbl (Nat.not_le.mpr hbl) hw.2.2 (lw_in 6 hx3 hn hL (by decide)) dL_law_718 ?_
  refine lv_aload_n hx hb dL_law_719 rfl (lv_at hl 0 rfl) ?_
  refine lv_iload_n hx hb dL_law_720 rfl (lv_at hl 3 rfl) ?_
  refine lv_bipush (v := (7 : Int32)) hx hb dL_law_721 (by decide) ?_
  refine lv_iadd hx hb dL_law_723 ?_
  refine va_sld hx hb hX hbl (Nat.not_le.mpr hbl) hw.2.2 (lw_in 7 hx3 hn hL (by decide)) dL_law_724 ?_
  refine lw_mi (As := [.int (xs (x3 + 1).toNatClampNeg), .int (xs (x3 + 2).toNatClampNeg), .int (xs (x3 + 3).toNatClampNeg), .int (xs (x3 + 4).toNatClampNeg), .int (xs (x3 + 5).toNatClampNeg), .int (xs (x3 + 6).toNatClampNeg), .int (xs (x3 + 7).toNatClampNeg)]) (rest := [.int r]) hC hK hJm hdis hw (mX7_note l hJm h2) kg_RL_94 kd_X7_note ⟨Nat.le_of_ble_eq_true rfl, Nat.le_of_ble_eq_true rfl⟩ rfl hl.1 rfl (Nat.le_of_ble_eq_true rfl) hcs dL_law_725 (fun H locs hw => ?_)
  refine lv_icmp_eq (tgt := 1031) hx hb dL_law_728 (by decide) (fun _ => ?_) (fun hc => absurd rfl hc)
  exact K Mc2 Mm2 _ _ hI hw
set_option maxRecDepth 100000 in
theorem lc_19 {p : Program} {l : Launch} {e : Env} {s : State} {m : MethodId} {args : Array Value} {below : List Frame} {meth : Method} {c : Code} {gc gm : mmG} {b L : Nat} {xs : Nat → Int32} (hC : CallFix p m c cL_law 4 s args uw RL) (hK : lwK gc gm s) (hJc : mmJ bcK gc) (hJm : mmJ bmK gm) (hdis : lwD gc gm) (hX : va_X b L xs s s.heap) (hbl : b < s.heap.size) (hL : L ≤ 4096) {Inv : Nat → Mem → Mem → Prop} {n cells slots : Nat} (hcs : cells ≤ room_1.cells ∧ slots ≤ room_1.slots) {Mc Mm : Mem} {x3 : Int32} (hx3 : x3 = nI (8 * n)) (hn : 8 * n + 8 ≤ L) (hsim : sim19 Inv n Mc Mm) {H : Heap} {locs : List Loc} {ls : Array Slot} (hw : lwM gc gm Mc Mm s.heap H locs) (hl : lv_has ls 4 [(0, .ref b), (1, .ref (gc.2.2 39 0)), (2, .ref (gm.2.2 0 0)), (3, .int x3)]) {Q : State → Prop} (K : ∀ (Mc2 Mm2 : Mem) (H : Heap) (locs : List Loc), Inv (n + 1) Mc2 Mm2 → lwM gc gm Mc2 Mm2 s.heap H locs → W p l e room_1 s m args below meth c H locs cells slots Q (F0 m 1031 ls [])) : W p l e room_1 s m args below meth c H locs cells slots Q (F0 m 733 ls []) := by
  have hx := hC.1
  have hb := hC.2.1
  obtain ⟨r, Mc2, Mm2, h1, h2, hI⟩ := hsim
  refine lv_aload_n hx hb dL_law_733 rfl (lv_at hl 1 rfl) ?_
  refine lw_ci (As := []) (rest := []) hC hK hJc hdis hw (mX6_forget l hJc h1) kg_RL_95 kd_X6_forget ⟨Nat.le_of_ble_eq_true rfl, Nat.le_of_ble_eq_true rfl⟩ rfl hl.1 rfl (Nat.le_of_ble_eq_true rfl) hcs dL_law_734 (fun H locs hw => ?_)
  refine lv_aload_n hx hb dL_law_737 rfl (lv_at hl 2 rfl) ?_
  refine lw_mi (As := []) (rest := [.int r]) hC hK hJm hdis hw (mX7_forget l hJm h2) kg_RL_98 kd_X7_forget ⟨Nat.le_of_ble_eq_true rfl, Nat.le_of_ble_eq_true rfl⟩ rfl hl.1 rfl (Nat.le_of_ble_eq_true rfl) hcs dL_law_738 (fun H locs hw => ?_)
  refine lv_icmp_eq (tgt := 1031) hx hb dL_law_741 (by decide) (fun _ => ?_) (fun hc => absurd rfl hc)
  exact K Mc2 Mm2 _ _ hI hw
set_option maxRecDepth 100000 in
theorem lc_20 {p : Program} {l : Launch} {e : Env} {s : State} {m : MethodId} {args : Array Value} {below : List Frame} {meth : Method} {c : Code} {gc gm : mmG} {b L : Nat} {xs : Nat → Int32} (hC : CallFix p m c cL_law 4 s args uw RL) (hK : lwK gc gm s) (hJc : mmJ bcK gc) (hJm : mmJ bmK gm) (hdis : lwD gc gm) (hX : va_X b L xs s s.heap) (hbl : b < s.heap.size) (hL : L ≤ 4096) {Inv : Nat → Mem → Mem → Prop} {n cells slots : Nat} (hcs : cells ≤ room_1.cells ∧ slots ≤ room_1.slots) {Mc Mm : Mem} {x3 : Int32} (hx3 : x3 = nI (8 * n)) (hn : 8 * n + 8 ≤ L) (hsim : sim20 Inv n Mc Mm) {H : Heap} {locs : List Loc} {ls : Array Slot} (hw : lwM gc gm Mc Mm s.heap H locs) (hl : lv_has ls 4 [(0, .ref b), (1, .ref (gc.2.2 39 0)), (2, .ref (gm.2.2 0 0)), (3, .int x3)]) {Q : State → Prop} (K : ∀ (Mc2 Mm2 : Mem) (H : Heap) (locs : List Loc), Inv (n + 1) Mc2 Mm2 → lwM gc gm Mc2 Mm2 s.heap H locs → W p l e room_1 s m args below meth c H locs cells slots Q (F0 m 1031 ls [])) : W p l e room_1 s m args below meth c H locs cells slots Q (F0 m 746 ls []) := by
  have hx := hC.1
  have hb := hC.2.1
  obtain ⟨r, Mc2, Mm2, h1, h2, hI⟩ := hsim (xs (x3 + 1).toNatClampNeg)
  refine lv_aload_n hx hb dL_law_746 rfl (lv_at hl 1 rfl) ?_
  refine lv_aload_n hx hb dL_law_747 rfl (lv_at hl 0 rfl) ?_
  refine lv_iload_n hx hb dL_law_748 rfl (lv_at hl 3 rfl) ?_
  refine lv_iconst (v := (1 : Int32)) hx hb dL_law_749 (by decide) ?_
  refine lv_iadd hx hb dL_law_750 ?_
  refine va_sld hx hb hX hbl (Nat.not_le.mpr hbl) hw.2.2 (lw_in 1 hx3 hn hL (by decide)) dL_law_751 ?_
  refine lw_ci (As := [.int (xs (x3 + 1).toNatClampNeg)]) (rest := []) hC hK hJc hdis hw (mX6_is l hJc h1) kg_RL_99 kd_X6_is ⟨Nat.le_of_ble_eq_true rfl, Nat.le_of_ble_eq_true rfl⟩ rfl hl.1 rfl (Nat.le_of_ble_eq_true rfl) hcs dL_law_752 (fun H locs hw => ?_)
  refine lv_aload_n hx hb dL_law_755 rfl (lv_at hl 2 rfl) ?_
  refine lv_aload_n hx hb dL_law_756 rfl (lv_at hl 0 rfl) ?_
  refine lv_iload_n hx hb dL_law_757 rfl (lv_at hl 3 rfl) ?_
  refine lv_iconst (v := (1 : Int32)) hx hb dL_law_758 (by decide) ?_
  refine lv_iadd hx hb dL_law_759 ?_
  refine va_sld hx hb hX hbl (Nat.not_le.mpr hbl) hw.2.2 (lw_in 1 hx3 hn hL (by decide)) dL_law_760 ?_
  refine lw_mi (As := [.int (xs (x3 + 1).toNatClampNeg)]) (rest := [.int r]) hC hK hJm hdis hw (mX7_is l hJm h2) kg_RL_102 kd_X7_is ⟨Nat.le_of_ble_eq_true rfl, Nat.le_of_ble_eq_true rfl⟩ rfl hl.1 rfl (Nat.le_of_ble_eq_true rfl) hcs dL_law_761 (fun H locs hw => ?_)
  refine lv_icmp_eq (tgt := 1031) hx hb dL_law_764 (by decide) (fun _ => ?_) (fun hc => absurd rfl hc)
  exact K Mc2 Mm2 _ _ hI hw
set_option maxRecDepth 100000 in
theorem lc_21 {p : Program} {l : Launch} {e : Env} {s : State} {m : MethodId} {args : Array Value} {below : List Frame} {meth : Method} {c : Code} {gc gm : mmG} {b L : Nat} {xs : Nat → Int32} (hC : CallFix p m c cL_law 4 s args uw RL) (hK : lwK gc gm s) (hJc : mmJ bcK gc) (hJm : mmJ bmK gm) (hdis : lwD gc gm) (hX : va_X b L xs s s.heap) (hbl : b < s.heap.size) (hL : L ≤ 4096) {Inv : Nat → Mem → Mem → Prop} {n cells slots : Nat} (hcs : cells ≤ room_1.cells ∧ slots ≤ room_1.slots) {Mc Mm : Mem} {x3 : Int32} (hx3 : x3 = nI (8 * n)) (hn : 8 * n + 8 ≤ L) (hsim : sim21 Inv n Mc Mm) {H : Heap} {locs : List Loc} {ls : Array Slot} (hw : lwM gc gm Mc Mm s.heap H locs) (hl : lv_has ls 4 [(0, .ref b), (1, .ref (gc.2.2 39 0)), (2, .ref (gm.2.2 0 0)), (3, .int x3)]) {Q : State → Prop} (K : ∀ (Mc2 Mm2 : Mem) (H : Heap) (locs : List Loc), Inv (n + 1) Mc2 Mm2 → lwM gc gm Mc2 Mm2 s.heap H locs → W p l e room_1 s m args below meth c H locs cells slots Q (F0 m 1031 ls [])) : W p l e room_1 s m args below meth c H locs cells slots Q (F0 m 769 ls []) := by
  have hx := hC.1
  have hb := hC.2.1
  obtain ⟨r, Mc2, Mm2, h1, h2, hI⟩ := hsim (xs (x3 + 1).toNatClampNeg)
  refine lv_aload_n hx hb dL_law_769 rfl (lv_at hl 1 rfl) ?_
  refine lv_aload_n hx hb dL_law_770 rfl (lv_at hl 0 rfl) ?_
  refine lv_iload_n hx hb dL_law_771 rfl (lv_at hl 3 rfl) ?_
  refine lv_iconst (v := (1 : Int32)) hx hb dL_law_772 (by decide) ?_
  refine lv_iadd hx hb dL_law_773 ?_
  refine va_sld hx hb hX hbl (Nat.not_le.mpr hbl) hw.2.2 (lw_in 1 hx3 hn hL (by decide)) dL_law_774 ?_
  refine lw_ci (As := [.int (xs (x3 + 1).toNatClampNeg)]) (rest := []) hC hK hJc hdis hw (mX6_look l hJc h1) kg_RL_103 kd_X6_look ⟨Nat.le_of_ble_eq_true rfl, Nat.le_of_ble_eq_true rfl⟩ rfl hl.1 rfl (Nat.le_of_ble_eq_true rfl) hcs dL_law_775 (fun H locs hw => ?_)
  refine lv_aload_n hx hb dL_law_778 rfl (lv_at hl 2 rfl) ?_
  refine lv_aload_n hx hb dL_law_779 rfl (lv_at hl 0 rfl) ?_
  refine lv_iload_n hx hb dL_law_780 rfl (lv_at hl 3 rfl) ?_
  refine lv_iconst (v := (1 : Int32)) hx hb dL_law_781 (by decide) ?_
  refine lv_iadd hx hb dL_law_782 ?_
  refine va_sld hx hb hX hbl (Nat.not_le.mpr hbl) hw.2.2 (lw_in 1 hx3 hn hL (by decide)) dL_law_783 ?_
  refine lw_mi (As := [.int (xs (x3 + 1).toNatClampNeg)]) (rest := [.int r]) hC hK hJm hdis hw (mX7_look l hJm h2) kg_RL_106 kd_X7_look ⟨Nat.le_of_ble_eq_true rfl, Nat.le_of_ble_eq_true rfl⟩ rfl hl.1 rfl (Nat.le_of_ble_eq_true rfl) hcs dL_law_784 (fun H locs hw => ?_)
  refine lv_icmp_eq (tgt := 1031) hx hb dL_law_787 (by decide) (fun _ => ?_) (fun hc => absurd rfl hc)
  exact K Mc2 Mm2 _ _ hI hw
set_option maxRecDepth 100000 in
theorem lc_22 {p : Program} {l : Launch} {e : Env} {s : State} {m : MethodId} {args : Array Value} {below : List Frame} {meth : Method} {c : Code} {gc gm : mmG} {b L : Nat} {xs : Nat → Int32} (hC : CallFix p m c cL_law 4 s args uw RL) (hK : lwK gc gm s) (hJc : mmJ bcK gc) (hJm : mmJ bmK gm) (hdis : lwD gc gm) (hX : va_X b L xs s s.heap) (hbl : b < s.heap.size) (hL : L ≤ 4096) {Inv : Nat → Mem → Mem → Prop} {n cells slots : Nat} (hcs : cells ≤ room_1.cells ∧ slots ≤ room_1.slots) {Mc Mm : Mem} {x3 : Int32} (hx3 : x3 = nI (8 * n)) (hn : 8 * n + 8 ≤ L) (hsim : sim22 Inv n Mc Mm) {H : Heap} {locs : List Loc} {ls : Array Slot} (hw : lwM gc gm Mc Mm s.heap H locs) (hl : lv_has ls 4 [(0, .ref b), (1, .ref (gc.2.2 39 0)), (2, .ref (gm.2.2 0 0)), (3, .int x3)]) {Q : State → Prop} (K : ∀ (Mc2 Mm2 : Mem) (H : Heap) (locs : List Loc), Inv (n + 1) Mc2 Mm2 → lwM gc gm Mc2 Mm2 s.heap H locs → W p l e room_1 s m args below meth c H locs cells slots Q (F0 m 1031 ls [])) : W p l e room_1 s m args below meth c H locs cells slots Q (F0 m 792 ls []) := by
  have hx := hC.1
  have hb := hC.2.1
  obtain ⟨r, Mc2, Mm2, h1, h2, hI⟩ := hsim (xs (x3 + 1).toNatClampNeg) (xs (x3 + 2).toNatClampNeg) (xs (x3 + 3).toNatClampNeg)
  refine lv_aload_n hx hb dL_law_792 rfl (lv_at hl 1 rfl) ?_
  refine lv_aload_n hx hb dL_law_793 rfl (lv_at hl 0 rfl) ?_
  refine lv_iload_n hx hb dL_law_794 rfl (lv_at hl 3 rfl) ?_
  refine lv_iconst (v := (1 : Int32)) hx hb dL_law_795 (by decide) ?_
  refine lv_iadd hx hb dL_law_796 ?_
  refine va_sld hx hb hX hbl (Nat.not_le.mpr hbl) hw.2.2 (lw_in 1 hx3 hn hL (by decide)) dL_law_797 ?_
  refine lv_aload_n hx hb dL_law_798 rfl (lv_at hl 0 rfl) ?_
  refine lv_iload_n hx hb dL_law_799 rfl (lv_at hl 3 rfl) ?_
  refine lv_iconst (v := (2 : Int32)) hx hb dL_law_800 (by decide) ?_
  refine lv_iadd hx hb dL_law_801 ?_
  refine va_sld hx hb hX hbl (Nat.not_le.mpr hbl) hw.2.2 (lw_in 2 hx3 hn hL (by decide)) dL_law_802 ?_
  refine lv_aload_n hx hb dL_law_803 rfl (lv_at hl 0 rfl) ?_
  refine lv_iload_n hx hb dL_law_804 rfl (lv_at hl 3 rfl) ?_
  refine lv_iconst (v := (3 : Int32)) hx hb dL_law_805 (by decide) ?_
  refine lv_iadd hx hb dL_law_806 ?_
  refine va_sld hx hb hX hbl (Nat.not_le.mpr hbl) hw.2.2 (lw_in 3 hx3 hn hL (by decide)) dL_law_807 ?_
  refine lw_ci (As := [.int (xs (x3 + 1).toNatClampNeg), .int (xs (x3 + 2).toNatClampNeg), .int (xs (x3 + 3).toNatClampNeg)]) (rest := []) hC hK hJc hdis hw (mX6_two l hJc h1) kg_RL_107 kd_X6_two ⟨Nat.le_of_ble_eq_true rfl, Nat.le_of_ble_eq_true rfl⟩ rfl hl.1 rfl (Nat.le_of_ble_eq_true rfl) hcs dL_law_808 (fun H locs hw => ?_)
  refine lv_aload_n hx hb dL_law_811 rfl (lv_at hl 2 rfl) ?_
  refine lv_aload_n hx hb dL_law_812 rfl (lv_at hl 0 rfl) ?_
  refine lv_iload_n hx hb dL_law_813 rfl (lv_at hl 3 rfl) ?_
  refine lv_iconst (v := (1 : Int32)) hx hb dL_law_814 (by decide) ?_
  refine lv_iadd hx hb dL_law_815 ?_
  refine va_sld hx hb hX hbl (Nat.not_le.mpr hbl) hw.2.2 (lw_in 1 hx3 hn hL (by decide)) dL_law_816 ?_
  refine lv_aload_n hx hb dL_law_817 rfl (lv_at hl 0 rfl) ?_
  refine lv_iload_n hx hb dL_law_818 rfl (lv_at hl 3 rfl) ?_
  refine lv_iconst (v := (2 : Int32)) hx hb dL_law_819 (by decide) ?_
  refine lv_iadd hx hb dL_law_820 ?_
  refine va_sld hx hb hX hbl (Nat.not_le.mpr hbl) hw.2.2 (lw_in 2 hx3 hn hL (by decide)) dL_law_821 ?_
  refine lv_aload_n hx hb dL_law_822 rfl (lv_at hl 0 rfl) ?_
  refine lv_iload_n hx hb dL_law_823 rfl (lv_at hl 3 rfl) ?_
  refine lv_iconst (v := (3 : Int32)) hx hb dL_law_824 (by decide) ?_
  refine lv_iadd hx hb dL_law_825 ?_
  refine va_sld hx hb hX hbl (Nat.not_le.mpr hbl) hw.2.2 (lw_in 3 hx3 hn hL (by decide)) dL_law_826 ?_
  refine lw_mi (As := [.int (xs (x3 + 1).toNatClampNeg), .int (xs (x3 + 2).toNatClampNeg), .int (xs (x3 + 3).toNatClampNeg)]) (rest := [.int r]) hC hK hJm hdis hw (mX7_two l hJm h2) kg_RL_110 kd_X7_two ⟨Nat.le_of_ble_eq_true rfl, Nat.le_of_ble_eq_true rfl⟩ rfl hl.1 rfl (Nat.le_of_ble_eq_true rfl) hcs dL_law_827 (fun H locs hw => ?_)
  refine lv_icmp_eq (tgt := 1031) hx hb dL_law_830 (by decide) (fun _ => ?_) (fun hc => absurd rfl hc)
  exact K Mc2 Mm2 _ _ hI hw
set_option maxRecDepth 100000 in
theorem lc_23 {p : Program} {l : Launch} {e : Env} {s : State} {m : MethodId} {args : Array Value} {below : List Frame} {meth : Method} {c : Code} {gc gm : mmG} {b L : Nat} {xs : Nat → Int32} (hC : CallFix p m c cL_law 4 s args uw RL) (hK : lwK gc gm s) (hJc : mmJ bcK gc) (hJm : mmJ bmK gm) (hdis : lwD gc gm) (hX : va_X b L xs s s.heap) (hbl : b < s.heap.size) (hL : L ≤ 4096) {Inv : Nat → Mem → Mem → Prop} {n cells slots : Nat} (hcs : cells ≤ room_1.cells ∧ slots ≤ room_1.slots) {Mc Mm : Mem} {x3 : Int32} (hx3 : x3 = nI (8 * n)) (hn : 8 * n + 8 ≤ L) (hsim : sim23 Inv n Mc Mm) {H : Heap} {locs : List Loc} {ls : Array Slot} (hw : lwM gc gm Mc Mm s.heap H locs) (hl : lv_has ls 4 [(0, .ref b), (1, .ref (gc.2.2 39 0)), (2, .ref (gm.2.2 0 0)), (3, .int x3)]) {Q : State → Prop} (K : ∀ (Mc2 Mm2 : Mem) (H : Heap) (locs : List Loc), Inv (n + 1) Mc2 Mm2 → lwM gc gm Mc2 Mm2 s.heap H locs → W p l e room_1 s m args below meth c H locs cells slots Q (F0 m 1031 ls [])) : W p l e room_1 s m args below meth c H locs cells slots Q (F0 m 835 ls []) := by
  have hx := hC.1
  have hb := hC.2.1
  obtain ⟨r, Mc2, Mm2, h1, h2, hI⟩ := hsim (xs (x3 + 1).toNatClampNeg) (xs (x3 + 2).toNatClampNeg)
  refine lv_aload_n hx hb dL_law_835 rfl (lv_at hl 1 rfl) ?_
  refine lv_aload_n hx hb dL_law_836 rfl (lv_at hl 0 rfl) ?_
  refine lv_iload_n hx hb dL_law_837 rfl (lv_at hl 3 rfl) ?_
  refine lv_iconst (v := (1 : Int32)) hx hb dL_law_838 (by decide) ?_
  refine lv_iadd hx hb dL_law_839 ?_
  refine va_sld hx hb hX hbl (Nat.not_le.mpr hbl) hw.2.2 (lw_in 1 hx3 hn hL (by decide)) dL_law_840 ?_
  refine lv_aload_n hx hb dL_law_841 rfl (lv_at hl 0 rfl) ?_
  refine lv_iload_n hx hb dL_law_842 rfl (lv_at hl 3 rfl) ?_
  refine lv_iconst (v := (2 : Int32)) hx hb dL_law_843 (by decide) ?_
  refine lv_iadd hx hb dL_law_844 ?_
  refine va_sld hx hb hX hbl (Nat.not_le.mpr hbl) hw.2.2 (lw_in 2 hx3 hn hL (by decide)) dL_law_845 ?_
  refine lw_ci (As := [.int (xs (x3 + 1).toNatClampNeg), .int (xs (x3 + 2).toNatClampNeg)]) (rest := []) hC hK hJc hdis hw (mX6_bell l hJc h1) kg_RL_111 kd_X6_bell ⟨Nat.le_of_ble_eq_true rfl, Nat.le_of_ble_eq_true rfl⟩ rfl hl.1 rfl (Nat.le_of_ble_eq_true rfl) hcs dL_law_846 (fun H locs hw => ?_)
  refine lv_aload_n hx hb dL_law_849 rfl (lv_at hl 2 rfl) ?_
  refine lv_aload_n hx hb dL_law_850 rfl (lv_at hl 0 rfl) ?_
  refine lv_iload_n hx hb dL_law_851 rfl (lv_at hl 3 rfl) ?_
  refine lv_iconst (v := (1 : Int32)) hx hb dL_law_852 (by decide) ?_
  refine lv_iadd hx hb dL_law_853 ?_
  refine va_sld hx hb hX hbl (Nat.not_le.mpr hbl) hw.2.2 (lw_in 1 hx3 hn hL (by decide)) dL_law_854 ?_
  refine lv_aload_n hx hb dL_law_855 rfl (lv_at hl 0 rfl) ?_
  refine lv_iload_n hx hb dL_law_856 rfl (lv_at hl 3 rfl) ?_
  refine lv_iconst (v := (2 : Int32)) hx hb dL_law_857 (by decide) ?_
  refine lv_iadd hx hb dL_law_858 ?_
  refine va_sld hx hb hX hbl (Nat.not_le.mpr hbl) hw.2.2 (lw_in 2 hx3 hn hL (by decide)) dL_law_859 ?_
  refine lw_mi (As := [.int (xs (x3 + 1).toNatClampNeg), .int (xs (x3 + 2).toNatClampNeg)]) (rest := [.int r]) hC hK hJm hdis hw (mX7_bell l hJm h2) kg_RL_114 kd_X7_bell ⟨Nat.le_of_ble_eq_true rfl, Nat.le_of_ble_eq_true rfl⟩ rfl hl.1 rfl (Nat.le_of_ble_eq_true rfl) hcs dL_law_860 (fun H locs hw => ?_)
  refine lv_icmp_eq (tgt := 1031) hx hb dL_law_863 (by decide) (fun _ => ?_) (fun hc => absurd rfl hc)
  exact K Mc2 Mm2 _ _ hI hw
set_option maxRecDepth 100000 in
theorem lc_24 {p : Program} {l : Launch} {e : Env} {s : State} {m : MethodId} {args : Array Value} {below : List Frame} {meth : Method} {c : Code} {gc gm : mmG} {b L : Nat} {xs : Nat → Int32} (hC : CallFix p m c cL_law 4 s args uw RL) (hK : lwK gc gm s) (hJc : mmJ bcK gc) (hJm : mmJ bmK gm) (hdis : lwD gc gm) (hX : va_X b L xs s s.heap) (hbl : b < s.heap.size) (hL : L ≤ 4096) {Inv : Nat → Mem → Mem → Prop} {n cells slots : Nat} (hcs : cells ≤ room_1.cells ∧ slots ≤ room_1.slots) {Mc Mm : Mem} {x3 : Int32} (hx3 : x3 = nI (8 * n)) (hn : 8 * n + 8 ≤ L) (hsim : sim24 Inv n Mc Mm) {H : Heap} {locs : List Loc} {ls : Array Slot} (hw : lwM gc gm Mc Mm s.heap H locs) (hl : lv_has ls 4 [(0, .ref b), (1, .ref (gc.2.2 39 0)), (2, .ref (gm.2.2 0 0)), (3, .int x3)]) {Q : State → Prop} (K : ∀ (Mc2 Mm2 : Mem) (H : Heap) (locs : List Loc), Inv (n + 1) Mc2 Mm2 → lwM gc gm Mc2 Mm2 s.heap H locs → W p l e room_1 s m args below meth c H locs cells slots Q (F0 m 1031 ls [])) : W p l e room_1 s m args below meth c H locs cells slots Q (F0 m 868 ls []) := by
  have hx := hC.1
  have hb := hC.2.1
  obtain ⟨r, Mc2, Mm2, h1, h2, hI⟩ := hsim (xs (x3 + 1).toNatClampNeg) (xs (x3 + 2).toNatClampNeg)
  refine lv_aload_n hx hb dL_law_868 rfl (lv_at hl 1 rfl) ?_
  refine lv_aload_n hx hb dL_law_869 rfl (lv_at hl 0 rfl) ?_
  refine lv_iload_n hx hb dL_law_870 rfl (lv_at hl 3 rfl) ?_
  refine lv_iconst (v := (1 : Int32)) hx hb dL_law_871 (by decide) ?_
  refine lv_iadd hx hb dL_law_872 ?_
  refine va_sld hx hb hX hbl (Nat.not_le.mpr hbl) hw.2.2 (lw_in 1 hx3 hn hL (by decide)) dL_law_873 ?_
  refine lv_aload_n hx hb dL_law_874 rfl (lv_at hl 0 rfl) ?_
  refine lv_iload_n hx hb dL_law_875 rfl (lv_at hl 3 rfl) ?_
  refine lv_iconst (v := (2 : Int32)) hx hb dL_law_876 (by decide) ?_
  refine lv_iadd hx hb dL_law_877 ?_
  refine va_sld hx hb hX hbl (Nat.not_le.mpr hbl) hw.2.2 (lw_in 2 hx3 hn hL (by decide)) dL_law_878 ?_
  refine lw_ci (As := [.int (xs (x3 + 1).toNatClampNeg), .int (xs (x3 + 2).toNatClampNeg)]) (rest := []) hC hK hJc hdis hw (mX6_rounds l hJc h1) kg_RL_115 kd_X6_rounds ⟨Nat.le_of_ble_eq_true rfl, Nat.le_of_ble_eq_true rfl⟩ rfl hl.1 rfl (Nat.le_of_ble_eq_true rfl) hcs dL_law_879 (fun H locs hw => ?_)
  refine lv_aload_n hx hb dL_law_882 rfl (lv_at hl 2 rfl) ?_
  refine lv_aload_n hx hb dL_law_883 rfl (lv_at hl 0 rfl) ?_
  refine lv_iload_n hx hb dL_law_884 rfl (lv_at hl 3 rfl) ?_
  refine lv_iconst (v := (1 : Int32)) hx hb dL_law_885 (by decide) ?_
  refine lv_iadd hx hb dL_law_886 ?_
  refine va_sld hx hb hX hbl (Nat.not_le.mpr hbl) hw.2.2 (lw_in 1 hx3 hn hL (by decide)) dL_law_887 ?_
  refine lv_aload_n hx hb dL_law_888 rfl (lv_at hl 0 rfl) ?_
  refine lv_iload_n hx hb dL_law_889 rfl (lv_at hl 3 rfl) ?_
  refine lv_iconst (v := (2 : Int32)) hx hb dL_law_890 (by decide) ?_
  refine lv_iadd hx hb dL_law_891 ?_
  refine va_sld hx hb hX hbl (Nat.not_le.mpr hbl) hw.2.2 (lw_in 2 hx3 hn hL (by decide)) dL_law_892 ?_
  refine lw_mi (As := [.int (xs (x3 + 1).toNatClampNeg), .int (xs (x3 + 2).toNatClampNeg)]) (rest := [.int r]) hC hK hJm hdis hw (mX7_rounds l hJm h2) kg_RL_118 kd_X7_rounds ⟨Nat.le_of_ble_eq_true rfl, Nat.le_of_ble_eq_true rfl⟩ rfl hl.1 rfl (Nat.le_of_ble_eq_true rfl) hcs dL_law_893 (fun H locs hw => ?_)
  refine lv_icmp_eq (tgt := 1031) hx hb dL_law_896 (by decide) (fun _ => ?_) (fun hc => absurd rfl hc)
  exact K Mc2 Mm2 _ _ hI hw
set_option maxRecDepth 100000 in
theorem lc_25 {p : Program} {l : Launch} {e : Env} {s : State} {m : MethodId} {args : Array Value} {below : List Frame} {meth : Method} {c : Code} {gc gm : mmG} {b L : Nat} {xs : Nat → Int32} (hC : CallFix p m c cL_law 4 s args uw RL) (hK : lwK gc gm s) (hJc : mmJ bcK gc) (hJm : mmJ bmK gm) (hdis : lwD gc gm) (hX : va_X b L xs s s.heap) (hbl : b < s.heap.size) (hL : L ≤ 4096) {Inv : Nat → Mem → Mem → Prop} {n cells slots : Nat} (hcs : cells ≤ room_1.cells ∧ slots ≤ room_1.slots) {Mc Mm : Mem} {x3 : Int32} (hx3 : x3 = nI (8 * n)) (hn : 8 * n + 8 ≤ L) (hsim : sim25 Inv n Mc Mm) {H : Heap} {locs : List Loc} {ls : Array Slot} (hw : lwM gc gm Mc Mm s.heap H locs) (hl : lv_has ls 4 [(0, .ref b), (1, .ref (gc.2.2 39 0)), (2, .ref (gm.2.2 0 0)), (3, .int x3)]) {Q : State → Prop} (K : ∀ (Mc2 Mm2 : Mem) (H : Heap) (locs : List Loc), Inv (n + 1) Mc2 Mm2 → lwM gc gm Mc2 Mm2 s.heap H locs → W p l e room_1 s m args below meth c H locs cells slots Q (F0 m 1031 ls [])) : W p l e room_1 s m args below meth c H locs cells slots Q (F0 m 901 ls []) := by
  have hx := hC.1
  have hb := hC.2.1
  obtain ⟨r, Mc2, Mm2, h1, h2, hI⟩ := hsim (xs (x3 + 1).toNatClampNeg)
  refine lv_aload_n hx hb dL_law_901 rfl (lv_at hl 1 rfl) ?_
  refine lv_aload_n hx hb dL_law_902 rfl (lv_at hl 0 rfl) ?_
  refine lv_iload_n hx hb dL_law_903 rfl (lv_at hl 3 rfl) ?_
  refine lv_iconst (v := (1 : Int32)) hx hb dL_law_904 (by decide) ?_
  refine lv_iadd hx hb dL_law_905 ?_
  refine va_sld hx hb hX hbl (Nat.not_le.mpr hbl) hw.2.2 (lw_in 1 hx3 hn hL (by decide)) dL_law_906 ?_
  refine lw_cl (As := [.int (xs (x3 + 1).toNatClampNeg)]) (rest := []) hC hK hJc hdis hw (mX6_part l hJc h1) kg_RL_119 kd_X6_part ⟨Nat.le_of_ble_eq_true rfl, Nat.le_of_ble_eq_true rfl⟩ rfl hl.1 rfl (Nat.le_of_ble_eq_true rfl) hcs dL_law_907 (fun H locs hw => ?_)
  refine lv_aload_n hx hb dL_law_910 rfl (lv_at hl 2 rfl) ?_
  refine lv_aload_n hx hb dL_law_911 rfl (lv_at hl 0 rfl) ?_
  refine lv_iload_n hx hb dL_law_912 rfl (lv_at hl 3 rfl) ?_
  refine lv_iconst (v := (1 : Int32)) hx hb dL_law_913 (by decide) ?_
  refine lv_iadd hx hb dL_law_914 ?_
  refine va_sld hx hb hX hbl (Nat.not_le.mpr hbl) hw.2.2 (lw_in 1 hx3 hn hL (by decide)) dL_law_915 ?_
  refine lw_ml (As := [.int (xs (x3 + 1).toNatClampNeg)]) (rest := [.long r]) hC hK hJm hdis hw (mX7_part l hJm h2) kg_RL_123 kd_X7_part ⟨Nat.le_of_ble_eq_true rfl, Nat.le_of_ble_eq_true rfl⟩ rfl hl.1 rfl (Nat.le_of_ble_eq_true rfl) hcs dL_law_916 (fun H locs hw => ?_)
  refine W.lcmp hx hb dL_law_919 ?_
  refine lv_if_eq (tgt := 1031) hx hb dL_law_920 (by decide) (fun _ => ?_) (fun hc => absurd (lg_cmp_self r) hc)
  exact K Mc2 Mm2 _ _ hI hw
set_option maxRecDepth 100000 in
theorem lc_26 {p : Program} {l : Launch} {e : Env} {s : State} {m : MethodId} {args : Array Value} {below : List Frame} {meth : Method} {c : Code} {gc gm : mmG} {b L : Nat} {xs : Nat → Int32} (hC : CallFix p m c cL_law 4 s args uw RL) (hK : lwK gc gm s) (hJc : mmJ bcK gc) (hJm : mmJ bmK gm) (hdis : lwD gc gm) (hX : va_X b L xs s s.heap) (hbl : b < s.heap.size) (hL : L ≤ 4096) {Inv : Nat → Mem → Mem → Prop} {n cells slots : Nat} (hcs : cells ≤ room_1.cells ∧ slots ≤ room_1.slots) {Mc Mm : Mem} {x3 : Int32} (hx3 : x3 = nI (8 * n)) (hn : 8 * n + 8 ≤ L) (hsim : sim26 Inv n Mc Mm) {H : Heap} {locs : List Loc} {ls : Array Slot} (hw : lwM gc gm Mc Mm s.heap H locs) (hl : lv_has ls 4 [(0, .ref b), (1, .ref (gc.2.2 39 0)), (2, .ref (gm.2.2 0 0)), (3, .int x3)]) {Q : State → Prop} (K : ∀ (Mc2 Mm2 : Mem) (H : Heap) (locs : List Loc), Inv (n + 1) Mc2 Mm2 → lwM gc gm Mc2 Mm2 s.heap H locs → W p l e room_1 s m args below meth c H locs cells slots Q (F0 m 1031 ls [])) : W p l e room_1 s m args below meth c H locs cells slots Q (F0 m 925 ls []) := by
  have hx := hC.1
  have hb := hC.2.1
  obtain ⟨r, Mc2, Mm2, h1, h2, hI⟩ := hsim (xs (x3 + 1).toNatClampNeg)
  refine lv_aload_n hx hb dL_law_925 rfl (lv_at hl 1 rfl) ?_
  refine lv_aload_n hx hb dL_law_926 rfl (lv_at hl 0 rfl) ?_
  refine lv_iload_n hx hb dL_law_927 rfl (lv_at hl 3 rfl) ?_
  refine lv_iconst (v := (1 : Int32)) hx hb dL_law_928 (by decide) ?_
  refine lv_iadd hx hb dL_law_929 ?_
  refine va_sld hx hb hX hbl (Nat.not_le.mpr hbl) hw.2.2 (lw_in 1 hx3 hn hL (by decide)) dL_law_930 ?_
  refine lw_ci (As := [.int (xs (x3 + 1).toNatClampNeg)]) (rest := []) hC hK hJc hdis hw (mX6_image l hJc h1) kg_RL_124 kd_X6_image ⟨Nat.le_of_ble_eq_true rfl, Nat.le_of_ble_eq_true rfl⟩ rfl hl.1 rfl (Nat.le_of_ble_eq_true rfl) hcs dL_law_931 (fun H locs hw => ?_)
  refine lv_aload_n hx hb dL_law_934 rfl (lv_at hl 2 rfl) ?_
  refine lv_aload_n hx hb dL_law_935 rfl (lv_at hl 0 rfl) ?_
  refine lv_iload_n hx hb dL_law_936 rfl (lv_at hl 3 rfl) ?_
  refine lv_iconst (v := (1 : Int32)) hx hb dL_law_937 (by decide) ?_
  refine lv_iadd hx hb dL_law_938 ?_
  refine va_sld hx hb hX hbl (Nat.not_le.mpr hbl) hw.2.2 (lw_in 1 hx3 hn hL (by decide)) dL_law_939 ?_
  refine lw_mi (As := [.int (xs (x3 + 1).toNatClampNeg)]) (rest := [.int r]) hC hK hJm hdis hw (mX7_image l hJm h2) kg_RL_127 kd_X7_image ⟨Nat.le_of_ble_eq_true rfl, Nat.le_of_ble_eq_true rfl⟩ rfl hl.1 rfl (Nat.le_of_ble_eq_true rfl) hcs dL_law_940 (fun H locs hw => ?_)
  refine lv_icmp_eq (tgt := 1031) hx hb dL_law_943 (by decide) (fun _ => ?_) (fun hc => absurd rfl hc)
  exact K Mc2 Mm2 _ _ hI hw
set_option maxRecDepth 100000 in
theorem lc_27 {p : Program} {l : Launch} {e : Env} {s : State} {m : MethodId} {args : Array Value} {below : List Frame} {meth : Method} {c : Code} {gc gm : mmG} {b L : Nat} {xs : Nat → Int32} (hC : CallFix p m c cL_law 4 s args uw RL) (hK : lwK gc gm s) (hJc : mmJ bcK gc) (hJm : mmJ bmK gm) (hdis : lwD gc gm) (hX : va_X b L xs s s.heap) (hbl : b < s.heap.size) (hL : L ≤ 4096) {Inv : Nat → Mem → Mem → Prop} {n cells slots : Nat} (hcs : cells ≤ room_1.cells ∧ slots ≤ room_1.slots) {Mc Mm : Mem} {x3 : Int32} (hx3 : x3 = nI (8 * n)) (hn : 8 * n + 8 ≤ L) (hsim : sim27 Inv n Mc Mm) {H : Heap} {locs : List Loc} {ls : Array Slot} (hw : lwM gc gm Mc Mm s.heap H locs) (hl : lv_has ls 4 [(0, .ref b), (1, .ref (gc.2.2 39 0)), (2, .ref (gm.2.2 0 0)), (3, .int x3)]) {Q : State → Prop} (K : ∀ (Mc2 Mm2 : Mem) (H : Heap) (locs : List Loc), Inv (n + 1) Mc2 Mm2 → lwM gc gm Mc2 Mm2 s.heap H locs → W p l e room_1 s m args below meth c H locs cells slots Q (F0 m 1031 ls [])) : W p l e room_1 s m args below meth c H locs cells slots Q (F0 m 948 ls []) := by
  have hx := hC.1
  have hb := hC.2.1
  obtain ⟨r, Mc2, Mm2, h1, h2, hI⟩ := hsim (xs (x3 + 1).toNatClampNeg)
  refine lv_aload_n hx hb dL_law_948 rfl (lv_at hl 1 rfl) ?_
  refine lv_aload_n hx hb dL_law_949 rfl (lv_at hl 0 rfl) ?_
  refine lv_iload_n hx hb dL_law_950 rfl (lv_at hl 3 rfl) ?_
  refine lv_iconst (v := (1 : Int32)) hx hb dL_law_951 (by decide) ?_
  refine lv_iadd hx hb dL_law_952 ?_
  refine va_sld hx hb hX hbl (Nat.not_le.mpr hbl) hw.2.2 (lw_in 1 hx3 hn hL (by decide)) dL_law_953 ?_
  refine lw_ci (As := [.int (xs (x3 + 1).toNatClampNeg)]) (rest := []) hC hK hJc hdis hw (mX6_from l hJc h1) kg_RL_128 kd_X6_from ⟨Nat.le_of_ble_eq_true rfl, Nat.le_of_ble_eq_true rfl⟩ rfl hl.1 rfl (Nat.le_of_ble_eq_true rfl) hcs dL_law_954 (fun H locs hw => ?_)
  refine lv_aload_n hx hb dL_law_957 rfl (lv_at hl 2 rfl) ?_
  refine lv_aload_n hx hb dL_law_958 rfl (lv_at hl 0 rfl) ?_
  refine lv_iload_n hx hb dL_law_959 rfl (lv_at hl 3 rfl) ?_
  refine lv_iconst (v := (1 : Int32)) hx hb dL_law_960 (by decide) ?_
  refine lv_iadd hx hb dL_law_961 ?_
  refine va_sld hx hb hX hbl (Nat.not_le.mpr hbl) hw.2.2 (lw_in 1 hx3 hn hL (by decide)) dL_law_962 ?_
  refine lw_mi (As := [.int (xs (x3 + 1).toNatClampNeg)]) (rest := [.int r]) hC hK hJm hdis hw (mX7_from l hJm h2) kg_RL_131 kd_X7_from ⟨Nat.le_of_ble_eq_true rfl, Nat.le_of_ble_eq_true rfl⟩ rfl hl.1 rfl (Nat.le_of_ble_eq_true rfl) hcs dL_law_963 (fun H locs hw => ?_)
  refine lv_icmp_eq (tgt := 1031) hx hb dL_law_966 (by decide) (fun _ => ?_) (fun hc => absurd rfl hc)
  exact K Mc2 Mm2 _ _ hI hw
set_option maxRecDepth 100000 in
theorem lc_28 {p : Program} {l : Launch} {e : Env} {s : State} {m : MethodId} {args : Array Value} {below : List Frame} {meth : Method} {c : Code} {gc gm : mmG} {b L : Nat} {xs : Nat → Int32} (hC : CallFix p m c cL_law 4 s args uw RL) (hK : lwK gc gm s) (hJc : mmJ bcK gc) (hJm : mmJ bmK gm) (hdis : lwD gc gm) (hX : va_X b L xs s s.heap) (hbl : b < s.heap.size) (hL : L ≤ 4096) {Inv : Nat → Mem → Mem → Prop} {n cells slots : Nat} (hcs : cells ≤ room_1.cells ∧ slots ≤ room_1.slots) {Mc Mm : Mem} {x3 : Int32} (hx3 : x3 = nI (8 * n)) (hn : 8 * n + 8 ≤ L) (hsim : sim28 Inv n Mc Mm) {H : Heap} {locs : List Loc} {ls : Array Slot} (hw : lwM gc gm Mc Mm s.heap H locs) (hl : lv_has ls 4 [(0, .ref b), (1, .ref (gc.2.2 39 0)), (2, .ref (gm.2.2 0 0)), (3, .int x3)]) {Q : State → Prop} (K : ∀ (Mc2 Mm2 : Mem) (H : Heap) (locs : List Loc), Inv (n + 1) Mc2 Mm2 → lwM gc gm Mc2 Mm2 s.heap H locs → W p l e room_1 s m args below meth c H locs cells slots Q (F0 m 1031 ls [])) : W p l e room_1 s m args below meth c H locs cells slots Q (F0 m 971 ls []) := by
  have hx := hC.1
  have hb := hC.2.1
  obtain ⟨r, Mc2, Mm2, h1, h2, hI⟩ := hsim (xs (x3 + 1).toNatClampNeg)
  refine lv_aload_n hx hb dL_law_971 rfl (lv_at hl 1 rfl) ?_
  refine lv_aload_n hx hb dL_law_972 rfl (lv_at hl 0 rfl) ?_
  refine lv_iload_n hx hb dL_law_973 rfl (lv_at hl 3 rfl) ?_
  refine lv_iconst (v := (1 : Int32)) hx hb dL_law_974 (by decide) ?_
  refine lv_iadd hx hb dL_law_975 ?_
  refine va_sld hx hb hX hbl (Nat.not_le.mpr hbl) hw.2.2 (lw_in 1 hx3 hn hL (by decide)) dL_law_976 ?_
  refine lw_ci (As := [.int (xs (x3 + 1).toNatClampNeg)]) (rest := []) hC hK hJc hdis hw (mX6_status l hJc h1) kg_RL_132 kd_X6_status ⟨Nat.le_of_ble_eq_true rfl, Nat.le_of_ble_eq_true rfl⟩ rfl hl.1 rfl (Nat.le_of_ble_eq_true rfl) hcs dL_law_977 (fun H locs hw => ?_)
  refine lv_aload_n hx hb dL_law_980 rfl (lv_at hl 2 rfl) ?_
  refine lv_aload_n hx hb dL_law_981 rfl (lv_at hl 0 rfl) ?_
  refine lv_iload_n hx hb dL_law_982 rfl (lv_at hl 3 rfl) ?_
  refine lv_iconst (v := (1 : Int32)) hx hb dL_law_983 (by decide) ?_
  refine lv_iadd hx hb dL_law_984 ?_
  refine va_sld hx hb hX hbl (Nat.not_le.mpr hbl) hw.2.2 (lw_in 1 hx3 hn hL (by decide)) dL_law_985 ?_
  refine lw_mi (As := [.int (xs (x3 + 1).toNatClampNeg)]) (rest := [.int r]) hC hK hJm hdis hw (mX7_status l hJm h2) kg_RL_135 kd_X7_status ⟨Nat.le_of_ble_eq_true rfl, Nat.le_of_ble_eq_true rfl⟩ rfl hl.1 rfl (Nat.le_of_ble_eq_true rfl) hcs dL_law_986 (fun H locs hw => ?_)
  refine lv_icmp_eq (tgt := 1031) hx hb dL_law_989 (by decide) (fun _ => ?_) (fun hc => absurd rfl hc)
  exact K Mc2 Mm2 _ _ hI hw
set_option maxRecDepth 100000 in
theorem lc_29 {p : Program} {l : Launch} {e : Env} {s : State} {m : MethodId} {args : Array Value} {below : List Frame} {meth : Method} {c : Code} {gc gm : mmG} {b L : Nat} {xs : Nat → Int32} (hC : CallFix p m c cL_law 4 s args uw RL) (hK : lwK gc gm s) (hJc : mmJ bcK gc) (hJm : mmJ bmK gm) (hdis : lwD gc gm) (hX : va_X b L xs s s.heap) (hbl : b < s.heap.size) (hL : L ≤ 4096) {Inv : Nat → Mem → Mem → Prop} {n cells slots : Nat} (hcs : cells ≤ room_1.cells ∧ slots ≤ room_1.slots) {Mc Mm : Mem} {x3 : Int32} (hx3 : x3 = nI (8 * n)) (hn : 8 * n + 8 ≤ L) (hsim : sim29 Inv n Mc Mm) {H : Heap} {locs : List Loc} {ls : Array Slot} (hw : lwM gc gm Mc Mm s.heap H locs) (hl : lv_has ls 4 [(0, .ref b), (1, .ref (gc.2.2 39 0)), (2, .ref (gm.2.2 0 0)), (3, .int x3)]) {Q : State → Prop} (K : ∀ (Mc2 Mm2 : Mem) (H : Heap) (locs : List Loc), Inv (n + 1) Mc2 Mm2 → lwM gc gm Mc2 Mm2 s.heap H locs → W p l e room_1 s m args below meth c H locs cells slots Q (F0 m 1031 ls [])) : W p l e room_1 s m args below meth c H locs cells slots Q (F0 m 994 ls []) := by
  have hx := hC.1
  have hb := hC.2.1
  obtain ⟨r, Mc2, Mm2, h1, h2, hI⟩ := hsim (xs (x3 + 1).toNatClampNeg)
  refine lv_aload_n hx hb dL_law_994 rfl (lv_at hl 1 rfl) ?_
  refine lv_aload_n hx hb dL_law_995 rfl (lv_at hl 0 rfl) ?_
  refine lv_iload_n hx hb dL_law_996 rfl (lv_at hl 3 rfl) ?_
  refine lv_iconst (v := (1 : Int32)) hx hb dL_law_997 (by decide) ?_
  refine lv_iadd hx hb dL_law_998 ?_
  refine va_sld hx hb hX hbl (Nat.not_le.mpr hbl) hw.2.2 (lw_in 1 hx3 hn hL (by decide)) dL_law_999 ?_
  refine lw_ci (As := [.int (xs (x3 + 1).toNatClampNeg)]) (rest := []) hC hK hJc hdis hw (mX6_count l hJc h1) kg_RL_136 kd_X6_count ⟨Nat.le_of_ble_eq_true rfl, Nat.le_of_ble_eq_true rfl⟩ rfl hl.1 rfl (Nat.le_of_ble_eq_true rfl) hcs dL_law_1000 (fun H locs hw => ?_)
  refine lv_aload_n hx hb dL_law_1003 rfl (lv_at hl 2 rfl) ?_
  refine lv_aload_n hx hb dL_law_1004 rfl (lv_at hl 0 rfl) ?_
  refine lv_iload_n hx hb dL_law_1005 rfl (lv_at hl 3 rfl) ?_
  refine lv_iconst (v := (1 : Int32)) hx hb dL_law_1006 (by decide) ?_
  refine lv_iadd hx hb dL_law_1007 ?_
  refine va_sld hx hb hX hbl (Nat.not_le.mpr hbl) hw.2.2 (lw_in 1 hx3 hn hL (by decide)) dL_law_1008 ?_
  refine lw_mi (As := [.int (xs (x3 + 1).toNatClampNeg)]) (rest := [.int r]) hC hK hJm hdis hw (mX7_count l hJm h2) kg_RL_139 kd_X7_count ⟨Nat.le_of_ble_eq_true rfl, Nat.le_of_ble_eq_true rfl⟩ rfl hl.1 rfl (Nat.le_of_ble_eq_true rfl) hcs dL_law_1009 (fun H locs hw => ?_)
  refine lv_icmp_eq (tgt := 1031) hx hb dL_law_1012 (by decide) (fun _ => ?_) (fun hc => absurd rfl hc)
  exact K Mc2 Mm2 _ _ hI hw
set_option maxRecDepth 100000 in
theorem lc_30 {p : Program} {l : Launch} {e : Env} {s : State} {m : MethodId} {args : Array Value} {below : List Frame} {meth : Method} {c : Code} {gc gm : mmG} {b L : Nat} {xs : Nat → Int32} (hC : CallFix p m c cL_law 4 s args uw RL) (hK : lwK gc gm s) (hJc : mmJ bcK gc) (hJm : mmJ bmK gm) (hdis : lwD gc gm) (hX : va_X b L xs s s.heap) (hbl : b < s.heap.size) (hL : L ≤ 4096) {Inv : Nat → Mem → Mem → Prop} {n cells slots : Nat} (hcs : cells ≤ room_1.cells ∧ slots ≤ room_1.slots) {Mc Mm : Mem} {x3 : Int32} (hx3 : x3 = nI (8 * n)) (hn : 8 * n + 8 ≤ L) (hsim : sim30 Inv n Mc Mm) {H : Heap} {locs : List Loc} {ls : Array Slot} (hw : lwM gc gm Mc Mm s.heap H locs) (hl : lv_has ls 4 [(0, .ref b), (1, .ref (gc.2.2 39 0)), (2, .ref (gm.2.2 0 0)), (3, .int x3)]) {Q : State → Prop} (K : ∀ (Mc2 Mm2 : Mem) (H : Heap) (locs : List Loc), Inv (n + 1) Mc2 Mm2 → lwM gc gm Mc2 Mm2 s.heap H locs → W p l e room_1 s m args below meth c H locs cells slots Q (F0 m 1031 ls [])) : W p l e room_1 s m args below meth c H locs cells slots Q (F0 m 1017 ls []) := by
  have hx := hC.1
  have hb := hC.2.1
  obtain ⟨r, Mc2, Mm2, h1, h2, hI⟩ := hsim
  refine lv_aload_n hx hb dL_law_1017 rfl (lv_at hl 1 rfl) ?_
  refine lw_cl (As := []) (rest := []) hC hK hJc hdis hw (mX6_digest l hJc h1) kg_RL_140 kd_X6_digest ⟨Nat.le_of_ble_eq_true rfl, Nat.le_of_ble_eq_true rfl⟩ rfl hl.1 rfl (Nat.le_of_ble_eq_true rfl) hcs dL_law_1018 (fun H locs hw => ?_)
  refine lv_aload_n hx hb dL_law_1021 rfl (lv_at hl 2 rfl) ?_
  refine lw_ml (As := []) (rest := [.long r]) hC hK hJm hdis hw (mX7_digest l hJm h2) kg_RL_144 kd_X7_digest ⟨Nat.le_of_ble_eq_true rfl, Nat.le_of_ble_eq_true rfl⟩ rfl hl.1 rfl (Nat.le_of_ble_eq_true rfl) hcs dL_law_1022 (fun H locs hw => ?_)
  refine W.lcmp hx hb dL_law_1025 ?_
  refine lv_if_eq (tgt := 1031) hx hb dL_law_1026 (by decide) (fun _ => ?_) (fun hc => absurd (lg_cmp_self r) hc)
  exact K Mc2 Mm2 _ _ hI hw

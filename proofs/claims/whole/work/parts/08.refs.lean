theorem wi_X0 : Cond.initialized RX0 ∈ gn_tbl := (gn_mem 57 (by decide +kernel) (by decide +kernel))
theorem wi_X1 : Cond.initialized RX1 ∈ gn_tbl := (gn_mem 51 (by decide +kernel) (by decide +kernel))
theorem wi_X2 : Cond.initialized RX2 ∈ gn_tbl := (gn_mem 56 (by decide +kernel) (by decide +kernel))
theorem wi_X3 : Cond.initialized RX3 ∈ gn_tbl := (gn_mem 52 (by decide +kernel) (by decide +kernel))
theorem wi_X4 : Cond.initialized RX4 ∈ gn_tbl := (gn_mem 59 (by decide +kernel) (by decide +kernel))
theorem wi_X5 : Cond.initialized RX5 ∈ gn_tbl := (gn_mem 54 (by decide +kernel) (by decide +kernel))
theorem wi_X6 : Cond.initialized RX6 ∈ gn_tbl := (gn_mem 61 (by decide +kernel) (by decide +kernel))
theorem wi_X7 : Cond.initialized RX7 ∈ gn_tbl := (gn_mem 58 (by decide +kernel) (by decide +kernel))
theorem wi_X8 : Cond.initialized RX8 ∈ gn_tbl := (gn_mem 60 (by decide +kernel) (by decide +kernel))
theorem wi_X9 : Cond.initialized RX9 ∈ gn_tbl := (gn_mem 55 (by decide +kernel) (by decide +kernel))
theorem wi_X10 : Cond.initialized RX10 ∈ gn_tbl := (gn_mem 53 (by decide +kernel) (by decide +kernel))
theorem wi_X11 : Cond.initialized RX11 ∈ gn_tbl := (gn_mem 50 (by decide +kernel) (by decide +kernel))
theorem wi_X12 : Cond.initialized RX12 ∈ gn_tbl := (gn_mem 62 (by decide +kernel) (by decide +kernel))
theorem wi_J9 : Cond.initialized RJ9 ∈ gn_tbl := (gn_mem 63 (by decide +kernel) (by decide +kernel))
theorem wi_L : Cond.initialized RL ∈ gn_tbl := (gn_mem 49 (by decide +kernel) (by decide +kernel))
theorem wc_J9_abs_0f7a4 : Cond.code yJ9_abs_0f7a4 cJ9_abs_0f7a4 1 (some .int) ∈ gn_tbl := gn_mem 365 (by decide +kernel) (by decide +kernel)
theorem wm_J9_abs_0f7a4 : Cond.static yJ9_abs_0f7a4 ∈ gn_tbl := (gn_mem 364 (by decide +kernel) (by decide +kernel))
theorem wc_J9_floorMod_7cf53 : Cond.code yJ9_floorMod_7cf53 cJ9_floorMod_7cf53 3 (some .int) ∈ gn_tbl := gn_mem 403 (by decide +kernel) (by decide +kernel)
theorem wm_J9_floorMod_7cf53 : Cond.static yJ9_floorMod_7cf53 ∈ gn_tbl := (gn_mem 402 (by decide +kernel) (by decide +kernel))
theorem wc_J9_max_7cf53 : Cond.code yJ9_max_7cf53 cJ9_max_7cf53 2 (some .int) ∈ gn_tbl := gn_mem 517 (by decide +kernel) (by decide +kernel)
theorem wm_J9_max_7cf53 : Cond.static yJ9_max_7cf53 ∈ gn_tbl := (gn_mem 516 (by decide +kernel) (by decide +kernel))
theorem wc_J9_min_7cf53 : Cond.code yJ9_min_7cf53 cJ9_min_7cf53 2 (some .int) ∈ gn_tbl := gn_mem 482 (by decide +kernel) (by decide +kernel)
theorem wm_J9_min_7cf53 : Cond.static yJ9_min_7cf53 ∈ gn_tbl := (gn_mem 481 (by decide +kernel) (by decide +kernel))
theorem wc_X0_drawBy : Cond.code yX0_drawBy cX0_drawBy 3 none ∈ gn_tbl := gn_mem 656 (by decide +kernel) (by decide +kernel)
theorem wm_X0_drawBy : Cond.instanceMethod yX0_drawBy ∈ gn_tbl := (gn_mem 654 (by decide +kernel) (by decide +kernel))
theorem wc_X0_fallCalm : Cond.code yX0_fallCalm cX0_fallCalm 1 none ∈ gn_tbl := gn_mem 652 (by decide +kernel) (by decide +kernel)
theorem wm_X0_fallCalm : Cond.instanceMethod yX0_fallCalm ∈ gn_tbl := (gn_mem 650 (by decide +kernel) (by decide +kernel))
theorem wc_X10_eastward : Cond.code yX10_eastward cX10_eastward 3 (some .int) ∈ gn_tbl := gn_mem 430 (by decide +kernel) (by decide +kernel)
theorem wm_X10_eastward : Cond.instanceMethod yX10_eastward ∈ gn_tbl := (gn_mem 429 (by decide +kernel) (by decide +kernel))
theorem wc_X10_northward : Cond.code yX10_northward cX10_northward 3 (some .int) ∈ gn_tbl := gn_mem 446 (by decide +kernel) (by decide +kernel)
theorem wm_X10_northward : Cond.instanceMethod yX10_northward ∈ gn_tbl := (gn_mem 445 (by decide +kernel) (by decide +kernel))
theorem wc_X11_back : Cond.code yX11_back cX11_back 6 (some .int) ∈ gn_tbl := gn_mem 552 (by decide +kernel) (by decide +kernel)
theorem wm_X11_back : Cond.instanceMethod yX11_back ∈ gn_tbl := (gn_mem 550 (by decide +kernel) (by decide +kernel))
theorem wc_X11_behind : Cond.code yX11_behind cX11_behind 8 (some .long) ∈ gn_tbl := gn_mem 525 (by decide +kernel) (by decide +kernel)
theorem wm_X11_behind : Cond.instanceMethod yX11_behind ∈ gn_tbl := (gn_mem 523 (by decide +kernel) (by decide +kernel))
theorem wc_X11_belowFirst : Cond.code yX11_belowFirst cX11_belowFirst 2 (some .int) ∈ gn_tbl := gn_mem 471 (by decide +kernel) (by decide +kernel)
theorem wm_X11_belowFirst : Cond.static yX11_belowFirst ∈ gn_tbl := (gn_mem 470 (by decide +kernel) (by decide +kernel))
theorem wc_X11_blow : Cond.code yX11_blow cX11_blow 6 (some .int) ∈ gn_tbl := gn_mem 462 (by decide +kernel) (by decide +kernel)
theorem wm_X11_blow : Cond.instanceMethod yX11_blow ∈ gn_tbl := (gn_mem 460 (by decide +kernel) (by decide +kernel))
theorem wc_X11_count : Cond.code yX11_count cX11_count 2 (some .int) ∈ gn_tbl := gn_mem 679 (by decide +kernel) (by decide +kernel)
theorem wm_X11_count : Cond.instanceMethod yX11_count ∈ gn_tbl := (gn_mem 677 (by decide +kernel) (by decide +kernel))
theorem wc_X11_dayOf : Cond.code yX11_dayOf cX11_dayOf 2 (some .int) ∈ gn_tbl := gn_mem 486 (by decide +kernel) (by decide +kernel)
theorem wm_X11_dayOf : Cond.instanceMethod yX11_dayOf ∈ gn_tbl := (gn_mem 485 (by decide +kernel) (by decide +kernel))
theorem wc_X11_daysUntil : Cond.code yX11_daysUntil cX11_daysUntil 6 (some .int) ∈ gn_tbl := gn_mem 543 (by decide +kernel) (by decide +kernel)
theorem wm_X11_daysUntil : Cond.instanceMethod yX11_daysUntil ∈ gn_tbl := (gn_mem 542 (by decide +kernel) (by decide +kernel))
theorem wc_X11_deal : Cond.code yX11_deal cX11_deal 5 none ∈ gn_tbl := gn_mem 600 (by decide +kernel) (by decide +kernel)
theorem wm_X11_deal : Cond.static yX11_deal ∈ gn_tbl := (gn_mem 599 (by decide +kernel) (by decide +kernel))
theorem wc_X11_driftToday : Cond.code yX11_driftToday cX11_driftToday 4 (some .int) ∈ gn_tbl := gn_mem 396 (by decide +kernel) (by decide +kernel)
theorem wm_X11_driftToday : Cond.instanceMethod yX11_driftToday ∈ gn_tbl := (gn_mem 395 (by decide +kernel) (by decide +kernel))
theorem wc_X11_far : Cond.code yX11_far cX11_far 4 (some .int) ∈ gn_tbl := gn_mem 501 (by decide +kernel) (by decide +kernel)
theorem wm_X11_far : Cond.instanceMethod yX11_far ∈ gn_tbl := (gn_mem 499 (by decide +kernel) (by decide +kernel))
theorem wc_X11_feed : Cond.code yX11_feed cX11_feed 2 (some .int) ∈ gn_tbl := gn_mem 306 (by decide +kernel) (by decide +kernel)
theorem wm_X11_feed : Cond.instanceMethod yX11_feed ∈ gn_tbl := (gn_mem 304 (by decide +kernel) (by decide +kernel))
theorem wc_X11_first : Cond.code yX11_first cX11_first 2 (some .int) ∈ gn_tbl := gn_mem 391 (by decide +kernel) (by decide +kernel)
theorem wm_X11_first : Cond.static yX11_first ∈ gn_tbl := (gn_mem 390 (by decide +kernel) (by decide +kernel))
theorem wc_X11_firstUntrue : Cond.code yX11_firstUntrue cX11_firstUntrue 5 (some .int) ∈ gn_tbl := gn_mem 644 (by decide +kernel) (by decide +kernel)
theorem wm_X11_firstUntrue : Cond.instanceMethod yX11_firstUntrue ∈ gn_tbl := (gn_mem 643 (by decide +kernel) (by decide +kernel))
theorem wc_X11_givenUp : Cond.code yX11_givenUp cX11_givenUp 8 (some .int) ∈ gn_tbl := gn_mem 604 (by decide +kernel) (by decide +kernel)
theorem wm_X11_givenUp : Cond.instanceMethod yX11_givenUp ∈ gn_tbl := (gn_mem 602 (by decide +kernel) (by decide +kernel))
theorem wc_X11_go : Cond.code yX11_go cX11_go 5 (some .int) ∈ gn_tbl := gn_mem 479 (by decide +kernel) (by decide +kernel)
theorem wm_X11_go : Cond.instanceMethod yX11_go ∈ gn_tbl := (gn_mem 477 (by decide +kernel) (by decide +kernel))
theorem wc_X11_groups : Cond.code yX11_groups cX11_groups 4 (some .int) ∈ gn_tbl := gn_mem 576 (by decide +kernel) (by decide +kernel)
theorem wm_X11_groups : Cond.instanceMethod yX11_groups ∈ gn_tbl := (gn_mem 574 (by decide +kernel) (by decide +kernel))
theorem wc_X11_home : Cond.code yX11_home cX11_home 13 (some .int) ∈ gn_tbl := gn_mem 622 (by decide +kernel) (by decide +kernel)
theorem wm_X11_home : Cond.instanceMethod yX11_home ∈ gn_tbl := (gn_mem 620 (by decide +kernel) (by decide +kernel))
theorem wc_X11_hungerWithout : Cond.code yX11_hungerWithout cX11_hungerWithout 3 (some .int) ∈ gn_tbl := gn_mem 608 (by decide +kernel) (by decide +kernel)
theorem wm_X11_hungerWithout : Cond.instanceMethod yX11_hungerWithout ∈ gn_tbl := (gn_mem 607 (by decide +kernel) (by decide +kernel))
theorem wc_X11_hungry : Cond.code yX11_hungry cX11_hungry 3 (some .int) ∈ gn_tbl := gn_mem 585 (by decide +kernel) (by decide +kernel)
theorem wm_X11_hungry : Cond.instanceMethod yX11_hungry ∈ gn_tbl := (gn_mem 583 (by decide +kernel) (by decide +kernel))
theorem wc_X11_image : Cond.code yX11_image cX11_image 1 (some .int) ∈ gn_tbl := gn_mem 671 (by decide +kernel) (by decide +kernel)
theorem wm_X11_image : Cond.instanceMethod yX11_image ∈ gn_tbl := (gn_mem 669 (by decide +kernel) (by decide +kernel))
theorem wc_X11_isOfWeek : Cond.code yX11_isOfWeek cX11_isOfWeek 1 (some .boolean) ∈ gn_tbl := gn_mem 454 (by decide +kernel) (by decide +kernel)
theorem wm_X11_isOfWeek : Cond.static yX11_isOfWeek ∈ gn_tbl := (gn_mem 453 (by decide +kernel) (by decide +kernel))
theorem wc_X11_judge : Cond.code yX11_judge cX11_judge 4 (some .int) ∈ gn_tbl := gn_mem 640 (by decide +kernel) (by decide +kernel)
theorem wm_X11_judge : Cond.instanceMethod yX11_judge ∈ gn_tbl := (gn_mem 638 (by decide +kernel) (by decide +kernel))
theorem wc_X11_kinds : Cond.code yX11_kinds cX11_kinds 9 (some .int) ∈ gn_tbl := gn_mem 628 (by decide +kernel) (by decide +kernel)
theorem wm_X11_kinds : Cond.instanceMethod yX11_kinds ∈ gn_tbl := (gn_mem 626 (by decide +kernel) (by decide +kernel))
theorem wc_X11_know : Cond.code yX11_know cX11_know 6 (some .int) ∈ gn_tbl := gn_mem 564 (by decide +kernel) (by decide +kernel)
theorem wm_X11_know : Cond.instanceMethod yX11_know ∈ gn_tbl := (gn_mem 562 (by decide +kernel) (by decide +kernel))
theorem wc_X11_lasts : Cond.code yX11_lasts cX11_lasts 4 (some .int) ∈ gn_tbl := gn_mem 593 (by decide +kernel) (by decide +kernel)
theorem wm_X11_lasts : Cond.instanceMethod yX11_lasts ∈ gn_tbl := (gn_mem 591 (by decide +kernel) (by decide +kernel))
theorem wc_X11_lost : Cond.code yX11_lost cX11_lost 3 (some .int) ∈ gn_tbl := gn_mem 568 (by decide +kernel) (by decide +kernel)
theorem wm_X11_lost : Cond.instanceMethod yX11_lost ∈ gn_tbl := (gn_mem 566 (by decide +kernel) (by decide +kernel))
theorem wc_X11_lots : Cond.code yX11_lots cX11_lots 7 (some .int) ∈ gn_tbl := gn_mem 648 (by decide +kernel) (by decide +kernel)
theorem wm_X11_lots : Cond.instanceMethod yX11_lots ∈ gn_tbl := (gn_mem 646 (by decide +kernel) (by decide +kernel))
theorem wc_X11_meet : Cond.code yX11_meet cX11_meet 5 (some .int) ∈ gn_tbl := gn_mem 531 (by decide +kernel) (by decide +kernel)
theorem wm_X11_meet : Cond.instanceMethod yX11_meet ∈ gn_tbl := (gn_mem 529 (by decide +kernel) (by decide +kernel))
theorem wc_X11_nearest : Cond.code yX11_nearest cX11_nearest 10 (some .int) ∈ gn_tbl := gn_mem 535 (by decide +kernel) (by decide +kernel)
theorem wm_X11_nearest : Cond.instanceMethod yX11_nearest ∈ gn_tbl := (gn_mem 533 (by decide +kernel) (by decide +kernel))
theorem wc_X11_news : Cond.code yX11_news cX11_news 3 (some .int) ∈ gn_tbl := gn_mem 556 (by decide +kernel) (by decide +kernel)
theorem wm_X11_news : Cond.instanceMethod yX11_news ∈ gn_tbl := (gn_mem 554 (by decide +kernel) (by decide +kernel))
theorem wc_X11_nobody : Cond.code yX11_nobody cX11_nobody 2 (some .int) ∈ gn_tbl := gn_mem 381 (by decide +kernel) (by decide +kernel)
theorem wm_X11_nobody : Cond.instanceMethod yX11_nobody ∈ gn_tbl := (gn_mem 380 (by decide +kernel) (by decide +kernel))
theorem wc_X11_notTwo : Cond.code yX11_notTwo cX11_notTwo 3 (some .int) ∈ gn_tbl := gn_mem 505 (by decide +kernel) (by decide +kernel)
theorem wm_X11_notTwo : Cond.instanceMethod yX11_notTwo ∈ gn_tbl := (gn_mem 504 (by decide +kernel) (by decide +kernel))
theorem wc_X11_open : Cond.code yX11_open cX11_open 6 (some .int) ∈ gn_tbl := gn_mem 521 (by decide +kernel) (by decide +kernel)
theorem wm_X11_open : Cond.instanceMethod yX11_open ∈ gn_tbl := (gn_mem 519 (by decide +kernel) (by decide +kernel))
theorem wc_X11_otherThan : Cond.code yX11_otherThan cX11_otherThan 2 (some .int) ∈ gn_tbl := gn_mem 388 (by decide +kernel) (by decide +kernel)
theorem wm_X11_otherThan : Cond.static yX11_otherThan ∈ gn_tbl := (gn_mem 387 (by decide +kernel) (by decide +kernel))
theorem wc_X11_pack : Cond.code yX11_pack cX11_pack 2 (some .int) ∈ gn_tbl := gn_mem 318 (by decide +kernel) (by decide +kernel)
theorem wm_X11_pack : Cond.instanceMethod yX11_pack ∈ gn_tbl := (gn_mem 316 (by decide +kernel) (by decide +kernel))
theorem wc_X11_range : Cond.code yX11_range cX11_range 3 (some .int) ∈ gn_tbl := gn_mem 468 (by decide +kernel) (by decide +kernel)
theorem wm_X11_range : Cond.static yX11_range ∈ gn_tbl := (gn_mem 467 (by decide +kernel) (by decide +kernel))
theorem wc_X11_rangeOfTwo : Cond.code yX11_rangeOfTwo cX11_rangeOfTwo 4 (some .int) ∈ gn_tbl := gn_mem 465 (by decide +kernel) (by decide +kernel)
theorem wm_X11_rangeOfTwo : Cond.static yX11_rangeOfTwo ∈ gn_tbl := (gn_mem 464 (by decide +kernel) (by decide +kernel))
theorem wc_X11_refuse : Cond.code yX11_refuse cX11_refuse 3 (some .int) ∈ gn_tbl := gn_mem 310 (by decide +kernel) (by decide +kernel)
theorem wm_X11_refuse : Cond.instanceMethod yX11_refuse ∈ gn_tbl := (gn_mem 309 (by decide +kernel) (by decide +kernel))
theorem wc_X11_restore : Cond.code yX11_restore cX11_restore 1 (some .int) ∈ gn_tbl := gn_mem 675 (by decide +kernel) (by decide +kernel)
theorem wm_X11_restore : Cond.instanceMethod yX11_restore ∈ gn_tbl := (gn_mem 673 (by decide +kernel) (by decide +kernel))
theorem wc_X11_row : Cond.code yX11_row cX11_row 2 (some .int) ∈ gn_tbl := gn_mem 636 (by decide +kernel) (by decide +kernel)
theorem wm_X11_row : Cond.instanceMethod yX11_row ∈ gn_tbl := (gn_mem 634 (by decide +kernel) (by decide +kernel))
theorem wc_X11_set : Cond.code yX11_set cX11_set 6 (some .int) ∈ gn_tbl := gn_mem 475 (by decide +kernel) (by decide +kernel)
theorem wm_X11_set : Cond.instanceMethod yX11_set ∈ gn_tbl := (gn_mem 473 (by decide +kernel) (by decide +kernel))
theorem wc_X11_share : Cond.code yX11_share cX11_share 4 (some .int) ∈ gn_tbl := gn_mem 597 (by decide +kernel) (by decide +kernel)
theorem wm_X11_share : Cond.instanceMethod yX11_share ∈ gn_tbl := (gn_mem 595 (by decide +kernel) (by decide +kernel))
theorem wc_X11_ship : Cond.code yX11_ship cX11_ship 5 (some .int) ∈ gn_tbl := gn_mem 377 (by decide +kernel) (by decide +kernel)
theorem wm_X11_ship : Cond.instanceMethod yX11_ship ∈ gn_tbl := (gn_mem 375 (by decide +kernel) (by decide +kernel))
theorem wc_X11_there : Cond.code yX11_there cX11_there 4 (some .int) ∈ gn_tbl := gn_mem 539 (by decide +kernel) (by decide +kernel)
theorem wm_X11_there : Cond.instanceMethod yX11_there ∈ gn_tbl := (gn_mem 537 (by decide +kernel) (by decide +kernel))
theorem wc_X11_toldWind : Cond.code yX11_toldWind cX11_toldWind 2 (some .int) ∈ gn_tbl := gn_mem 458 (by decide +kernel) (by decide +kernel)
theorem wm_X11_toldWind : Cond.instanceMethod yX11_toldWind ∈ gn_tbl := (gn_mem 457 (by decide +kernel) (by decide +kernel))
theorem wc_X11_wind : Cond.code yX11_wind cX11_wind 2 (some .int) ∈ gn_tbl := gn_mem 451 (by decide +kernel) (by decide +kernel)
theorem wm_X11_wind : Cond.instanceMethod yX11_wind ∈ gn_tbl := (gn_mem 449 (by decide +kernel) (by decide +kernel))
theorem wc_X11_wouldBeAt : Cond.code yX11_wouldBeAt cX11_wouldBeAt 10 (some .boolean) ∈ gn_tbl := gn_mem 632 (by decide +kernel) (by decide +kernel)
theorem wm_X11_wouldBeAt : Cond.instanceMethod yX11_wouldBeAt ∈ gn_tbl := (gn_mem 631 (by decide +kernel) (by decide +kernel))
theorem wc_X12_apart : Cond.code yX12_apart cX12_apart 2 (some .int) ∈ gn_tbl := gn_mem 939 (by decide +kernel) (by decide +kernel)
theorem wm_X12_apart : Cond.static yX12_apart ∈ gn_tbl := (gn_mem 938 (by decide +kernel) (by decide +kernel))
theorem wc_X12_areTwo : Cond.code yX12_areTwo cX12_areTwo 3 (some .boolean) ∈ gn_tbl := gn_mem 932 (by decide +kernel) (by decide +kernel)
theorem wm_X12_areTwo : Cond.instanceMethod yX12_areTwo ∈ gn_tbl := (gn_mem 931 (by decide +kernel) (by decide +kernel))
theorem wc_X12_back : Cond.code yX12_back cX12_back 7 (some .int) ∈ gn_tbl := gn_mem 977 (by decide +kernel) (by decide +kernel)
theorem wm_X12_back : Cond.instanceMethod yX12_back ∈ gn_tbl := (gn_mem 975 (by decide +kernel) (by decide +kernel))
theorem wc_X12_behind : Cond.code yX12_behind cX12_behind 8 (some .long) ∈ gn_tbl := gn_mem 948 (by decide +kernel) (by decide +kernel)
theorem wm_X12_behind : Cond.instanceMethod yX12_behind ∈ gn_tbl := (gn_mem 946 (by decide +kernel) (by decide +kernel))
theorem wc_X12_blow : Cond.code yX12_blow cX12_blow 6 (some .int) ∈ gn_tbl := gn_mem 904 (by decide +kernel) (by decide +kernel)
theorem wm_X12_blow : Cond.instanceMethod yX12_blow ∈ gn_tbl := (gn_mem 902 (by decide +kernel) (by decide +kernel))
theorem wc_X12_carry : Cond.code yX12_carry cX12_carry 2 (some .int) ∈ gn_tbl := gn_mem 808 (by decide +kernel) (by decide +kernel)
theorem wm_X12_carry : Cond.instanceMethod yX12_carry ∈ gn_tbl := (gn_mem 807 (by decide +kernel) (by decide +kernel))
theorem wc_X12_carryAll : Cond.code yX12_carryAll cX12_carryAll 4 none ∈ gn_tbl := gn_mem 804 (by decide +kernel) (by decide +kernel)
theorem wm_X12_carryAll : Cond.instanceMethod yX12_carryAll ∈ gn_tbl := (gn_mem 803 (by decide +kernel) (by decide +kernel))
theorem wc_X12_close : Cond.code yX12_close cX12_close 1 none ∈ gn_tbl := gn_mem 873 (by decide +kernel) (by decide +kernel)
theorem wm_X12_close : Cond.instanceMethod yX12_close ∈ gn_tbl := (gn_mem 872 (by decide +kernel) (by decide +kernel))
theorem wc_X12_comes : Cond.code yX12_comes cX12_comes 4 (some .boolean) ∈ gn_tbl := gn_mem 861 (by decide +kernel) (by decide +kernel)
theorem wm_X12_comes : Cond.instanceMethod yX12_comes ∈ gn_tbl := (gn_mem 860 (by decide +kernel) (by decide +kernel))
theorem wc_X12_count : Cond.code yX12_count cX12_count 2 (some .int) ∈ gn_tbl := gn_mem 1051 (by decide +kernel) (by decide +kernel)
theorem wm_X12_count : Cond.instanceMethod yX12_count ∈ gn_tbl := (gn_mem 1049 (by decide +kernel) (by decide +kernel))
theorem wc_X12_daysOn : Cond.code yX12_daysOn cX12_daysOn 4 (some .int) ∈ gn_tbl := gn_mem 916 (by decide +kernel) (by decide +kernel)
theorem wm_X12_daysOn : Cond.instanceMethod yX12_daysOn ∈ gn_tbl := (gn_mem 915 (by decide +kernel) (by decide +kernel))
theorem wc_X12_draw : Cond.code yX12_draw cX12_draw 2 (some .int) ∈ gn_tbl := gn_mem 1044 (by decide +kernel) (by decide +kernel)
theorem wm_X12_draw : Cond.instanceMethod yX12_draw ∈ gn_tbl := (gn_mem 1043 (by decide +kernel) (by decide +kernel))
theorem wc_X12_driftAll : Cond.code yX12_driftAll cX12_driftAll 2 none ∈ gn_tbl := gn_mem 920 (by decide +kernel) (by decide +kernel)
theorem wm_X12_driftAll : Cond.instanceMethod yX12_driftAll ∈ gn_tbl := (gn_mem 919 (by decide +kernel) (by decide +kernel))
theorem wc_X12_driftBy : Cond.code yX12_driftBy cX12_driftBy 9 none ∈ gn_tbl := gn_mem 890 (by decide +kernel) (by decide +kernel)
theorem wm_X12_driftBy : Cond.instanceMethod yX12_driftBy ∈ gn_tbl := (gn_mem 889 (by decide +kernel) (by decide +kernel))
theorem wc_X12_driftToday : Cond.code yX12_driftToday cX12_driftToday 5 none ∈ gn_tbl := gn_mem 886 (by decide +kernel) (by decide +kernel)
theorem wm_X12_driftToday : Cond.instanceMethod yX12_driftToday ∈ gn_tbl := (gn_mem 885 (by decide +kernel) (by decide +kernel))
theorem wc_X12_eat : Cond.code yX12_eat cX12_eat 4 (some .int) ∈ gn_tbl := gn_mem 924 (by decide +kernel) (by decide +kernel)
theorem wm_X12_eat : Cond.instanceMethod yX12_eat ∈ gn_tbl := (gn_mem 923 (by decide +kernel) (by decide +kernel))
theorem wc_X12_far : Cond.code yX12_far cX12_far 3 (some .int) ∈ gn_tbl := gn_mem 928 (by decide +kernel) (by decide +kernel)
theorem wm_X12_far : Cond.instanceMethod yX12_far ∈ gn_tbl := (gn_mem 926 (by decide +kernel) (by decide +kernel))
theorem wc_X12_farBetween : Cond.code yX12_farBetween cX12_farBetween 5 (some .int) ∈ gn_tbl := gn_mem 936 (by decide +kernel) (by decide +kernel)
theorem wm_X12_farBetween : Cond.instanceMethod yX12_farBetween ∈ gn_tbl := (gn_mem 935 (by decide +kernel) (by decide +kernel))
theorem wc_X12_feed : Cond.code yX12_feed cX12_feed 2 (some .int) ∈ gn_tbl := gn_mem 820 (by decide +kernel) (by decide +kernel)
theorem wm_X12_feed : Cond.instanceMethod yX12_feed ∈ gn_tbl := (gn_mem 818 (by decide +kernel) (by decide +kernel))
theorem wc_X12_givenUp : Cond.code yX12_givenUp cX12_givenUp 6 (some .int) ∈ gn_tbl := gn_mem 1016 (by decide +kernel) (by decide +kernel)
theorem wm_X12_givenUp : Cond.instanceMethod yX12_givenUp ∈ gn_tbl := (gn_mem 1014 (by decide +kernel) (by decide +kernel))
theorem wc_X12_go : Cond.code yX12_go cX12_go 3 (some .int) ∈ gn_tbl := gn_mem 912 (by decide +kernel) (by decide +kernel)
theorem wm_X12_go : Cond.instanceMethod yX12_go ∈ gn_tbl := (gn_mem 910 (by decide +kernel) (by decide +kernel))
theorem wc_X12_groups : Cond.code yX12_groups cX12_groups 5 (some .int) ∈ gn_tbl := gn_mem 993 (by decide +kernel) (by decide +kernel)
theorem wm_X12_groups : Cond.instanceMethod yX12_groups ∈ gn_tbl := (gn_mem 991 (by decide +kernel) (by decide +kernel))
theorem wc_X12_held : Cond.code yX12_held cX12_held 2 (some .int) ∈ gn_tbl := gn_mem 1012 (by decide +kernel) (by decide +kernel)
theorem wm_X12_held : Cond.static yX12_held ∈ gn_tbl := (gn_mem 1011 (by decide +kernel) (by decide +kernel))
theorem wc_X12_here : Cond.code yX12_here cX12_here 1 (some .int) ∈ gn_tbl := gn_mem 832 (by decide +kernel) (by decide +kernel)
theorem wm_X12_here : Cond.instanceMethod yX12_here ∈ gn_tbl := (gn_mem 831 (by decide +kernel) (by decide +kernel))
theorem wc_X12_home : Cond.code yX12_home cX12_home 15 (some .int) ∈ gn_tbl := gn_mem 1024 (by decide +kernel) (by decide +kernel)
theorem wm_X12_home : Cond.instanceMethod yX12_home ∈ gn_tbl := (gn_mem 1022 (by decide +kernel) (by decide +kernel))
theorem wc_X12_hungry : Cond.code yX12_hungry cX12_hungry 4 (some .int) ∈ gn_tbl := gn_mem 997 (by decide +kernel) (by decide +kernel)
theorem wm_X12_hungry : Cond.instanceMethod yX12_hungry ∈ gn_tbl := (gn_mem 995 (by decide +kernel) (by decide +kernel))
theorem wc_X12_hungryIn : Cond.code yX12_hungryIn cX12_hungryIn 4 (some .int) ∈ gn_tbl := gn_mem 1001 (by decide +kernel) (by decide +kernel)
theorem wm_X12_hungryIn : Cond.instanceMethod yX12_hungryIn ∈ gn_tbl := (gn_mem 1000 (by decide +kernel) (by decide +kernel))
theorem wc_X12_hungryWithout : Cond.code yX12_hungryWithout cX12_hungryWithout 5 (some .int) ∈ gn_tbl := gn_mem 1020 (by decide +kernel) (by decide +kernel)
theorem wm_X12_hungryWithout : Cond.instanceMethod yX12_hungryWithout ∈ gn_tbl := (gn_mem 1019 (by decide +kernel) (by decide +kernel))
theorem wc_X12_image : Cond.code yX12_image cX12_image 1 (some .int) ∈ gn_tbl := gn_mem 800 (by decide +kernel) (by decide +kernel)
theorem wm_X12_image : Cond.instanceMethod yX12_image ∈ gn_tbl := (gn_mem 798 (by decide +kernel) (by decide +kernel))
theorem wc_X12_in : Cond.code yX12_in cX12_in 6 (some .boolean) ∈ gn_tbl := gn_mem 841 (by decide +kernel) (by decide +kernel)
theorem wm_X12_in : Cond.static yX12_in ∈ gn_tbl := (gn_mem 840 (by decide +kernel) (by decide +kernel))
theorem wc_X12_isOpen : Cond.code yX12_isOpen cX12_isOpen 3 (some .boolean) ∈ gn_tbl := gn_mem 973 (by decide +kernel) (by decide +kernel)
theorem wm_X12_isOpen : Cond.instanceMethod yX12_isOpen ∈ gn_tbl := (gn_mem 972 (by decide +kernel) (by decide +kernel))
theorem wc_X12_isShip : Cond.code yX12_isShip cX12_isShip 2 (some .boolean) ∈ gn_tbl := gn_mem 881 (by decide +kernel) (by decide +kernel)
theorem wm_X12_isShip : Cond.instanceMethod yX12_isShip ∈ gn_tbl := (gn_mem 880 (by decide +kernel) (by decide +kernel))
theorem wc_X12_judge : Cond.code yX12_judge cX12_judge 5 (some .int) ∈ gn_tbl := gn_mem 1036 (by decide +kernel) (by decide +kernel)
theorem wm_X12_judge : Cond.instanceMethod yX12_judge ∈ gn_tbl := (gn_mem 1034 (by decide +kernel) (by decide +kernel))
theorem wc_X12_kinds : Cond.code yX12_kinds cX12_kinds 9 (some .int) ∈ gn_tbl := gn_mem 1028 (by decide +kernel) (by decide +kernel)
theorem wm_X12_kinds : Cond.instanceMethod yX12_kinds ∈ gn_tbl := (gn_mem 1026 (by decide +kernel) (by decide +kernel))
theorem wc_X12_know : Cond.code yX12_know cX12_know 6 (some .int) ∈ gn_tbl := gn_mem 985 (by decide +kernel) (by decide +kernel)
theorem wm_X12_know : Cond.instanceMethod yX12_know ∈ gn_tbl := (gn_mem 983 (by decide +kernel) (by decide +kernel))
theorem wc_X12_lasts : Cond.code yX12_lasts cX12_lasts 3 (some .int) ∈ gn_tbl := gn_mem 1005 (by decide +kernel) (by decide +kernel)
theorem wm_X12_lasts : Cond.instanceMethod yX12_lasts ∈ gn_tbl := (gn_mem 1003 (by decide +kernel) (by decide +kernel))
theorem wc_X12_lost : Cond.code yX12_lost cX12_lost 5 (some .int) ∈ gn_tbl := gn_mem 989 (by decide +kernel) (by decide +kernel)
theorem wm_X12_lost : Cond.instanceMethod yX12_lost ∈ gn_tbl := (gn_mem 987 (by decide +kernel) (by decide +kernel))
theorem wc_X12_lots : Cond.code yX12_lots cX12_lots 12 (some .int) ∈ gn_tbl := gn_mem 1040 (by decide +kernel) (by decide +kernel)
theorem wm_X12_lots : Cond.instanceMethod yX12_lots ∈ gn_tbl := (gn_mem 1038 (by decide +kernel) (by decide +kernel))
theorem wc_X12_meet : Cond.code yX12_meet cX12_meet 5 (some .int) ∈ gn_tbl := gn_mem 957 (by decide +kernel) (by decide +kernel)
theorem wm_X12_meet : Cond.instanceMethod yX12_meet ∈ gn_tbl := (gn_mem 955 (by decide +kernel) (by decide +kernel))
theorem wc_X12_nearest : Cond.code yX12_nearest cX12_nearest 10 (some .int) ∈ gn_tbl := gn_mem 961 (by decide +kernel) (by decide +kernel)
theorem wm_X12_nearest : Cond.instanceMethod yX12_nearest ∈ gn_tbl := (gn_mem 959 (by decide +kernel) (by decide +kernel))
theorem wc_X12_news : Cond.code yX12_news cX12_news 6 (some .int) ∈ gn_tbl := gn_mem 981 (by decide +kernel) (by decide +kernel)
theorem wm_X12_news : Cond.instanceMethod yX12_news ∈ gn_tbl := (gn_mem 979 (by decide +kernel) (by decide +kernel))
theorem wc_X12_open : Cond.code yX12_open cX12_open 4 (some .int) ∈ gn_tbl := gn_mem 943 (by decide +kernel) (by decide +kernel)
theorem wm_X12_open : Cond.instanceMethod yX12_open ∈ gn_tbl := (gn_mem 941 (by decide +kernel) (by decide +kernel))
theorem wc_X12_open0 : Cond.code yX12_open0 cX12_open0 1 none ∈ gn_tbl := gn_mem 857 (by decide +kernel) (by decide +kernel)
theorem wm_X12_open0 : Cond.instanceMethod yX12_open0 ∈ gn_tbl := (gn_mem 856 (by decide +kernel) (by decide +kernel))
theorem wc_X12_openLeads : Cond.code yX12_openLeads cX12_openLeads 4 (some .int) ∈ gn_tbl := gn_mem 1059 (by decide +kernel) (by decide +kernel)
theorem wm_X12_openLeads : Cond.instanceMethod yX12_openLeads ∈ gn_tbl := (gn_mem 1058 (by decide +kernel) (by decide +kernel))
theorem wc_X12_pack : Cond.code yX12_pack cX12_pack 2 (some .int) ∈ gn_tbl := gn_mem 824 (by decide +kernel) (by decide +kernel)
theorem wm_X12_pack : Cond.instanceMethod yX12_pack ∈ gn_tbl := (gn_mem 822 (by decide +kernel) (by decide +kernel))
theorem wc_X12_reachOn : Cond.code yX12_reachOn cX12_reachOn 5 (some .int) ∈ gn_tbl := gn_mem 969 (by decide +kernel) (by decide +kernel)
theorem wm_X12_reachOn : Cond.instanceMethod yX12_reachOn ∈ gn_tbl := (gn_mem 968 (by decide +kernel) (by decide +kernel))
theorem wc_X12_readComma : Cond.code yX12_readComma cX12_readComma 1 none ∈ gn_tbl := gn_mem 849 (by decide +kernel) (by decide +kernel)
theorem wm_X12_readComma : Cond.instanceMethod yX12_readComma ∈ gn_tbl := (gn_mem 848 (by decide +kernel) (by decide +kernel))
theorem wc_X12_readDigit : Cond.code yX12_readDigit cX12_readDigit 1 (some .int) ∈ gn_tbl := gn_mem 836 (by decide +kernel) (by decide +kernel)
theorem wm_X12_readDigit : Cond.instanceMethod yX12_readDigit ∈ gn_tbl := (gn_mem 835 (by decide +kernel) (by decide +kernel))
theorem wc_X12_readNumber : Cond.code yX12_readNumber cX12_readNumber 4 (some .int) ∈ gn_tbl := gn_mem 845 (by decide +kernel) (by decide +kernel)
theorem wm_X12_readNumber : Cond.instanceMethod yX12_readNumber ∈ gn_tbl := (gn_mem 844 (by decide +kernel) (by decide +kernel))
theorem wc_X12_readSigned : Cond.code yX12_readSigned cX12_readSigned 4 (some .int) ∈ gn_tbl := gn_mem 853 (by decide +kernel) (by decide +kernel)
theorem wm_X12_readSigned : Cond.instanceMethod yX12_readSigned ∈ gn_tbl := (gn_mem 852 (by decide +kernel) (by decide +kernel))
theorem wc_X12_readStatement : Cond.code yX12_readStatement cX12_readStatement 4 none ∈ gn_tbl := gn_mem 828 (by decide +kernel) (by decide +kernel)
theorem wm_X12_readStatement : Cond.instanceMethod yX12_readStatement ∈ gn_tbl := (gn_mem 827 (by decide +kernel) (by decide +kernel))
theorem wc_X12_refuse : Cond.code yX12_refuse cX12_refuse 2 (some .int) ∈ gn_tbl := gn_mem 816 (by decide +kernel) (by decide +kernel)
theorem wm_X12_refuse : Cond.instanceMethod yX12_refuse ∈ gn_tbl := (gn_mem 815 (by decide +kernel) (by decide +kernel))
theorem wc_X12_restore : Cond.code yX12_restore cX12_restore 1 (some .int) ∈ gn_tbl := gn_mem 812 (by decide +kernel) (by decide +kernel)
theorem wm_X12_restore : Cond.instanceMethod yX12_restore ∈ gn_tbl := (gn_mem 810 (by decide +kernel) (by decide +kernel))
theorem wc_X12_row : Cond.code yX12_row cX12_row 2 (some .int) ∈ gn_tbl := gn_mem 1032 (by decide +kernel) (by decide +kernel)
theorem wm_X12_row : Cond.instanceMethod yX12_row ∈ gn_tbl := (gn_mem 1030 (by decide +kernel) (by decide +kernel))
theorem wc_X12_set : Cond.code yX12_set cX12_set 5 (some .int) ∈ gn_tbl := gn_mem 908 (by decide +kernel) (by decide +kernel)
theorem wm_X12_set : Cond.instanceMethod yX12_set ∈ gn_tbl := (gn_mem 906 (by decide +kernel) (by decide +kernel))
theorem wc_X12_share : Cond.code yX12_share cX12_share 8 (some .int) ∈ gn_tbl := gn_mem 1009 (by decide +kernel) (by decide +kernel)
theorem wm_X12_share : Cond.instanceMethod yX12_share ∈ gn_tbl := (gn_mem 1007 (by decide +kernel) (by decide +kernel))
theorem wc_X12_ship : Cond.code yX12_ship cX12_ship 3 (some .int) ∈ gn_tbl := gn_mem 877 (by decide +kernel) (by decide +kernel)
theorem wm_X12_ship : Cond.instanceMethod yX12_ship ∈ gn_tbl := (gn_mem 875 (by decide +kernel) (by decide +kernel))
theorem wc_X12_shipComes : Cond.code yX12_shipComes cX12_shipComes 2 (some .boolean) ∈ gn_tbl := gn_mem 865 (by decide +kernel) (by decide +kernel)
theorem wm_X12_shipComes : Cond.instanceMethod yX12_shipComes ∈ gn_tbl := (gn_mem 864 (by decide +kernel) (by decide +kernel))
theorem wc_X12_sumOf : Cond.code yX12_sumOf cX12_sumOf 4 (some .int) ∈ gn_tbl := gn_mem 1055 (by decide +kernel) (by decide +kernel)
theorem wm_X12_sumOf : Cond.instanceMethod yX12_sumOf ∈ gn_tbl := (gn_mem 1054 (by decide +kernel) (by decide +kernel))
theorem wc_X12_there : Cond.code yX12_there cX12_there 6 (some .int) ∈ gn_tbl := gn_mem 965 (by decide +kernel) (by decide +kernel)
theorem wm_X12_there : Cond.instanceMethod yX12_there ∈ gn_tbl := (gn_mem 963 (by decide +kernel) (by decide +kernel))
theorem wc_X12_wind : Cond.code yX12_wind cX12_wind 2 (some .int) ∈ gn_tbl := gn_mem 895 (by decide +kernel) (by decide +kernel)
theorem wm_X12_wind : Cond.instanceMethod yX12_wind ∈ gn_tbl := (gn_mem 893 (by decide +kernel) (by decide +kernel))
theorem wc_X12_windTold : Cond.code yX12_windTold cX12_windTold 2 (some .int) ∈ gn_tbl := gn_mem 900 (by decide +kernel) (by decide +kernel)
theorem wm_X12_windTold : Cond.instanceMethod yX12_windTold ∈ gn_tbl := (gn_mem 899 (by decide +kernel) (by decide +kernel))
theorem wc_X12_wrongDays : Cond.code yX12_wrongDays cX12_wrongDays 2 (some .int) ∈ gn_tbl := gn_mem 951 (by decide +kernel) (by decide +kernel)
theorem wm_X12_wrongDays : Cond.static yX12_wrongDays ∈ gn_tbl := (gn_mem 950 (by decide +kernel) (by decide +kernel))
theorem wc_X1_eastward : Cond.code yX1_eastward cX1_eastward 3 (some .int) ∈ gn_tbl := gn_mem 435 (by decide +kernel) (by decide +kernel)
theorem wm_X1_eastward : Cond.instanceMethod yX1_eastward ∈ gn_tbl := (gn_mem 405 (by decide +kernel) (by decide +kernel))
theorem wc_X1_northward : Cond.code yX1_northward cX1_northward 3 (some .int) ∈ gn_tbl := gn_mem 433 (by decide +kernel) (by decide +kernel)
theorem wm_X1_northward : Cond.instanceMethod yX1_northward ∈ gn_tbl := (gn_mem 432 (by decide +kernel) (by decide +kernel))
theorem wc_X2_sign : Cond.code yX2_sign cX2_sign 1 (some .int) ∈ gn_tbl := gn_mem 417 (by decide +kernel) (by decide +kernel)
theorem wm_X2_sign : Cond.static yX2_sign ∈ gn_tbl := (gn_mem 416 (by decide +kernel) (by decide +kernel))
theorem wc_X3_eastward : Cond.code yX3_eastward cX3_eastward 3 (some .int) ∈ gn_tbl := gn_mem 413 (by decide +kernel) (by decide +kernel)
theorem wm_X3_eastward : Cond.instanceMethod yX3_eastward ∈ gn_tbl := (gn_mem 412 (by decide +kernel) (by decide +kernel))
theorem wc_X4_airOf : Cond.code yX4_airOf cX4_airOf 5 none ∈ gn_tbl := gn_mem 400 (by decide +kernel) (by decide +kernel)
theorem wm_X4_airOf : Cond.instanceMethod yX4_airOf ∈ gn_tbl := (gn_mem 398 (by decide +kernel) (by decide +kernel))
theorem wc_X4_allBread : Cond.code yX4_allBread cX4_allBread 3 (some .int) ∈ gn_tbl := gn_mem 683 (by decide +kernel) (by decide +kernel)
theorem wm_X4_allBread : Cond.instanceMethod yX4_allBread ∈ gn_tbl := (gn_mem 681 (by decide +kernel) (by decide +kernel))
theorem wc_X4_allCrews : Cond.code yX4_allCrews cX4_allCrews 3 (some .int) ∈ gn_tbl := gn_mem 687 (by decide +kernel) (by decide +kernel)
theorem wm_X4_allCrews : Cond.instanceMethod yX4_allCrews ∈ gn_tbl := (gn_mem 685 (by decide +kernel) (by decide +kernel))
theorem wc_X4_allShips : Cond.code yX4_allShips cX4_allShips 1 (some .int) ∈ gn_tbl := gn_mem 560 (by decide +kernel) (by decide +kernel)
theorem wm_X4_allShips : Cond.instanceMethod yX4_allShips ∈ gn_tbl := (gn_mem 558 (by decide +kernel) (by decide +kernel))
theorem wc_X4_copyFrom : Cond.code yX4_copyFrom cX4_copyFrom 3 none ∈ gn_tbl := gn_mem 322 (by decide +kernel) (by decide +kernel)
theorem wm_X4_copyFrom : Cond.instanceMethod yX4_copyFrom ∈ gn_tbl := (gn_mem 320 (by decide +kernel) (by decide +kernel))
theorem wc_X4_gap : Cond.code yX4_gap cX4_gap 3 (some .int) ∈ gn_tbl := gn_mem 509 (by decide +kernel) (by decide +kernel)
theorem wm_X4_gap : Cond.instanceMethod yX4_gap ∈ gn_tbl := (gn_mem 507 (by decide +kernel) (by decide +kernel))
theorem wc_X4_gapToPlace : Cond.code yX4_gapToPlace cX4_gapToPlace 4 (some .int) ∈ gn_tbl := gn_mem 513 (by decide +kernel) (by decide +kernel)
theorem wm_X4_gapToPlace : Cond.instanceMethod yX4_gapToPlace ∈ gn_tbl := (gn_mem 511 (by decide +kernel) (by decide +kernel))
theorem wc_X4_giveUp : Cond.code yX4_giveUp cX4_giveUp 5 none ∈ gn_tbl := gn_mem 612 (by decide +kernel) (by decide +kernel)
theorem wm_X4_giveUp : Cond.instanceMethod yX4_giveUp ∈ gn_tbl := (gn_mem 610 (by decide +kernel) (by decide +kernel))
theorem wc_X4_groupOf : Cond.code yX4_groupOf cX4_groupOf 4 (some .int) ∈ gn_tbl := gn_mem 580 (by decide +kernel) (by decide +kernel)
theorem wm_X4_groupOf : Cond.instanceMethod yX4_groupOf ∈ gn_tbl := (gn_mem 578 (by decide +kernel) (by decide +kernel))
theorem wc_X4_has : Cond.code yX4_has cX4_has 2 (some .boolean) ∈ gn_tbl := gn_mem 385 (by decide +kernel) (by decide +kernel)
theorem wm_X4_has : Cond.instanceMethod yX4_has ∈ gn_tbl := (gn_mem 383 (by decide +kernel) (by decide +kernel))
theorem wc_X4_hungerToCome : Cond.code yX4_hungerToCome cX4_hungerToCome 4 (some .int) ∈ gn_tbl := gn_mem 589 (by decide +kernel) (by decide +kernel)
theorem wm_X4_hungerToCome : Cond.instanceMethod yX4_hungerToCome ∈ gn_tbl := (gn_mem 587 (by decide +kernel) (by decide +kernel))
theorem wc_X4_isSeen : Cond.code yX4_isSeen cX4_isSeen 3 (some .boolean) ∈ gn_tbl := gn_mem 572 (by decide +kernel) (by decide +kernel)
theorem wm_X4_isSeen : Cond.instanceMethod yX4_isSeen ∈ gn_tbl := (gn_mem 570 (by decide +kernel) (by decide +kernel))
theorem wc_X4_nearestTo : Cond.code yX4_nearestTo cX4_nearestTo 6 (some .int) ∈ gn_tbl := gn_mem 616 (by decide +kernel) (by decide +kernel)
theorem wm_X4_nearestTo : Cond.instanceMethod yX4_nearestTo ∈ gn_tbl := (gn_mem 614 (by decide +kernel) (by decide +kernel))
theorem wc_X4_oneLeadOn : Cond.code yX4_oneLeadOn cX4_oneLeadOn 5 (some .int) ∈ gn_tbl := gn_mem 547 (by decide +kernel) (by decide +kernel)
theorem wm_X4_oneLeadOn : Cond.instanceMethod yX4_oneLeadOn ∈ gn_tbl := (gn_mem 545 (by decide +kernel) (by decide +kernel))
theorem wc_X4_pairsWithin : Cond.code yX4_pairsWithin cX4_pairsWithin 5 (some .int) ∈ gn_tbl := gn_mem 667 (by decide +kernel) (by decide +kernel)
theorem wm_X4_pairsWithin : Cond.instanceMethod yX4_pairsWithin ∈ gn_tbl := (gn_mem 665 (by decide +kernel) (by decide +kernel))
theorem wc_X4_passDay : Cond.code yX4_passDay cX4_passDay 7 (some .int) ∈ gn_tbl := gn_mem 490 (by decide +kernel) (by decide +kernel)
theorem wm_X4_passDay : Cond.instanceMethod yX4_passDay ∈ gn_tbl := (gn_mem 488 (by decide +kernel) (by decide +kernel))
theorem wc_X6_add : Cond.code yX6_add cX6_add 2 none ∈ gn_tbl := gn_mem 314 (by decide +kernel) (by decide +kernel)
theorem wm_X6_add : Cond.instanceMethod yX6_add ∈ gn_tbl := (gn_mem 312 (by decide +kernel) (by decide +kernel))
theorem wc_X6_isDigitNext : Cond.code yX6_isDigitNext cX6_isDigitNext 1 (some .boolean) ∈ gn_tbl := gn_mem 350 (by decide +kernel) (by decide +kernel)
theorem wm_X6_isDigitNext : Cond.instanceMethod yX6_isDigitNext ∈ gn_tbl := (gn_mem 349 (by decide +kernel) (by decide +kernel))
theorem wc_X6_need : Cond.code yX6_need cX6_need 2 none ∈ gn_tbl := gn_mem 354 (by decide +kernel) (by decide +kernel)
theorem wm_X6_need : Cond.instanceMethod yX6_need ∈ gn_tbl := (gn_mem 353 (by decide +kernel) (by decide +kernel))
theorem wc_X6_readInto : Cond.code yX6_readInto cX6_readInto 6 (some .int) ∈ gn_tbl := gn_mem 330 (by decide +kernel) (by decide +kernel)
theorem wm_X6_readInto : Cond.instanceMethod yX6_readInto ∈ gn_tbl := (gn_mem 328 (by decide +kernel) (by decide +kernel))
theorem wc_X6_readNumber : Cond.code yX6_readNumber cX6_readNumber 4 (some .int) ∈ gn_tbl := gn_mem 346 (by decide +kernel) (by decide +kernel)
theorem wm_X6_readNumber : Cond.instanceMethod yX6_readNumber ∈ gn_tbl := (gn_mem 345 (by decide +kernel) (by decide +kernel))
theorem wc_X6_readReach : Cond.code yX6_readReach cX6_readReach 2 (some .boolean) ∈ gn_tbl := gn_mem 369 (by decide +kernel) (by decide +kernel)
theorem wm_X6_readReach : Cond.instanceMethod yX6_readReach ∈ gn_tbl := (gn_mem 368 (by decide +kernel) (by decide +kernel))
theorem wc_X6_readShip : Cond.code yX6_readShip cX6_readShip 9 (some .boolean) ∈ gn_tbl := gn_mem 342 (by decide +kernel) (by decide +kernel)
theorem wm_X6_readShip : Cond.instanceMethod yX6_readShip ∈ gn_tbl := (gn_mem 341 (by decide +kernel) (by decide +kernel))
theorem wc_X6_readSight : Cond.code yX6_readSight cX6_readSight 2 (some .boolean) ∈ gn_tbl := gn_mem 373 (by decide +kernel) (by decide +kernel)
theorem wm_X6_readSight : Cond.instanceMethod yX6_readSight ∈ gn_tbl := (gn_mem 372 (by decide +kernel) (by decide +kernel))
theorem wc_X6_readSigned : Cond.code yX6_readSigned cX6_readSigned 2 (some .int) ∈ gn_tbl := gn_mem 358 (by decide +kernel) (by decide +kernel)
theorem wm_X6_readSigned : Cond.instanceMethod yX6_readSigned ∈ gn_tbl := (gn_mem 357 (by decide +kernel) (by decide +kernel))
theorem wc_X6_readStatement : Cond.code yX6_readStatement cX6_readStatement 3 (some .boolean) ∈ gn_tbl := gn_mem 334 (by decide +kernel) (by decide +kernel)
theorem wm_X6_readStatement : Cond.instanceMethod yX6_readStatement ∈ gn_tbl := (gn_mem 333 (by decide +kernel) (by decide +kernel))
theorem wc_X6_readWind : Cond.code yX6_readWind cX6_readWind 5 (some .boolean) ∈ gn_tbl := gn_mem 362 (by decide +kernel) (by decide +kernel)
theorem wm_X6_readWind : Cond.instanceMethod yX6_readWind ∈ gn_tbl := (gn_mem 361 (by decide +kernel) (by decide +kernel))
theorem wc_X6_take : Cond.code yX6_take cX6_take 3 (some .boolean) ∈ gn_tbl := gn_mem 338 (by decide +kernel) (by decide +kernel)
theorem wm_X6_take : Cond.instanceMethod yX6_take ∈ gn_tbl := (gn_mem 337 (by decide +kernel) (by decide +kernel))
theorem wc_X7_drawBelow : Cond.code yX7_drawBelow cX7_drawBelow 2 (some .int) ∈ gn_tbl := gn_mem 660 (by decide +kernel) (by decide +kernel)
theorem wm_X7_drawBelow : Cond.instanceMethod yX7_drawBelow ∈ gn_tbl := (gn_mem 658 (by decide +kernel) (by decide +kernel))
theorem wc_X8_copyFrom : Cond.code yX8_copyFrom cX8_copyFrom 2 none ∈ gn_tbl := gn_mem 326 (by decide +kernel) (by decide +kernel)
theorem wm_X8_copyFrom : Cond.instanceMethod yX8_copyFrom ∈ gn_tbl := (gn_mem 324 (by decide +kernel) (by decide +kernel))
theorem wc_X8_eat : Cond.code yX8_eat cX8_eat 2 (some .int) ∈ gn_tbl := gn_mem 496 (by decide +kernel) (by decide +kernel)
theorem wm_X8_eat : Cond.instanceMethod yX8_eat ∈ gn_tbl := (gn_mem 494 (by decide +kernel) (by decide +kernel))
theorem wc_X9_way : Cond.code yX9_way cX9_way 3 (some .int) ∈ gn_tbl := gn_mem 427 (by decide +kernel) (by decide +kernel)
theorem wm_X9_way : Cond.static yX9_way ∈ gn_tbl := (gn_mem 426 (by decide +kernel) (by decide +kernel))
theorem wc_X2_eastward : Cond.code yX2_eastward cX2_eastward 3 (some .int) ∈ gn_tbl := gn_mem 410 (by decide +kernel) (by decide +kernel)
theorem wm_X2_eastward : Cond.instanceMethod yX2_eastward ∈ gn_tbl := (gn_mem 409 (by decide +kernel) (by decide +kernel))
theorem wc_X3_northward : Cond.code yX3_northward cX3_northward 3 (some .int) ∈ gn_tbl := gn_mem 438 (by decide +kernel) (by decide +kernel)
theorem wm_X3_northward : Cond.instanceMethod yX3_northward ∈ gn_tbl := (gn_mem 437 (by decide +kernel) (by decide +kernel))
theorem wc_X5_eastward : Cond.code yX5_eastward cX5_eastward 3 (some .int) ∈ gn_tbl := gn_mem 421 (by decide +kernel) (by decide +kernel)
theorem wm_X5_eastward : Cond.instanceMethod yX5_eastward ∈ gn_tbl := (gn_mem 420 (by decide +kernel) (by decide +kernel))
theorem wc_X5_northward : Cond.code yX5_northward cX5_northward 3 (some .int) ∈ gn_tbl := gn_mem 441 (by decide +kernel) (by decide +kernel)
theorem wm_X5_northward : Cond.instanceMethod yX5_northward ∈ gn_tbl := (gn_mem 440 (by decide +kernel) (by decide +kernel))
theorem wc_X9_eastward : Cond.code yX9_eastward cX9_eastward 3 (some .int) ∈ gn_tbl := gn_mem 424 (by decide +kernel) (by decide +kernel)
theorem wm_X9_eastward : Cond.instanceMethod yX9_eastward ∈ gn_tbl := (gn_mem 423 (by decide +kernel) (by decide +kernel))
theorem wc_X9_northward : Cond.code yX9_northward cX9_northward 3 (some .int) ∈ gn_tbl := gn_mem 443 (by decide +kernel) (by decide +kernel)
theorem wm_X9_northward : Cond.instanceMethod yX9_northward ∈ gn_tbl := (gn_mem 442 (by decide +kernel) (by decide +kernel))
theorem rc_0 {i : Nat} (hi : i < gk_cnt 0) : gk_Rc 0 i RX0 := ⟨hi, fun T ρ M => ⟨0, _, _, rfl, rfl, rfl⟩⟩
theorem rc_2 {i : Nat} (hi : i < gk_cnt 2) : gk_Rc 2 i RX4 := ⟨hi, fun T ρ M => ⟨4, _, _, rfl, rfl, rfl⟩⟩
theorem rc_3 {i : Nat} (hi : i < gk_cnt 3) : gk_Rc 3 i RX6 := ⟨hi, fun T ρ M => ⟨6, _, _, rfl, rfl, rfl⟩⟩
theorem rc_4 {i : Nat} (hi : i < gk_cnt 4) : gk_Rc 4 i RX7 := ⟨hi, fun T ρ M => ⟨7, _, _, rfl, rfl, rfl⟩⟩
theorem rc_5 {i : Nat} (hi : i < gk_cnt 5) : gk_Rc 5 i RX8 := ⟨hi, fun T ρ M => ⟨8, _, _, rfl, rfl, rfl⟩⟩
theorem rc_6 {i : Nat} (hi : i < gk_cnt 6) : gk_Rc 6 i RX11 := ⟨hi, fun T ρ M => ⟨11, _, _, rfl, rfl, rfl⟩⟩
theorem rc_14 {i : Nat} (hi : i < gk_cnt 14) : gk_Rc 14 i RX12 := ⟨hi, fun T ρ M => ⟨12, _, _, rfl, rfl, rfl⟩⟩
def gk_drN : Nat → String
  | 0 => RX1
  | 1 => RX3
  | 2 => RX10
  | 3 => RX5
  | 4 => RX9
  | 5 => RX2
  | _ => ""
theorem rc_1 {i : Nat} (hi : i < gk_cnt 1) : gk_Rc 1 i (gk_drN i) := by
  refine ⟨hi, fun T ρ M => ?_⟩
  have h6 : i < 6 := hi
  match i, h6 with
  | 0, _ => exact ⟨1, _, _, rfl, rfl, rfl⟩
  | 1, _ => exact ⟨3, _, _, rfl, rfl, rfl⟩
  | 2, _ => exact ⟨10, _, _, rfl, rfl, rfl⟩
  | 3, _ => exact ⟨5, _, _, rfl, rfl, rfl⟩
  | 4, _ => exact ⟨9, _, _, rfl, rfl, rfl⟩
  | 5, _ => exact ⟨2, _, _, rfl, rfl, rfl⟩
theorem cr_L_13 {i : Nat} (hi : i < gk_cnt 6) {As : List gk_V} (hn : As.length = 1) : gk_Run RL (.invokevirtual 13) yX11_feed cX11_feed 2 (some .int) (gk_R 6 i :: As) := gk_runV wc_X11_feed (gn_mem 303 (by decide +kernel) (by decide +kernel)) wm_X11_feed (gn_mem 305 (by decide +kernel) (by decide +kernel)) wi_X11 ⟨rfl, by decide +kernel, by decide +kernel, by decide +kernel⟩ (rc_6 hi) hn
theorem cr_L_17 {i : Nat} (hi : i < gk_cnt 14) {As : List gk_V} (hn : As.length = 1) : gk_Run RL (.invokevirtual 17) yX12_feed cX12_feed 2 (some .int) (gk_R 14 i :: As) := gk_runV wc_X12_feed (gn_mem 817 (by decide +kernel) (by decide +kernel)) wm_X12_feed (gn_mem 819 (by decide +kernel) (by decide +kernel)) wi_X12 ⟨rfl, by decide +kernel, by decide +kernel, by decide +kernel⟩ (rc_14 hi) hn
theorem cr_L_18 {i : Nat} (hi : i < gk_cnt 6) {As : List gk_V} (hn : As.length = 0) : gk_Run RL (.invokevirtual 18) yX11_pack cX11_pack 2 (some .int) (gk_R 6 i :: As) := gk_runV wc_X11_pack (gn_mem 315 (by decide +kernel) (by decide +kernel)) wm_X11_pack (gn_mem 317 (by decide +kernel) (by decide +kernel)) wi_X11 ⟨rfl, by decide +kernel, by decide +kernel, by decide +kernel⟩ (rc_6 hi) hn
theorem cr_L_22 {i : Nat} (hi : i < gk_cnt 14) {As : List gk_V} (hn : As.length = 0) : gk_Run RL (.invokevirtual 22) yX12_pack cX12_pack 2 (some .int) (gk_R 14 i :: As) := gk_runV wc_X12_pack (gn_mem 821 (by decide +kernel) (by decide +kernel)) wm_X12_pack (gn_mem 823 (by decide +kernel) (by decide +kernel)) wi_X12 ⟨rfl, by decide +kernel, by decide +kernel, by decide +kernel⟩ (rc_14 hi) hn
theorem cr_L_23 {i : Nat} (hi : i < gk_cnt 6) {As : List gk_V} (hn : As.length = 2) : gk_Run RL (.invokevirtual 23) yX11_ship cX11_ship 5 (some .int) (gk_R 6 i :: As) := gk_runV wc_X11_ship (gn_mem 374 (by decide +kernel) (by decide +kernel)) wm_X11_ship (gn_mem 376 (by decide +kernel) (by decide +kernel)) wi_X11 ⟨rfl, by decide +kernel, by decide +kernel, by decide +kernel⟩ (rc_6 hi) hn
theorem cr_L_27 {i : Nat} (hi : i < gk_cnt 14) {As : List gk_V} (hn : As.length = 2) : gk_Run RL (.invokevirtual 27) yX12_ship cX12_ship 3 (some .int) (gk_R 14 i :: As) := gk_runV wc_X12_ship (gn_mem 874 (by decide +kernel) (by decide +kernel)) wm_X12_ship (gn_mem 876 (by decide +kernel) (by decide +kernel)) wi_X12 ⟨rfl, by decide +kernel, by decide +kernel, by decide +kernel⟩ (rc_14 hi) hn
theorem cr_L_28 {i : Nat} (hi : i < gk_cnt 6) {As : List gk_V} (hn : As.length = 1) : gk_Run RL (.invokevirtual 28) yX11_wind cX11_wind 2 (some .int) (gk_R 6 i :: As) := gk_runV wc_X11_wind (gn_mem 448 (by decide +kernel) (by decide +kernel)) wm_X11_wind (gn_mem 450 (by decide +kernel) (by decide +kernel)) wi_X11 ⟨rfl, by decide +kernel, by decide +kernel, by decide +kernel⟩ (rc_6 hi) hn
theorem cr_L_31 {i : Nat} (hi : i < gk_cnt 14) {As : List gk_V} (hn : As.length = 1) : gk_Run RL (.invokevirtual 31) yX12_wind cX12_wind 2 (some .int) (gk_R 14 i :: As) := gk_runV wc_X12_wind (gn_mem 892 (by decide +kernel) (by decide +kernel)) wm_X12_wind (gn_mem 894 (by decide +kernel) (by decide +kernel)) wi_X12 ⟨rfl, by decide +kernel, by decide +kernel, by decide +kernel⟩ (rc_14 hi) hn
theorem cr_L_32 {i : Nat} (hi : i < gk_cnt 6) {As : List gk_V} (hn : As.length = 3) : gk_Run RL (.invokevirtual 32) yX11_blow cX11_blow 6 (some .int) (gk_R 6 i :: As) := gk_runV wc_X11_blow (gn_mem 459 (by decide +kernel) (by decide +kernel)) wm_X11_blow (gn_mem 461 (by decide +kernel) (by decide +kernel)) wi_X11 ⟨rfl, by decide +kernel, by decide +kernel, by decide +kernel⟩ (rc_6 hi) hn
theorem cr_L_36 {i : Nat} (hi : i < gk_cnt 14) {As : List gk_V} (hn : As.length = 3) : gk_Run RL (.invokevirtual 36) yX12_blow cX12_blow 6 (some .int) (gk_R 14 i :: As) := gk_runV wc_X12_blow (gn_mem 901 (by decide +kernel) (by decide +kernel)) wm_X12_blow (gn_mem 903 (by decide +kernel) (by decide +kernel)) wi_X12 ⟨rfl, by decide +kernel, by decide +kernel, by decide +kernel⟩ (rc_14 hi) hn
theorem cr_L_37 {i : Nat} (hi : i < gk_cnt 6) {As : List gk_V} (hn : As.length = 2) : gk_Run RL (.invokevirtual 37) yX11_set cX11_set 6 (some .int) (gk_R 6 i :: As) := gk_runV wc_X11_set (gn_mem 472 (by decide +kernel) (by decide +kernel)) wm_X11_set (gn_mem 474 (by decide +kernel) (by decide +kernel)) wi_X11 ⟨rfl, by decide +kernel, by decide +kernel, by decide +kernel⟩ (rc_6 hi) hn
theorem cr_L_40 {i : Nat} (hi : i < gk_cnt 14) {As : List gk_V} (hn : As.length = 2) : gk_Run RL (.invokevirtual 40) yX12_set cX12_set 5 (some .int) (gk_R 14 i :: As) := gk_runV wc_X12_set (gn_mem 905 (by decide +kernel) (by decide +kernel)) wm_X12_set (gn_mem 907 (by decide +kernel) (by decide +kernel)) wi_X12 ⟨rfl, by decide +kernel, by decide +kernel, by decide +kernel⟩ (rc_14 hi) hn
theorem cr_L_41 {i : Nat} (hi : i < gk_cnt 6) {As : List gk_V} (hn : As.length = 1) : gk_Run RL (.invokevirtual 41) yX11_go cX11_go 5 (some .int) (gk_R 6 i :: As) := gk_runV wc_X11_go (gn_mem 476 (by decide +kernel) (by decide +kernel)) wm_X11_go (gn_mem 478 (by decide +kernel) (by decide +kernel)) wi_X11 ⟨rfl, by decide +kernel, by decide +kernel, by decide +kernel⟩ (rc_6 hi) hn
theorem cr_L_44 {i : Nat} (hi : i < gk_cnt 14) {As : List gk_V} (hn : As.length = 1) : gk_Run RL (.invokevirtual 44) yX12_go cX12_go 3 (some .int) (gk_R 14 i :: As) := gk_runV wc_X12_go (gn_mem 909 (by decide +kernel) (by decide +kernel)) wm_X12_go (gn_mem 911 (by decide +kernel) (by decide +kernel)) wi_X12 ⟨rfl, by decide +kernel, by decide +kernel, by decide +kernel⟩ (rc_14 hi) hn
theorem cr_L_45 {i : Nat} (hi : i < gk_cnt 6) {As : List gk_V} (hn : As.length = 2) : gk_Run RL (.invokevirtual 45) yX11_far cX11_far 4 (some .int) (gk_R 6 i :: As) := gk_runV wc_X11_far (gn_mem 498 (by decide +kernel) (by decide +kernel)) wm_X11_far (gn_mem 500 (by decide +kernel) (by decide +kernel)) wi_X11 ⟨rfl, by decide +kernel, by decide +kernel, by decide +kernel⟩ (rc_6 hi) hn
theorem cr_L_48 {i : Nat} (hi : i < gk_cnt 14) {As : List gk_V} (hn : As.length = 2) : gk_Run RL (.invokevirtual 48) yX12_far cX12_far 3 (some .int) (gk_R 14 i :: As) := gk_runV wc_X12_far (gn_mem 925 (by decide +kernel) (by decide +kernel)) wm_X12_far (gn_mem 927 (by decide +kernel) (by decide +kernel)) wi_X12 ⟨rfl, by decide +kernel, by decide +kernel, by decide +kernel⟩ (rc_14 hi) hn
theorem cr_L_49 {i : Nat} (hi : i < gk_cnt 6) {As : List gk_V} (hn : As.length = 3) : gk_Run RL (.invokevirtual 49) yX11_open cX11_open 6 (some .int) (gk_R 6 i :: As) := gk_runV wc_X11_open (gn_mem 518 (by decide +kernel) (by decide +kernel)) wm_X11_open (gn_mem 520 (by decide +kernel) (by decide +kernel)) wi_X11 ⟨rfl, by decide +kernel, by decide +kernel, by decide +kernel⟩ (rc_6 hi) hn
theorem cr_L_52 {i : Nat} (hi : i < gk_cnt 14) {As : List gk_V} (hn : As.length = 3) : gk_Run RL (.invokevirtual 52) yX12_open cX12_open 4 (some .int) (gk_R 14 i :: As) := gk_runV wc_X12_open (gn_mem 940 (by decide +kernel) (by decide +kernel)) wm_X12_open (gn_mem 942 (by decide +kernel) (by decide +kernel)) wi_X12 ⟨rfl, by decide +kernel, by decide +kernel, by decide +kernel⟩ (rc_14 hi) hn
theorem cr_L_53 {i : Nat} (hi : i < gk_cnt 6) {As : List gk_V} (hn : As.length = 2) : gk_Run RL (.invokevirtual 53) yX11_behind cX11_behind 8 (some .long) (gk_R 6 i :: As) := gk_runV wc_X11_behind (gn_mem 522 (by decide +kernel) (by decide +kernel)) wm_X11_behind (gn_mem 524 (by decide +kernel) (by decide +kernel)) wi_X11 ⟨rfl, by decide +kernel, by decide +kernel, by decide +kernel⟩ (rc_6 hi) hn
theorem cr_L_57 {i : Nat} (hi : i < gk_cnt 14) {As : List gk_V} (hn : As.length = 2) : gk_Run RL (.invokevirtual 57) yX12_behind cX12_behind 8 (some .long) (gk_R 14 i :: As) := gk_runV wc_X12_behind (gn_mem 945 (by decide +kernel) (by decide +kernel)) wm_X12_behind (gn_mem 947 (by decide +kernel) (by decide +kernel)) wi_X12 ⟨rfl, by decide +kernel, by decide +kernel, by decide +kernel⟩ (rc_14 hi) hn
theorem cr_L_58 {i : Nat} (hi : i < gk_cnt 6) {As : List gk_V} (hn : As.length = 2) : gk_Run RL (.invokevirtual 58) yX11_meet cX11_meet 5 (some .int) (gk_R 6 i :: As) := gk_runV wc_X11_meet (gn_mem 528 (by decide +kernel) (by decide +kernel)) wm_X11_meet (gn_mem 530 (by decide +kernel) (by decide +kernel)) wi_X11 ⟨rfl, by decide +kernel, by decide +kernel, by decide +kernel⟩ (rc_6 hi) hn
theorem cr_L_61 {i : Nat} (hi : i < gk_cnt 14) {As : List gk_V} (hn : As.length = 2) : gk_Run RL (.invokevirtual 61) yX12_meet cX12_meet 5 (some .int) (gk_R 14 i :: As) := gk_runV wc_X12_meet (gn_mem 954 (by decide +kernel) (by decide +kernel)) wm_X12_meet (gn_mem 956 (by decide +kernel) (by decide +kernel)) wi_X12 ⟨rfl, by decide +kernel, by decide +kernel, by decide +kernel⟩ (rc_14 hi) hn
theorem cr_L_62 {i : Nat} (hi : i < gk_cnt 6) {As : List gk_V} (hn : As.length = 4) : gk_Run RL (.invokevirtual 62) yX11_nearest cX11_nearest 10 (some .int) (gk_R 6 i :: As) := gk_runV wc_X11_nearest (gn_mem 532 (by decide +kernel) (by decide +kernel)) wm_X11_nearest (gn_mem 534 (by decide +kernel) (by decide +kernel)) wi_X11 ⟨rfl, by decide +kernel, by decide +kernel, by decide +kernel⟩ (rc_6 hi) hn
theorem cr_L_66 {i : Nat} (hi : i < gk_cnt 14) {As : List gk_V} (hn : As.length = 4) : gk_Run RL (.invokevirtual 66) yX12_nearest cX12_nearest 10 (some .int) (gk_R 14 i :: As) := gk_runV wc_X12_nearest (gn_mem 958 (by decide +kernel) (by decide +kernel)) wm_X12_nearest (gn_mem 960 (by decide +kernel) (by decide +kernel)) wi_X12 ⟨rfl, by decide +kernel, by decide +kernel, by decide +kernel⟩ (rc_14 hi) hn
theorem cr_L_67 {i : Nat} (hi : i < gk_cnt 6) {As : List gk_V} (hn : As.length = 2) : gk_Run RL (.invokevirtual 67) yX11_there cX11_there 4 (some .int) (gk_R 6 i :: As) := gk_runV wc_X11_there (gn_mem 536 (by decide +kernel) (by decide +kernel)) wm_X11_there (gn_mem 538 (by decide +kernel) (by decide +kernel)) wi_X11 ⟨rfl, by decide +kernel, by decide +kernel, by decide +kernel⟩ (rc_6 hi) hn
theorem cr_L_70 {i : Nat} (hi : i < gk_cnt 14) {As : List gk_V} (hn : As.length = 2) : gk_Run RL (.invokevirtual 70) yX12_there cX12_there 6 (some .int) (gk_R 14 i :: As) := gk_runV wc_X12_there (gn_mem 962 (by decide +kernel) (by decide +kernel)) wm_X12_there (gn_mem 964 (by decide +kernel) (by decide +kernel)) wi_X12 ⟨rfl, by decide +kernel, by decide +kernel, by decide +kernel⟩ (rc_14 hi) hn
theorem cr_L_71 {i : Nat} (hi : i < gk_cnt 6) {As : List gk_V} (hn : As.length = 2) : gk_Run RL (.invokevirtual 71) yX11_back cX11_back 6 (some .int) (gk_R 6 i :: As) := gk_runV wc_X11_back (gn_mem 549 (by decide +kernel) (by decide +kernel)) wm_X11_back (gn_mem 551 (by decide +kernel) (by decide +kernel)) wi_X11 ⟨rfl, by decide +kernel, by decide +kernel, by decide +kernel⟩ (rc_6 hi) hn
theorem cr_L_74 {i : Nat} (hi : i < gk_cnt 14) {As : List gk_V} (hn : As.length = 2) : gk_Run RL (.invokevirtual 74) yX12_back cX12_back 7 (some .int) (gk_R 14 i :: As) := gk_runV wc_X12_back (gn_mem 974 (by decide +kernel) (by decide +kernel)) wm_X12_back (gn_mem 976 (by decide +kernel) (by decide +kernel)) wi_X12 ⟨rfl, by decide +kernel, by decide +kernel, by decide +kernel⟩ (rc_14 hi) hn
theorem cr_L_75 {i : Nat} (hi : i < gk_cnt 6) {As : List gk_V} (hn : As.length = 1) : gk_Run RL (.invokevirtual 75) yX11_news cX11_news 3 (some .int) (gk_R 6 i :: As) := gk_runV wc_X11_news (gn_mem 553 (by decide +kernel) (by decide +kernel)) wm_X11_news (gn_mem 555 (by decide +kernel) (by decide +kernel)) wi_X11 ⟨rfl, by decide +kernel, by decide +kernel, by decide +kernel⟩ (rc_6 hi) hn
theorem cr_L_78 {i : Nat} (hi : i < gk_cnt 14) {As : List gk_V} (hn : As.length = 1) : gk_Run RL (.invokevirtual 78) yX12_news cX12_news 6 (some .int) (gk_R 14 i :: As) := gk_runV wc_X12_news (gn_mem 978 (by decide +kernel) (by decide +kernel)) wm_X12_news (gn_mem 980 (by decide +kernel) (by decide +kernel)) wi_X12 ⟨rfl, by decide +kernel, by decide +kernel, by decide +kernel⟩ (rc_14 hi) hn
theorem cr_L_79 {i : Nat} (hi : i < gk_cnt 6) {As : List gk_V} (hn : As.length = 2) : gk_Run RL (.invokevirtual 79) yX11_know cX11_know 6 (some .int) (gk_R 6 i :: As) := gk_runV wc_X11_know (gn_mem 561 (by decide +kernel) (by decide +kernel)) wm_X11_know (gn_mem 563 (by decide +kernel) (by decide +kernel)) wi_X11 ⟨rfl, by decide +kernel, by decide +kernel, by decide +kernel⟩ (rc_6 hi) hn
theorem cr_L_82 {i : Nat} (hi : i < gk_cnt 14) {As : List gk_V} (hn : As.length = 2) : gk_Run RL (.invokevirtual 82) yX12_know cX12_know 6 (some .int) (gk_R 14 i :: As) := gk_runV wc_X12_know (gn_mem 982 (by decide +kernel) (by decide +kernel)) wm_X12_know (gn_mem 984 (by decide +kernel) (by decide +kernel)) wi_X12 ⟨rfl, by decide +kernel, by decide +kernel, by decide +kernel⟩ (rc_14 hi) hn
theorem cr_L_83 {i : Nat} (hi : i < gk_cnt 6) {As : List gk_V} (hn : As.length = 0) : gk_Run RL (.invokevirtual 83) yX11_lost cX11_lost 3 (some .int) (gk_R 6 i :: As) := gk_runV wc_X11_lost (gn_mem 565 (by decide +kernel) (by decide +kernel)) wm_X11_lost (gn_mem 567 (by decide +kernel) (by decide +kernel)) wi_X11 ⟨rfl, by decide +kernel, by decide +kernel, by decide +kernel⟩ (rc_6 hi) hn
theorem cr_L_86 {i : Nat} (hi : i < gk_cnt 14) {As : List gk_V} (hn : As.length = 0) : gk_Run RL (.invokevirtual 86) yX12_lost cX12_lost 5 (some .int) (gk_R 14 i :: As) := gk_runV wc_X12_lost (gn_mem 986 (by decide +kernel) (by decide +kernel)) wm_X12_lost (gn_mem 988 (by decide +kernel) (by decide +kernel)) wi_X12 ⟨rfl, by decide +kernel, by decide +kernel, by decide +kernel⟩ (rc_14 hi) hn
theorem cr_L_87 {i : Nat} (hi : i < gk_cnt 6) {As : List gk_V} (hn : As.length = 0) : gk_Run RL (.invokevirtual 87) yX11_groups cX11_groups 4 (some .int) (gk_R 6 i :: As) := gk_runV wc_X11_groups (gn_mem 573 (by decide +kernel) (by decide +kernel)) wm_X11_groups (gn_mem 575 (by decide +kernel) (by decide +kernel)) wi_X11 ⟨rfl, by decide +kernel, by decide +kernel, by decide +kernel⟩ (rc_6 hi) hn
theorem cr_L_90 {i : Nat} (hi : i < gk_cnt 14) {As : List gk_V} (hn : As.length = 0) : gk_Run RL (.invokevirtual 90) yX12_groups cX12_groups 5 (some .int) (gk_R 14 i :: As) := gk_runV wc_X12_groups (gn_mem 990 (by decide +kernel) (by decide +kernel)) wm_X12_groups (gn_mem 992 (by decide +kernel) (by decide +kernel)) wi_X12 ⟨rfl, by decide +kernel, by decide +kernel, by decide +kernel⟩ (rc_14 hi) hn
theorem cr_L_91 {i : Nat} (hi : i < gk_cnt 6) {As : List gk_V} (hn : As.length = 1) : gk_Run RL (.invokevirtual 91) yX11_hungry cX11_hungry 3 (some .int) (gk_R 6 i :: As) := gk_runV wc_X11_hungry (gn_mem 582 (by decide +kernel) (by decide +kernel)) wm_X11_hungry (gn_mem 584 (by decide +kernel) (by decide +kernel)) wi_X11 ⟨rfl, by decide +kernel, by decide +kernel, by decide +kernel⟩ (rc_6 hi) hn
theorem cr_L_94 {i : Nat} (hi : i < gk_cnt 14) {As : List gk_V} (hn : As.length = 1) : gk_Run RL (.invokevirtual 94) yX12_hungry cX12_hungry 4 (some .int) (gk_R 14 i :: As) := gk_runV wc_X12_hungry (gn_mem 994 (by decide +kernel) (by decide +kernel)) wm_X12_hungry (gn_mem 996 (by decide +kernel) (by decide +kernel)) wi_X12 ⟨rfl, by decide +kernel, by decide +kernel, by decide +kernel⟩ (rc_14 hi) hn
theorem cr_L_95 {i : Nat} (hi : i < gk_cnt 6) {As : List gk_V} (hn : As.length = 1) : gk_Run RL (.invokevirtual 95) yX11_lasts cX11_lasts 4 (some .int) (gk_R 6 i :: As) := gk_runV wc_X11_lasts (gn_mem 590 (by decide +kernel) (by decide +kernel)) wm_X11_lasts (gn_mem 592 (by decide +kernel) (by decide +kernel)) wi_X11 ⟨rfl, by decide +kernel, by decide +kernel, by decide +kernel⟩ (rc_6 hi) hn
theorem cr_L_98 {i : Nat} (hi : i < gk_cnt 14) {As : List gk_V} (hn : As.length = 1) : gk_Run RL (.invokevirtual 98) yX12_lasts cX12_lasts 3 (some .int) (gk_R 14 i :: As) := gk_runV wc_X12_lasts (gn_mem 1002 (by decide +kernel) (by decide +kernel)) wm_X12_lasts (gn_mem 1004 (by decide +kernel) (by decide +kernel)) wi_X12 ⟨rfl, by decide +kernel, by decide +kernel, by decide +kernel⟩ (rc_14 hi) hn
theorem cr_L_99 {i : Nat} (hi : i < gk_cnt 6) {As : List gk_V} (hn : As.length = 2) : gk_Run RL (.invokevirtual 99) yX11_share cX11_share 4 (some .int) (gk_R 6 i :: As) := gk_runV wc_X11_share (gn_mem 594 (by decide +kernel) (by decide +kernel)) wm_X11_share (gn_mem 596 (by decide +kernel) (by decide +kernel)) wi_X11 ⟨rfl, by decide +kernel, by decide +kernel, by decide +kernel⟩ (rc_6 hi) hn
theorem cr_L_102 {i : Nat} (hi : i < gk_cnt 14) {As : List gk_V} (hn : As.length = 2) : gk_Run RL (.invokevirtual 102) yX12_share cX12_share 8 (some .int) (gk_R 14 i :: As) := gk_runV wc_X12_share (gn_mem 1006 (by decide +kernel) (by decide +kernel)) wm_X12_share (gn_mem 1008 (by decide +kernel) (by decide +kernel)) wi_X12 ⟨rfl, by decide +kernel, by decide +kernel, by decide +kernel⟩ (rc_14 hi) hn
theorem cr_L_103 {i : Nat} (hi : i < gk_cnt 6) {As : List gk_V} (hn : As.length = 2) : gk_Run RL (.invokevirtual 103) yX11_givenUp cX11_givenUp 8 (some .int) (gk_R 6 i :: As) := gk_runV wc_X11_givenUp (gn_mem 601 (by decide +kernel) (by decide +kernel)) wm_X11_givenUp (gn_mem 603 (by decide +kernel) (by decide +kernel)) wi_X11 ⟨rfl, by decide +kernel, by decide +kernel, by decide +kernel⟩ (rc_6 hi) hn
theorem cr_L_106 {i : Nat} (hi : i < gk_cnt 14) {As : List gk_V} (hn : As.length = 2) : gk_Run RL (.invokevirtual 106) yX12_givenUp cX12_givenUp 6 (some .int) (gk_R 14 i :: As) := gk_runV wc_X12_givenUp (gn_mem 1013 (by decide +kernel) (by decide +kernel)) wm_X12_givenUp (gn_mem 1015 (by decide +kernel) (by decide +kernel)) wi_X12 ⟨rfl, by decide +kernel, by decide +kernel, by decide +kernel⟩ (rc_14 hi) hn
theorem cr_L_107 {i : Nat} (hi : i < gk_cnt 6) {As : List gk_V} (hn : As.length = 4) : gk_Run RL (.invokevirtual 107) yX11_home cX11_home 13 (some .int) (gk_R 6 i :: As) := gk_runV wc_X11_home (gn_mem 619 (by decide +kernel) (by decide +kernel)) wm_X11_home (gn_mem 621 (by decide +kernel) (by decide +kernel)) wi_X11 ⟨rfl, by decide +kernel, by decide +kernel, by decide +kernel⟩ (rc_6 hi) hn
theorem cr_L_110 {i : Nat} (hi : i < gk_cnt 14) {As : List gk_V} (hn : As.length = 4) : gk_Run RL (.invokevirtual 110) yX12_home cX12_home 15 (some .int) (gk_R 14 i :: As) := gk_runV wc_X12_home (gn_mem 1021 (by decide +kernel) (by decide +kernel)) wm_X12_home (gn_mem 1023 (by decide +kernel) (by decide +kernel)) wi_X12 ⟨rfl, by decide +kernel, by decide +kernel, by decide +kernel⟩ (rc_14 hi) hn
theorem cr_L_111 {i : Nat} (hi : i < gk_cnt 6) {As : List gk_V} (hn : As.length = 5) : gk_Run RL (.invokevirtual 111) yX11_kinds cX11_kinds 9 (some .int) (gk_R 6 i :: As) := gk_runV wc_X11_kinds (gn_mem 625 (by decide +kernel) (by decide +kernel)) wm_X11_kinds (gn_mem 627 (by decide +kernel) (by decide +kernel)) wi_X11 ⟨rfl, by decide +kernel, by decide +kernel, by decide +kernel⟩ (rc_6 hi) hn
theorem cr_L_115 {i : Nat} (hi : i < gk_cnt 14) {As : List gk_V} (hn : As.length = 5) : gk_Run RL (.invokevirtual 115) yX12_kinds cX12_kinds 9 (some .int) (gk_R 14 i :: As) := gk_runV wc_X12_kinds (gn_mem 1025 (by decide +kernel) (by decide +kernel)) wm_X12_kinds (gn_mem 1027 (by decide +kernel) (by decide +kernel)) wi_X12 ⟨rfl, by decide +kernel, by decide +kernel, by decide +kernel⟩ (rc_14 hi) hn
theorem cr_L_116 {i : Nat} (hi : i < gk_cnt 6) {As : List gk_V} (hn : As.length = 1) : gk_Run RL (.invokevirtual 116) yX11_row cX11_row 2 (some .int) (gk_R 6 i :: As) := gk_runV wc_X11_row (gn_mem 633 (by decide +kernel) (by decide +kernel)) wm_X11_row (gn_mem 635 (by decide +kernel) (by decide +kernel)) wi_X11 ⟨rfl, by decide +kernel, by decide +kernel, by decide +kernel⟩ (rc_6 hi) hn
theorem cr_L_119 {i : Nat} (hi : i < gk_cnt 14) {As : List gk_V} (hn : As.length = 1) : gk_Run RL (.invokevirtual 119) yX12_row cX12_row 2 (some .int) (gk_R 14 i :: As) := gk_runV wc_X12_row (gn_mem 1029 (by decide +kernel) (by decide +kernel)) wm_X12_row (gn_mem 1031 (by decide +kernel) (by decide +kernel)) wi_X12 ⟨rfl, by decide +kernel, by decide +kernel, by decide +kernel⟩ (rc_14 hi) hn
theorem cr_L_120 {i : Nat} (hi : i < gk_cnt 6) {As : List gk_V} (hn : As.length = 1) : gk_Run RL (.invokevirtual 120) yX11_judge cX11_judge 4 (some .int) (gk_R 6 i :: As) := gk_runV wc_X11_judge (gn_mem 637 (by decide +kernel) (by decide +kernel)) wm_X11_judge (gn_mem 639 (by decide +kernel) (by decide +kernel)) wi_X11 ⟨rfl, by decide +kernel, by decide +kernel, by decide +kernel⟩ (rc_6 hi) hn
theorem cr_L_123 {i : Nat} (hi : i < gk_cnt 14) {As : List gk_V} (hn : As.length = 1) : gk_Run RL (.invokevirtual 123) yX12_judge cX12_judge 5 (some .int) (gk_R 14 i :: As) := gk_runV wc_X12_judge (gn_mem 1033 (by decide +kernel) (by decide +kernel)) wm_X12_judge (gn_mem 1035 (by decide +kernel) (by decide +kernel)) wi_X12 ⟨rfl, by decide +kernel, by decide +kernel, by decide +kernel⟩ (rc_14 hi) hn
theorem cr_L_124 {i : Nat} (hi : i < gk_cnt 6) {As : List gk_V} (hn : As.length = 3) : gk_Run RL (.invokevirtual 124) yX11_lots cX11_lots 7 (some .int) (gk_R 6 i :: As) := gk_runV wc_X11_lots (gn_mem 645 (by decide +kernel) (by decide +kernel)) wm_X11_lots (gn_mem 647 (by decide +kernel) (by decide +kernel)) wi_X11 ⟨rfl, by decide +kernel, by decide +kernel, by decide +kernel⟩ (rc_6 hi) hn
theorem cr_L_127 {i : Nat} (hi : i < gk_cnt 14) {As : List gk_V} (hn : As.length = 3) : gk_Run RL (.invokevirtual 127) yX12_lots cX12_lots 12 (some .int) (gk_R 14 i :: As) := gk_runV wc_X12_lots (gn_mem 1037 (by decide +kernel) (by decide +kernel)) wm_X12_lots (gn_mem 1039 (by decide +kernel) (by decide +kernel)) wi_X12 ⟨rfl, by decide +kernel, by decide +kernel, by decide +kernel⟩ (rc_14 hi) hn
theorem cr_L_128 {i : Nat} (hi : i < gk_cnt 6) {As : List gk_V} (hn : As.length = 0) : gk_Run RL (.invokevirtual 128) yX11_image cX11_image 1 (some .int) (gk_R 6 i :: As) := gk_runV wc_X11_image (gn_mem 668 (by decide +kernel) (by decide +kernel)) wm_X11_image (gn_mem 670 (by decide +kernel) (by decide +kernel)) wi_X11 ⟨rfl, by decide +kernel, by decide +kernel, by decide +kernel⟩ (rc_6 hi) hn
theorem cr_L_131 {i : Nat} (hi : i < gk_cnt 14) {As : List gk_V} (hn : As.length = 0) : gk_Run RL (.invokevirtual 131) yX12_image cX12_image 1 (some .int) (gk_R 14 i :: As) := gk_runV wc_X12_image (gn_mem 797 (by decide +kernel) (by decide +kernel)) wm_X12_image (gn_mem 799 (by decide +kernel) (by decide +kernel)) wi_X12 ⟨rfl, by decide +kernel, by decide +kernel, by decide +kernel⟩ (rc_14 hi) hn
theorem cr_L_132 {i : Nat} (hi : i < gk_cnt 6) {As : List gk_V} (hn : As.length = 0) : gk_Run RL (.invokevirtual 132) yX11_restore cX11_restore 1 (some .int) (gk_R 6 i :: As) := gk_runV wc_X11_restore (gn_mem 672 (by decide +kernel) (by decide +kernel)) wm_X11_restore (gn_mem 674 (by decide +kernel) (by decide +kernel)) wi_X11 ⟨rfl, by decide +kernel, by decide +kernel, by decide +kernel⟩ (rc_6 hi) hn
theorem cr_L_135 {i : Nat} (hi : i < gk_cnt 14) {As : List gk_V} (hn : As.length = 0) : gk_Run RL (.invokevirtual 135) yX12_restore cX12_restore 1 (some .int) (gk_R 14 i :: As) := gk_runV wc_X12_restore (gn_mem 809 (by decide +kernel) (by decide +kernel)) wm_X12_restore (gn_mem 811 (by decide +kernel) (by decide +kernel)) wi_X12 ⟨rfl, by decide +kernel, by decide +kernel, by decide +kernel⟩ (rc_14 hi) hn
theorem cr_L_136 {i : Nat} (hi : i < gk_cnt 6) {As : List gk_V} (hn : As.length = 1) : gk_Run RL (.invokevirtual 136) yX11_count cX11_count 2 (some .int) (gk_R 6 i :: As) := gk_runV wc_X11_count (gn_mem 676 (by decide +kernel) (by decide +kernel)) wm_X11_count (gn_mem 678 (by decide +kernel) (by decide +kernel)) wi_X11 ⟨rfl, by decide +kernel, by decide +kernel, by decide +kernel⟩ (rc_6 hi) hn
theorem cr_L_139 {i : Nat} (hi : i < gk_cnt 14) {As : List gk_V} (hn : As.length = 1) : gk_Run RL (.invokevirtual 139) yX12_count cX12_count 2 (some .int) (gk_R 14 i :: As) := gk_runV wc_X12_count (gn_mem 1048 (by decide +kernel) (by decide +kernel)) wm_X12_count (gn_mem 1050 (by decide +kernel) (by decide +kernel)) wi_X12 ⟨rfl, by decide +kernel, by decide +kernel, by decide +kernel⟩ (rc_14 hi) hn
theorem cr_X0_27 {i : Nat} (hi : i < gk_cnt 4) {As : List gk_V} (hn : As.length = 1) : gk_Run RX0 (.invokevirtual 27) yX7_drawBelow cX7_drawBelow 2 (some .int) (gk_R 4 i :: As) := gk_runV wc_X7_drawBelow (gn_mem 657 (by decide +kernel) (by decide +kernel)) wm_X7_drawBelow (gn_mem 659 (by decide +kernel) (by decide +kernel)) wi_X7 ⟨rfl, by decide +kernel, by decide +kernel, by decide +kernel⟩ (rc_4 hi) hn
theorem cr_X10_7 {i : Nat} (hi : i < gk_cnt 1) {As : List gk_V} (hn : As.length = 2) : gk_Run RX10 (.invokespecial 7) yX1_northward cX1_northward 3 (some .int) (gk_R 1 i :: As) := gk_runSU wc_X1_northward (gn_mem 431 (by decide +kernel) (by decide +kernel)) (gn_mem 1064 (by decide +kernel) (by decide +kernel)) (gn_mem 93 (by decide +kernel) (by decide +kernel)) wm_X1_northward wi_X1 ⟨by decide +kernel, by decide +kernel⟩ (rc_1 hi) hn
theorem cr_X10_11 {i : Nat} (hi : i < gk_cnt 1) {As : List gk_V} (hn : As.length = 2) : gk_Run RX10 (.invokespecial 11) yX1_eastward cX1_eastward 3 (some .int) (gk_R 1 i :: As) := gk_runSU wc_X1_eastward (gn_mem 447 (by decide +kernel) (by decide +kernel)) (gn_mem 407 (by decide +kernel) (by decide +kernel)) (gn_mem 93 (by decide +kernel) (by decide +kernel)) wm_X1_eastward wi_X1 ⟨by decide +kernel, by decide +kernel⟩ (rc_1 hi) hn
theorem cr_X11_72 {i : Nat} (hi : i < gk_cnt 6) {As : List gk_V} (hn : As.length = 1) : gk_Run RX11 (.invokevirtual 72) yX11_refuse cX11_refuse 3 (some .int) (gk_R 6 i :: As) := gk_runV wc_X11_refuse (gn_mem 307 (by decide +kernel) (by decide +kernel)) wm_X11_refuse (gn_mem 0 (by decide +kernel) (by decide +kernel)) wi_X11 ⟨rfl, by decide +kernel, by decide +kernel, by decide +kernel⟩ (rc_6 hi) hn
theorem cr_X11_80 {i : Nat} (hi : i < gk_cnt 3) {As : List gk_V} (hn : As.length = 1) : gk_Run RX11 (.invokevirtual 80) yX6_add cX6_add 2 none (gk_R 3 i :: As) := gk_runV wc_X6_add (gn_mem 311 (by decide +kernel) (by decide +kernel)) wm_X6_add (gn_mem 313 (by decide +kernel) (by decide +kernel)) wi_X6 ⟨rfl, by decide +kernel, by decide +kernel, by decide +kernel⟩ (rc_3 hi) hn
theorem cr_X11_84 {i : Nat} (hi : i < gk_cnt 2) {As : List gk_V} (hn : As.length = 1) : gk_Run RX11 (.invokevirtual 84) yX4_copyFrom cX4_copyFrom 3 none (gk_R 2 i :: As) := gk_runV wc_X4_copyFrom (gn_mem 319 (by decide +kernel) (by decide +kernel)) wm_X4_copyFrom (gn_mem 321 (by decide +kernel) (by decide +kernel)) wi_X4 ⟨rfl, by decide +kernel, by decide +kernel, by decide +kernel⟩ (rc_2 hi) hn
theorem cr_X11_88 {i : Nat} (hi : i < gk_cnt 3) {As : List gk_V} (hn : As.length = 1) : gk_Run RX11 (.invokevirtual 88) yX6_readInto cX6_readInto 6 (some .int) (gk_R 3 i :: As) := gk_runV wc_X6_readInto (gn_mem 327 (by decide +kernel) (by decide +kernel)) wm_X6_readInto (gn_mem 329 (by decide +kernel) (by decide +kernel)) wi_X6 ⟨rfl, by decide +kernel, by decide +kernel, by decide +kernel⟩ (rc_3 hi) hn
theorem cr_X11_92 {i : Nat} (hi : i < gk_cnt 6) {As : List gk_V} (hn : As.length = 1) : gk_Run RX11 (.invokevirtual 92) yX11_nobody cX11_nobody 2 (some .int) (gk_R 6 i :: As) := gk_runV wc_X11_nobody (gn_mem 378 (by decide +kernel) (by decide +kernel)) wm_X11_nobody (gn_mem 11 (by decide +kernel) (by decide +kernel)) wi_X11 ⟨rfl, by decide +kernel, by decide +kernel, by decide +kernel⟩ (rc_6 hi) hn
theorem cr_X11_95 {As : List gk_V} (hn : As.length = 2) : gk_Run RX11 (.invokestatic 95) yX11_otherThan cX11_otherThan 2 (some .int) As := gk_runS wc_X11_otherThan (gn_mem 386 (by decide +kernel) (by decide +kernel)) wm_X11_otherThan wi_X11 ⟨by decide +kernel, by decide +kernel, by decide +kernel⟩ hn
theorem cr_X11_99 {As : List gk_V} (hn : As.length = 2) : gk_Run RX11 (.invokestatic 99) yX11_first cX11_first 2 (some .int) As := gk_runS wc_X11_first (gn_mem 389 (by decide +kernel) (by decide +kernel)) wm_X11_first wi_X11 ⟨by decide +kernel, by decide +kernel, by decide +kernel⟩ hn
theorem cr_X11_127 {i : Nat} (hi : i < gk_cnt 6) {As : List gk_V} (hn : As.length = 2) : gk_Run RX11 (.invokevirtual 127) yX11_driftToday cX11_driftToday 4 (some .int) (gk_R 6 i :: As) := gk_runV wc_X11_driftToday (gn_mem 393 (by decide +kernel) (by decide +kernel)) wm_X11_driftToday (gn_mem 12 (by decide +kernel) (by decide +kernel)) wi_X11 ⟨rfl, by decide +kernel, by decide +kernel, by decide +kernel⟩ (rc_6 hi) hn
theorem cr_X11_131 {As : List gk_V} (hn : As.length = 1) : gk_Run RX11 (.invokestatic 131) yX11_isOfWeek cX11_isOfWeek 1 (some .boolean) As := gk_runS wc_X11_isOfWeek (gn_mem 452 (by decide +kernel) (by decide +kernel)) wm_X11_isOfWeek wi_X11 ⟨by decide +kernel, by decide +kernel, by decide +kernel⟩ hn
theorem cr_X11_135 {i : Nat} (hi : i < gk_cnt 6) {As : List gk_V} (hn : As.length = 1) : gk_Run RX11 (.invokevirtual 135) yX11_toldWind cX11_toldWind 2 (some .int) (gk_R 6 i :: As) := gk_runV wc_X11_toldWind (gn_mem 455 (by decide +kernel) (by decide +kernel)) wm_X11_toldWind (gn_mem 13 (by decide +kernel) (by decide +kernel)) wi_X11 ⟨rfl, by decide +kernel, by decide +kernel, by decide +kernel⟩ (rc_6 hi) hn
theorem cr_X11_138 {As : List gk_V} (hn : As.length = 4) : gk_Run RX11 (.invokestatic 138) yX11_rangeOfTwo cX11_rangeOfTwo 4 (some .int) As := gk_runS wc_X11_rangeOfTwo (gn_mem 463 (by decide +kernel) (by decide +kernel)) wm_X11_rangeOfTwo wi_X11 ⟨by decide +kernel, by decide +kernel, by decide +kernel⟩ hn
theorem cr_X11_148 {As : List gk_V} (hn : As.length = 3) : gk_Run RX11 (.invokestatic 148) yX11_range cX11_range 3 (some .int) As := gk_runS wc_X11_range (gn_mem 466 (by decide +kernel) (by decide +kernel)) wm_X11_range wi_X11 ⟨by decide +kernel, by decide +kernel, by decide +kernel⟩ hn
theorem cr_X11_161 {As : List gk_V} (hn : As.length = 2) : gk_Run RX11 (.invokestatic 161) yJ9_min_7cf53 cJ9_min_7cf53 2 (some .int) As := gk_runS wc_J9_min_7cf53 (gn_mem 480 (by decide +kernel) (by decide +kernel)) wm_J9_min_7cf53 wi_J9 ⟨by decide +kernel, by decide +kernel, by decide +kernel⟩ hn
theorem cr_X11_166 {i : Nat} (hi : i < gk_cnt 6) {As : List gk_V} (hn : As.length = 1) : gk_Run RX11 (.invokevirtual 166) yX11_dayOf cX11_dayOf 2 (some .int) (gk_R 6 i :: As) := gk_runV wc_X11_dayOf (gn_mem 483 (by decide +kernel) (by decide +kernel)) wm_X11_dayOf (gn_mem 14 (by decide +kernel) (by decide +kernel)) wi_X11 ⟨rfl, by decide +kernel, by decide +kernel, by decide +kernel⟩ (rc_6 hi) hn
theorem cr_X11_172 {i : Nat} (hi : i < gk_cnt 6) {As : List gk_V} (hn : As.length = 2) : gk_Run RX11 (.invokevirtual 172) yX11_notTwo cX11_notTwo 3 (some .int) (gk_R 6 i :: As) := gk_runV wc_X11_notTwo (gn_mem 502 (by decide +kernel) (by decide +kernel)) wm_X11_notTwo (gn_mem 15 (by decide +kernel) (by decide +kernel)) wi_X11 ⟨rfl, by decide +kernel, by decide +kernel, by decide +kernel⟩ (rc_6 hi) hn
theorem cr_X11_175 {i : Nat} (hi : i < gk_cnt 2) {As : List gk_V} (hn : As.length = 2) : gk_Run RX11 (.invokevirtual 175) yX4_gap cX4_gap 3 (some .int) (gk_R 2 i :: As) := gk_runV wc_X4_gap (gn_mem 506 (by decide +kernel) (by decide +kernel)) wm_X4_gap (gn_mem 508 (by decide +kernel) (by decide +kernel)) wi_X4 ⟨rfl, by decide +kernel, by decide +kernel, by decide +kernel⟩ (rc_2 hi) hn
theorem cr_X11_182 {i : Nat} (hi : i < gk_cnt 6) {As : List gk_V} (hn : As.length = 3) : gk_Run RX11 (.invokevirtual 182) yX11_daysUntil cX11_daysUntil 6 (some .int) (gk_R 6 i :: As) := gk_runV wc_X11_daysUntil (gn_mem 540 (by decide +kernel) (by decide +kernel)) wm_X11_daysUntil (gn_mem 16 (by decide +kernel) (by decide +kernel)) wi_X11 ⟨rfl, by decide +kernel, by decide +kernel, by decide +kernel⟩ (rc_6 hi) hn
theorem cr_X11_185 {i : Nat} (hi : i < gk_cnt 2) {As : List gk_V} (hn : As.length = 0) : gk_Run RX11 (.invokevirtual 185) yX4_allShips cX4_allShips 1 (some .int) (gk_R 2 i :: As) := gk_runV wc_X4_allShips (gn_mem 557 (by decide +kernel) (by decide +kernel)) wm_X4_allShips (gn_mem 559 (by decide +kernel) (by decide +kernel)) wi_X4 ⟨rfl, by decide +kernel, by decide +kernel, by decide +kernel⟩ (rc_2 hi) hn
theorem cr_X11_189 {i : Nat} (hi : i < gk_cnt 2) {As : List gk_V} (hn : As.length = 1) : gk_Run RX11 (.invokevirtual 189) yX4_oneLeadOn cX4_oneLeadOn 5 (some .int) (gk_R 2 i :: As) := gk_runV wc_X4_oneLeadOn (gn_mem 544 (by decide +kernel) (by decide +kernel)) wm_X4_oneLeadOn (gn_mem 546 (by decide +kernel) (by decide +kernel)) wi_X4 ⟨rfl, by decide +kernel, by decide +kernel, by decide +kernel⟩ (rc_2 hi) hn
theorem cr_X11_195 {i : Nat} (hi : i < gk_cnt 2) {As : List gk_V} (hn : As.length = 1) : gk_Run RX11 (.invokevirtual 195) yX4_isSeen cX4_isSeen 3 (some .boolean) (gk_R 2 i :: As) := gk_runV wc_X4_isSeen (gn_mem 569 (by decide +kernel) (by decide +kernel)) wm_X4_isSeen (gn_mem 571 (by decide +kernel) (by decide +kernel)) wi_X4 ⟨rfl, by decide +kernel, by decide +kernel, by decide +kernel⟩ (rc_2 hi) hn
theorem cr_X11_198 {i : Nat} (hi : i < gk_cnt 2) {As : List gk_V} (hn : As.length = 1) : gk_Run RX11 (.invokevirtual 198) yX4_groupOf cX4_groupOf 4 (some .int) (gk_R 2 i :: As) := gk_runV wc_X4_groupOf (gn_mem 577 (by decide +kernel) (by decide +kernel)) wm_X4_groupOf (gn_mem 579 (by decide +kernel) (by decide +kernel)) wi_X4 ⟨rfl, by decide +kernel, by decide +kernel, by decide +kernel⟩ (rc_2 hi) hn
theorem cr_X11_201 {i : Nat} (hi : i < gk_cnt 2) {As : List gk_V} (hn : As.length = 1) : gk_Run RX11 (.invokevirtual 201) yX4_hungerToCome cX4_hungerToCome 4 (some .int) (gk_R 2 i :: As) := gk_runV wc_X4_hungerToCome (gn_mem 586 (by decide +kernel) (by decide +kernel)) wm_X4_hungerToCome (gn_mem 588 (by decide +kernel) (by decide +kernel)) wi_X4 ⟨rfl, by decide +kernel, by decide +kernel, by decide +kernel⟩ (rc_2 hi) hn
theorem cr_X11_204 {As : List gk_V} (hn : As.length = 2) : gk_Run RX11 (.invokestatic 204) yX11_deal cX11_deal 5 none As := gk_runS wc_X11_deal (gn_mem 598 (by decide +kernel) (by decide +kernel)) wm_X11_deal wi_X11 ⟨by decide +kernel, by decide +kernel, by decide +kernel⟩ hn
theorem cr_X11_208 {i : Nat} (hi : i < gk_cnt 6) {As : List gk_V} (hn : As.length = 2) : gk_Run RX11 (.invokevirtual 208) yX11_hungerWithout cX11_hungerWithout 3 (some .int) (gk_R 6 i :: As) := gk_runV wc_X11_hungerWithout (gn_mem 605 (by decide +kernel) (by decide +kernel)) wm_X11_hungerWithout (gn_mem 17 (by decide +kernel) (by decide +kernel)) wi_X11 ⟨rfl, by decide +kernel, by decide +kernel, by decide +kernel⟩ (rc_6 hi) hn
theorem cr_X11_211 {As : List gk_V} (hn : As.length = 2) : gk_Run RX11 (.invokestatic 211) yX11_belowFirst cX11_belowFirst 2 (some .int) As := gk_runS wc_X11_belowFirst (gn_mem 469 (by decide +kernel) (by decide +kernel)) wm_X11_belowFirst wi_X11 ⟨by decide +kernel, by decide +kernel, by decide +kernel⟩ hn
theorem cr_X11_214 {i : Nat} (hi : i < gk_cnt 2) {As : List gk_V} (hn : As.length = 3) : gk_Run RX11 (.invokevirtual 214) yX4_nearestTo cX4_nearestTo 6 (some .int) (gk_R 2 i :: As) := gk_runV wc_X4_nearestTo (gn_mem 623 (by decide +kernel) (by decide +kernel)) wm_X4_nearestTo (gn_mem 615 (by decide +kernel) (by decide +kernel)) wi_X4 ⟨rfl, by decide +kernel, by decide +kernel, by decide +kernel⟩ (rc_2 hi) hn
theorem cr_X11_217 {i : Nat} (hi : i < gk_cnt 2) {As : List gk_V} (hn : As.length = 3) : gk_Run RX11 (.invokevirtual 217) yX4_gapToPlace cX4_gapToPlace 4 (some .int) (gk_R 2 i :: As) := gk_runV wc_X4_gapToPlace (gn_mem 624 (by decide +kernel) (by decide +kernel)) wm_X4_gapToPlace (gn_mem 512 (by decide +kernel) (by decide +kernel)) wi_X4 ⟨rfl, by decide +kernel, by decide +kernel, by decide +kernel⟩ (rc_2 hi) hn
theorem cr_X11_220 {i : Nat} (hi : i < gk_cnt 6) {As : List gk_V} (hn : As.length = 6) : gk_Run RX11 (.invokevirtual 220) yX11_wouldBeAt cX11_wouldBeAt 10 (some .boolean) (gk_R 6 i :: As) := gk_runV wc_X11_wouldBeAt (gn_mem 629 (by decide +kernel) (by decide +kernel)) wm_X11_wouldBeAt (gn_mem 18 (by decide +kernel) (by decide +kernel)) wi_X11 ⟨rfl, by decide +kernel, by decide +kernel, by decide +kernel⟩ (rc_6 hi) hn
theorem cr_X11_227 {i : Nat} (hi : i < gk_cnt 6) {As : List gk_V} (hn : As.length = 1) : gk_Run RX11 (.invokevirtual 227) yX11_firstUntrue cX11_firstUntrue 5 (some .int) (gk_R 6 i :: As) := gk_runV wc_X11_firstUntrue (gn_mem 641 (by decide +kernel) (by decide +kernel)) wm_X11_firstUntrue (gn_mem 19 (by decide +kernel) (by decide +kernel)) wi_X11 ⟨rfl, by decide +kernel, by decide +kernel, by decide +kernel⟩ (rc_6 hi) hn
theorem cr_X11_233 {i : Nat} (hi : i < gk_cnt 0) {As : List gk_V} (hn : As.length = 0) : gk_Run RX11 (.invokevirtual 233) yX0_fallCalm cX0_fallCalm 1 none (gk_R 0 i :: As) := gk_runV wc_X0_fallCalm (gn_mem 649 (by decide +kernel) (by decide +kernel)) wm_X0_fallCalm (gn_mem 651 (by decide +kernel) (by decide +kernel)) wi_X0 ⟨rfl, by decide +kernel, by decide +kernel, by decide +kernel⟩ (rc_0 hi) hn
theorem cr_X11_236 {i : Nat} (hi : i < gk_cnt 0) {As : List gk_V} (hn : As.length = 2) : gk_Run RX11 (.invokevirtual 236) yX0_drawBy cX0_drawBy 3 none (gk_R 0 i :: As) := gk_runV wc_X0_drawBy (gn_mem 653 (by decide +kernel) (by decide +kernel)) wm_X0_drawBy (gn_mem 655 (by decide +kernel) (by decide +kernel)) wi_X0 ⟨rfl, by decide +kernel, by decide +kernel, by decide +kernel⟩ (rc_0 hi) hn
theorem cr_X11_240 {i : Nat} (hi : i < gk_cnt 2) {As : List gk_V} (hn : As.length = 2) : gk_Run RX11 (.invokevirtual 240) yX4_passDay cX4_passDay 7 (some .int) (gk_R 2 i :: As) := gk_runV wc_X4_passDay (gn_mem 487 (by decide +kernel) (by decide +kernel)) wm_X4_passDay (gn_mem 489 (by decide +kernel) (by decide +kernel)) wi_X4 ⟨rfl, by decide +kernel, by decide +kernel, by decide +kernel⟩ (rc_2 hi) hn
theorem cr_X11_244 {i : Nat} (hi : i < gk_cnt 2) {As : List gk_V} (hn : As.length = 1) : gk_Run RX11 (.invokevirtual 244) yX4_pairsWithin cX4_pairsWithin 5 (some .int) (gk_R 2 i :: As) := gk_runV wc_X4_pairsWithin (gn_mem 664 (by decide +kernel) (by decide +kernel)) wm_X4_pairsWithin (gn_mem 666 (by decide +kernel) (by decide +kernel)) wi_X4 ⟨rfl, by decide +kernel, by decide +kernel, by decide +kernel⟩ (rc_2 hi) hn
theorem cr_X11_251 {i : Nat} (hi : i < gk_cnt 2) {As : List gk_V} (hn : As.length = 0) : gk_Run RX11 (.invokevirtual 251) yX4_allBread cX4_allBread 3 (some .int) (gk_R 2 i :: As) := gk_runV wc_X4_allBread (gn_mem 680 (by decide +kernel) (by decide +kernel)) wm_X4_allBread (gn_mem 682 (by decide +kernel) (by decide +kernel)) wi_X4 ⟨rfl, by decide +kernel, by decide +kernel, by decide +kernel⟩ (rc_2 hi) hn
theorem cr_X11_254 {i : Nat} (hi : i < gk_cnt 2) {As : List gk_V} (hn : As.length = 0) : gk_Run RX11 (.invokevirtual 254) yX4_allCrews cX4_allCrews 3 (some .int) (gk_R 2 i :: As) := gk_runV wc_X4_allCrews (gn_mem 684 (by decide +kernel) (by decide +kernel)) wm_X4_allCrews (gn_mem 686 (by decide +kernel) (by decide +kernel)) wi_X4 ⟨rfl, by decide +kernel, by decide +kernel, by decide +kernel⟩ (rc_2 hi) hn
theorem cr_X11_257 {i : Nat} (hi : i < gk_cnt 2) {As : List gk_V} (hn : As.length = 1) : gk_Run RX11 (.invokevirtual 257) yX4_has cX4_has 2 (some .boolean) (gk_R 2 i :: As) := gk_runV wc_X4_has (gn_mem 382 (by decide +kernel) (by decide +kernel)) wm_X4_has (gn_mem 384 (by decide +kernel) (by decide +kernel)) wi_X4 ⟨rfl, by decide +kernel, by decide +kernel, by decide +kernel⟩ (rc_2 hi) hn
theorem cr_X11_260 {i : Nat} (hi : i < gk_cnt 2) {As : List gk_V} (hn : As.length = 2) : gk_Run RX11 (.invokevirtual 260) yX4_airOf cX4_airOf 5 none (gk_R 2 i :: As) := gk_runV wc_X4_airOf (gn_mem 397 (by decide +kernel) (by decide +kernel)) wm_X4_airOf (gn_mem 399 (by decide +kernel) (by decide +kernel)) wi_X4 ⟨rfl, by decide +kernel, by decide +kernel, by decide +kernel⟩ (rc_2 hi) hn
theorem cr_X11_264_0 {As : List gk_V} (hn : As.length = 2) : gk_Run RX11 (.invokevirtual 264) yX1_eastward cX1_eastward 3 (some .int) (gk_R 1 0 :: As) := gk_runV wc_X1_eastward (gn_mem 404 (by decide +kernel) (by decide +kernel)) wm_X1_eastward (gn_mem 406 (by decide +kernel) (by decide +kernel)) wi_X1 ⟨rfl, by decide +kernel, by decide +kernel, by decide +kernel⟩ (rc_1 (i := 0) (by decide)) hn
theorem cr_X11_264_1 {As : List gk_V} (hn : As.length = 2) : gk_Run RX11 (.invokevirtual 264) yX3_eastward cX3_eastward 3 (some .int) (gk_R 1 1 :: As) := gk_runO (C := RX3) (owner := RX1) (x := yX1_eastward) wc_X3_eastward wc_X1_eastward (gn_mem 404 (by decide +kernel) (by decide +kernel)) (gn_mem 407 (by decide +kernel) (by decide +kernel)) wm_X1_eastward (gn_mem 418 (by decide +kernel) (by decide +kernel)) wm_X3_eastward wi_X3 ⟨by decide +kernel, by decide +kernel, by decide +kernel⟩ (rc_1 (i := 1) (by decide)) hn
theorem cr_X11_264_2 {As : List gk_V} (hn : As.length = 2) : gk_Run RX11 (.invokevirtual 264) yX10_eastward cX10_eastward 3 (some .int) (gk_R 1 2 :: As) := gk_runO (C := RX10) (owner := RX1) (x := yX1_eastward) wc_X10_eastward wc_X1_eastward (gn_mem 404 (by decide +kernel) (by decide +kernel)) (gn_mem 407 (by decide +kernel) (by decide +kernel)) wm_X1_eastward (gn_mem 434 (by decide +kernel) (by decide +kernel)) wm_X10_eastward wi_X10 ⟨by decide +kernel, by decide +kernel, by decide +kernel⟩ (rc_1 (i := 2) (by decide)) hn
theorem cr_X11_264_3 {As : List gk_V} (hn : As.length = 2) : gk_Run RX11 (.invokevirtual 264) yX5_eastward cX5_eastward 3 (some .int) (gk_R 1 3 :: As) := gk_runO (C := RX5) (owner := RX1) (x := yX1_eastward) wc_X5_eastward wc_X1_eastward (gn_mem 404 (by decide +kernel) (by decide +kernel)) (gn_mem 407 (by decide +kernel) (by decide +kernel)) wm_X1_eastward (gn_mem 419 (by decide +kernel) (by decide +kernel)) wm_X5_eastward wi_X5 ⟨by decide +kernel, by decide +kernel, by decide +kernel⟩ (rc_1 (i := 3) (by decide)) hn
theorem cr_X11_264_4 {As : List gk_V} (hn : As.length = 2) : gk_Run RX11 (.invokevirtual 264) yX9_eastward cX9_eastward 3 (some .int) (gk_R 1 4 :: As) := gk_runO (C := RX9) (owner := RX1) (x := yX1_eastward) wc_X9_eastward wc_X1_eastward (gn_mem 404 (by decide +kernel) (by decide +kernel)) (gn_mem 407 (by decide +kernel) (by decide +kernel)) wm_X1_eastward (gn_mem 422 (by decide +kernel) (by decide +kernel)) wm_X9_eastward wi_X9 ⟨by decide +kernel, by decide +kernel, by decide +kernel⟩ (rc_1 (i := 4) (by decide)) hn
theorem cr_X11_264_5 {As : List gk_V} (hn : As.length = 2) : gk_Run RX11 (.invokevirtual 264) yX2_eastward cX2_eastward 3 (some .int) (gk_R 1 5 :: As) := gk_runO (C := RX2) (owner := RX1) (x := yX1_eastward) wc_X2_eastward wc_X1_eastward (gn_mem 404 (by decide +kernel) (by decide +kernel)) (gn_mem 407 (by decide +kernel) (by decide +kernel)) wm_X1_eastward (gn_mem 408 (by decide +kernel) (by decide +kernel)) wm_X2_eastward wi_X2 ⟨by decide +kernel, by decide +kernel, by decide +kernel⟩ (rc_1 (i := 5) (by decide)) hn
theorem cr_X11_268_0 {As : List gk_V} (hn : As.length = 2) : gk_Run RX11 (.invokevirtual 268) yX1_northward cX1_northward 3 (some .int) (gk_R 1 0 :: As) := gk_runV wc_X1_northward (gn_mem 436 (by decide +kernel) (by decide +kernel)) wm_X1_northward (gn_mem 1065 (by decide +kernel) (by decide +kernel)) wi_X1 ⟨rfl, by decide +kernel, by decide +kernel, by decide +kernel⟩ (rc_1 (i := 0) (by decide)) hn
theorem cr_X11_268_1 {As : List gk_V} (hn : As.length = 2) : gk_Run RX11 (.invokevirtual 268) yX3_northward cX3_northward 3 (some .int) (gk_R 1 1 :: As) := gk_runO (C := RX3) (owner := RX1) (x := yX1_northward) wc_X3_northward wc_X1_northward (gn_mem 436 (by decide +kernel) (by decide +kernel)) (gn_mem 1064 (by decide +kernel) (by decide +kernel)) wm_X1_northward (gn_mem 1067 (by decide +kernel) (by decide +kernel)) wm_X3_northward wi_X3 ⟨by decide +kernel, by decide +kernel, by decide +kernel⟩ (rc_1 (i := 1) (by decide)) hn
theorem cr_X11_268_2 {As : List gk_V} (hn : As.length = 2) : gk_Run RX11 (.invokevirtual 268) yX10_northward cX10_northward 3 (some .int) (gk_R 1 2 :: As) := gk_runO (C := RX10) (owner := RX1) (x := yX1_northward) wc_X10_northward wc_X1_northward (gn_mem 436 (by decide +kernel) (by decide +kernel)) (gn_mem 1064 (by decide +kernel) (by decide +kernel)) wm_X1_northward (gn_mem 1071 (by decide +kernel) (by decide +kernel)) wm_X10_northward wi_X10 ⟨by decide +kernel, by decide +kernel, by decide +kernel⟩ (rc_1 (i := 2) (by decide)) hn
theorem cr_X11_268_3 {As : List gk_V} (hn : As.length = 2) : gk_Run RX11 (.invokevirtual 268) yX5_northward cX5_northward 3 (some .int) (gk_R 1 3 :: As) := gk_runO (C := RX5) (owner := RX1) (x := yX1_northward) wc_X5_northward wc_X1_northward (gn_mem 436 (by decide +kernel) (by decide +kernel)) (gn_mem 1064 (by decide +kernel) (by decide +kernel)) wm_X1_northward (gn_mem 1068 (by decide +kernel) (by decide +kernel)) wm_X5_northward wi_X5 ⟨by decide +kernel, by decide +kernel, by decide +kernel⟩ (rc_1 (i := 3) (by decide)) hn
theorem cr_X11_268_4 {As : List gk_V} (hn : As.length = 2) : gk_Run RX11 (.invokevirtual 268) yX9_northward cX9_northward 3 (some .int) (gk_R 1 4 :: As) := gk_runO (C := RX9) (owner := RX1) (x := yX1_northward) wc_X9_northward wc_X1_northward (gn_mem 436 (by decide +kernel) (by decide +kernel)) (gn_mem 1064 (by decide +kernel) (by decide +kernel)) wm_X1_northward (gn_mem 1069 (by decide +kernel) (by decide +kernel)) wm_X9_northward wi_X9 ⟨by decide +kernel, by decide +kernel, by decide +kernel⟩ (rc_1 (i := 4) (by decide)) hn
theorem cr_X11_268_5 {As : List gk_V} (hn : As.length = 2) : gk_Run RX11 (.invokevirtual 268) yX3_northward cX3_northward 3 (some .int) (gk_R 1 5 :: As) := gk_runO (C := RX2) (owner := RX1) (x := yX1_northward) wc_X3_northward wc_X1_northward (gn_mem 436 (by decide +kernel) (by decide +kernel)) (gn_mem 1064 (by decide +kernel) (by decide +kernel)) wm_X1_northward (gn_mem 1066 (by decide +kernel) (by decide +kernel)) wm_X3_northward wi_X3 ⟨by decide +kernel, by decide +kernel, by decide +kernel⟩ (rc_1 (i := 5) (by decide)) hn
theorem cr_X11_271 {i : Nat} (hi : i < gk_cnt 2) {As : List gk_V} (hn : As.length = 1) : gk_Run RX11 (.invokevirtual 271) yX4_giveUp cX4_giveUp 5 none (gk_R 2 i :: As) := gk_runV wc_X4_giveUp (gn_mem 609 (by decide +kernel) (by decide +kernel)) wm_X4_giveUp (gn_mem 611 (by decide +kernel) (by decide +kernel)) wi_X4 ⟨rfl, by decide +kernel, by decide +kernel, by decide +kernel⟩ (rc_2 hi) hn
theorem cr_X12_71 {As : List gk_V} (hn : As.length = 3) : gk_Run RX12 (.invokestatic 71) yX12_in cX12_in 6 (some .boolean) As := gk_runS wc_X12_in (gn_mem 839 (by decide +kernel) (by decide +kernel)) wm_X12_in wi_X12 ⟨by decide +kernel, by decide +kernel, by decide +kernel⟩ hn
theorem cr_X12_75 {i : Nat} (hi : i < gk_cnt 14) {As : List gk_V} (hn : As.length = 1) : gk_Run RX12 (.invokevirtual 75) yX12_isShip cX12_isShip 2 (some .boolean) (gk_R 14 i :: As) := gk_runV wc_X12_isShip (gn_mem 878 (by decide +kernel) (by decide +kernel)) wm_X12_isShip (gn_mem 33 (by decide +kernel) (by decide +kernel)) wi_X12 ⟨rfl, by decide +kernel, by decide +kernel, by decide +kernel⟩ (rc_14 hi) hn
theorem cr_X12_88 {i : Nat} (hi : i < gk_cnt 14) {As : List gk_V} (hn : As.length = 6) : gk_Run RX12 (.invokevirtual 88) yX12_driftBy cX12_driftBy 9 none (gk_R 14 i :: As) := gk_runV wc_X12_driftBy (gn_mem 887 (by decide +kernel) (by decide +kernel)) wm_X12_driftBy (gn_mem 35 (by decide +kernel) (by decide +kernel)) wi_X12 ⟨rfl, by decide +kernel, by decide +kernel, by decide +kernel⟩ (rc_14 hi) hn
theorem cr_X12_92 {i : Nat} (hi : i < gk_cnt 14) {As : List gk_V} (hn : As.length = 2) : gk_Run RX12 (.invokevirtual 92) yX12_driftToday cX12_driftToday 5 none (gk_R 14 i :: As) := gk_runV wc_X12_driftToday (gn_mem 883 (by decide +kernel) (by decide +kernel)) wm_X12_driftToday (gn_mem 34 (by decide +kernel) (by decide +kernel)) wi_X12 ⟨rfl, by decide +kernel, by decide +kernel, by decide +kernel⟩ (rc_14 hi) hn
theorem cr_X12_96 {i : Nat} (hi : i < gk_cnt 14) {As : List gk_V} (hn : As.length = 0) : gk_Run RX12 (.invokevirtual 96) yX12_driftAll cX12_driftAll 2 none (gk_R 14 i :: As) := gk_runV wc_X12_driftAll (gn_mem 917 (by decide +kernel) (by decide +kernel)) wm_X12_driftAll (gn_mem 38 (by decide +kernel) (by decide +kernel)) wi_X12 ⟨rfl, by decide +kernel, by decide +kernel, by decide +kernel⟩ (rc_14 hi) hn
theorem cr_X12_99 {i : Nat} (hi : i < gk_cnt 14) {As : List gk_V} (hn : As.length = 0) : gk_Run RX12 (.invokevirtual 99) yX12_eat cX12_eat 4 (some .int) (gk_R 14 i :: As) := gk_runV wc_X12_eat (gn_mem 921 (by decide +kernel) (by decide +kernel)) wm_X12_eat (gn_mem 39 (by decide +kernel) (by decide +kernel)) wi_X12 ⟨rfl, by decide +kernel, by decide +kernel, by decide +kernel⟩ (rc_14 hi) hn
theorem cr_X12_103 {As : List gk_V} (hn : As.length = 2) : gk_Run RX12 (.invokestatic 103) yX12_apart cX12_apart 2 (some .int) As := gk_runS wc_X12_apart (gn_mem 937 (by decide +kernel) (by decide +kernel)) wm_X12_apart wi_X12 ⟨by decide +kernel, by decide +kernel, by decide +kernel⟩ hn
theorem cr_X12_107 {i : Nat} (hi : i < gk_cnt 14) {As : List gk_V} (hn : As.length = 2) : gk_Run RX12 (.invokevirtual 107) yX12_farBetween cX12_farBetween 5 (some .int) (gk_R 14 i :: As) := gk_runV wc_X12_farBetween (gn_mem 933 (by decide +kernel) (by decide +kernel)) wm_X12_farBetween (gn_mem 41 (by decide +kernel) (by decide +kernel)) wi_X12 ⟨rfl, by decide +kernel, by decide +kernel, by decide +kernel⟩ (rc_14 hi) hn
theorem cr_X12_120 {i : Nat} (hi : i < gk_cnt 14) {As : List gk_V} (hn : As.length = 1) : gk_Run RX12 (.invokevirtual 120) yX12_carry cX12_carry 2 (some .int) (gk_R 14 i :: As) := gk_runV wc_X12_carry (gn_mem 805 (by decide +kernel) (by decide +kernel)) wm_X12_carry (gn_mem 21 (by decide +kernel) (by decide +kernel)) wi_X12 ⟨rfl, by decide +kernel, by decide +kernel, by decide +kernel⟩ (rc_14 hi) hn
theorem cr_X12_127 {i : Nat} (hi : i < gk_cnt 14) {As : List gk_V} (hn : As.length = 2) : gk_Run RX12 (.invokevirtual 127) yX12_carryAll cX12_carryAll 4 none (gk_R 14 i :: As) := gk_runV wc_X12_carryAll (gn_mem 801 (by decide +kernel) (by decide +kernel)) wm_X12_carryAll (gn_mem 20 (by decide +kernel) (by decide +kernel)) wi_X12 ⟨rfl, by decide +kernel, by decide +kernel, by decide +kernel⟩ (rc_14 hi) hn
theorem cr_X12_134 {i : Nat} (hi : i < gk_cnt 14) {As : List gk_V} (hn : As.length = 1) : gk_Run RX12 (.invokevirtual 134) yX12_refuse cX12_refuse 2 (some .int) (gk_R 14 i :: As) := gk_runV wc_X12_refuse (gn_mem 813 (by decide +kernel) (by decide +kernel)) wm_X12_refuse (gn_mem 22 (by decide +kernel) (by decide +kernel)) wi_X12 ⟨rfl, by decide +kernel, by decide +kernel, by decide +kernel⟩ (rc_14 hi) hn
theorem cr_X12_146 {i : Nat} (hi : i < gk_cnt 14) {As : List gk_V} (hn : As.length = 0) : gk_Run RX12 (.invokevirtual 146) yX12_here cX12_here 1 (some .int) (gk_R 14 i :: As) := gk_runV wc_X12_here (gn_mem 829 (by decide +kernel) (by decide +kernel)) wm_X12_here (gn_mem 24 (by decide +kernel) (by decide +kernel)) wi_X12 ⟨rfl, by decide +kernel, by decide +kernel, by decide +kernel⟩ (rc_14 hi) hn
theorem cr_X12_153 {i : Nat} (hi : i < gk_cnt 14) {As : List gk_V} (hn : As.length = 0) : gk_Run RX12 (.invokevirtual 153) yX12_readDigit cX12_readDigit 1 (some .int) (gk_R 14 i :: As) := gk_runV wc_X12_readDigit (gn_mem 833 (by decide +kernel) (by decide +kernel)) wm_X12_readDigit (gn_mem 25 (by decide +kernel) (by decide +kernel)) wi_X12 ⟨rfl, by decide +kernel, by decide +kernel, by decide +kernel⟩ (rc_14 hi) hn
theorem cr_X12_156 {i : Nat} (hi : i < gk_cnt 14) {As : List gk_V} (hn : As.length = 1) : gk_Run RX12 (.invokevirtual 156) yX12_readNumber cX12_readNumber 4 (some .int) (gk_R 14 i :: As) := gk_runV wc_X12_readNumber (gn_mem 842 (by decide +kernel) (by decide +kernel)) wm_X12_readNumber (gn_mem 26 (by decide +kernel) (by decide +kernel)) wi_X12 ⟨rfl, by decide +kernel, by decide +kernel, by decide +kernel⟩ (rc_14 hi) hn
theorem cr_X12_162 {i : Nat} (hi : i < gk_cnt 14) {As : List gk_V} (hn : As.length = 0) : gk_Run RX12 (.invokevirtual 162) yX12_readComma cX12_readComma 1 none (gk_R 14 i :: As) := gk_runV wc_X12_readComma (gn_mem 846 (by decide +kernel) (by decide +kernel)) wm_X12_readComma (gn_mem 27 (by decide +kernel) (by decide +kernel)) wi_X12 ⟨rfl, by decide +kernel, by decide +kernel, by decide +kernel⟩ (rc_14 hi) hn
theorem cr_X12_165 {i : Nat} (hi : i < gk_cnt 14) {As : List gk_V} (hn : As.length = 1) : gk_Run RX12 (.invokevirtual 165) yX12_readSigned cX12_readSigned 4 (some .int) (gk_R 14 i :: As) := gk_runV wc_X12_readSigned (gn_mem 850 (by decide +kernel) (by decide +kernel)) wm_X12_readSigned (gn_mem 28 (by decide +kernel) (by decide +kernel)) wi_X12 ⟨rfl, by decide +kernel, by decide +kernel, by decide +kernel⟩ (rc_14 hi) hn
theorem cr_X12_168 {i : Nat} (hi : i < gk_cnt 14) {As : List gk_V} (hn : As.length = 1) : gk_Run RX12 (.invokevirtual 168) yX12_shipComes cX12_shipComes 2 (some .boolean) (gk_R 14 i :: As) := gk_runV wc_X12_shipComes (gn_mem 862 (by decide +kernel) (by decide +kernel)) wm_X12_shipComes (gn_mem 31 (by decide +kernel) (by decide +kernel)) wi_X12 ⟨rfl, by decide +kernel, by decide +kernel, by decide +kernel⟩ (rc_14 hi) hn
theorem cr_X12_179 {i : Nat} (hi : i < gk_cnt 14) {As : List gk_V} (hn : As.length = 0) : gk_Run RX12 (.invokevirtual 179) yX12_readStatement cX12_readStatement 4 none (gk_R 14 i :: As) := gk_runV wc_X12_readStatement (gn_mem 825 (by decide +kernel) (by decide +kernel)) wm_X12_readStatement (gn_mem 23 (by decide +kernel) (by decide +kernel)) wi_X12 ⟨rfl, by decide +kernel, by decide +kernel, by decide +kernel⟩ (rc_14 hi) hn
theorem cr_X12_182 {i : Nat} (hi : i < gk_cnt 14) {As : List gk_V} (hn : As.length = 0) : gk_Run RX12 (.invokevirtual 182) yX12_open0 cX12_open0 1 none (gk_R 14 i :: As) := gk_runV wc_X12_open0 (gn_mem 854 (by decide +kernel) (by decide +kernel)) wm_X12_open0 (gn_mem 29 (by decide +kernel) (by decide +kernel)) wi_X12 ⟨rfl, by decide +kernel, by decide +kernel, by decide +kernel⟩ (rc_14 hi) hn
theorem cr_X12_185 {i : Nat} (hi : i < gk_cnt 14) {As : List gk_V} (hn : As.length = 1) : gk_Run RX12 (.invokevirtual 185) yX12_comes cX12_comes 4 (some .boolean) (gk_R 14 i :: As) := gk_runV wc_X12_comes (gn_mem 858 (by decide +kernel) (by decide +kernel)) wm_X12_comes (gn_mem 30 (by decide +kernel) (by decide +kernel)) wi_X12 ⟨rfl, by decide +kernel, by decide +kernel, by decide +kernel⟩ (rc_14 hi) hn
theorem cr_X12_188 {i : Nat} (hi : i < gk_cnt 14) {As : List gk_V} (hn : As.length = 0) : gk_Run RX12 (.invokevirtual 188) yX12_close cX12_close 1 none (gk_R 14 i :: As) := gk_runV wc_X12_close (gn_mem 870 (by decide +kernel) (by decide +kernel)) wm_X12_close (gn_mem 32 (by decide +kernel) (by decide +kernel)) wi_X12 ⟨rfl, by decide +kernel, by decide +kernel, by decide +kernel⟩ (rc_14 hi) hn
theorem cr_X12_196 {i : Nat} (hi : i < gk_cnt 14) {As : List gk_V} (hn : As.length = 1) : gk_Run RX12 (.invokevirtual 196) yX12_windTold cX12_windTold 2 (some .int) (gk_R 14 i :: As) := gk_runV wc_X12_windTold (gn_mem 897 (by decide +kernel) (by decide +kernel)) wm_X12_windTold (gn_mem 36 (by decide +kernel) (by decide +kernel)) wi_X12 ⟨rfl, by decide +kernel, by decide +kernel, by decide +kernel⟩ (rc_14 hi) hn
theorem cr_X12_199 {i : Nat} (hi : i < gk_cnt 14) {As : List gk_V} (hn : As.length = 1) : gk_Run RX12 (.invokevirtual 199) yX12_daysOn cX12_daysOn 4 (some .int) (gk_R 14 i :: As) := gk_runV wc_X12_daysOn (gn_mem 913 (by decide +kernel) (by decide +kernel)) wm_X12_daysOn (gn_mem 37 (by decide +kernel) (by decide +kernel)) wi_X12 ⟨rfl, by decide +kernel, by decide +kernel, by decide +kernel⟩ (rc_14 hi) hn
theorem cr_X12_202 {i : Nat} (hi : i < gk_cnt 14) {As : List gk_V} (hn : As.length = 2) : gk_Run RX12 (.invokevirtual 202) yX12_areTwo cX12_areTwo 3 (some .boolean) (gk_R 14 i :: As) := gk_runV wc_X12_areTwo (gn_mem 929 (by decide +kernel) (by decide +kernel)) wm_X12_areTwo (gn_mem 40 (by decide +kernel) (by decide +kernel)) wi_X12 ⟨rfl, by decide +kernel, by decide +kernel, by decide +kernel⟩ (rc_14 hi) hn
theorem cr_X12_208 {As : List gk_V} (hn : As.length = 2) : gk_Run RX12 (.invokestatic 208) yX12_wrongDays cX12_wrongDays 2 (some .int) As := gk_runS wc_X12_wrongDays (gn_mem 949 (by decide +kernel) (by decide +kernel)) wm_X12_wrongDays wi_X12 ⟨by decide +kernel, by decide +kernel, by decide +kernel⟩ hn
theorem cr_X12_215 {i : Nat} (hi : i < gk_cnt 14) {As : List gk_V} (hn : As.length = 2) : gk_Run RX12 (.invokevirtual 215) yX12_isOpen cX12_isOpen 3 (some .boolean) (gk_R 14 i :: As) := gk_runV wc_X12_isOpen (gn_mem 970 (by decide +kernel) (by decide +kernel)) wm_X12_isOpen (gn_mem 43 (by decide +kernel) (by decide +kernel)) wi_X12 ⟨rfl, by decide +kernel, by decide +kernel, by decide +kernel⟩ (rc_14 hi) hn
theorem cr_X12_218 {i : Nat} (hi : i < gk_cnt 14) {As : List gk_V} (hn : As.length = 1) : gk_Run RX12 (.invokevirtual 218) yX12_reachOn cX12_reachOn 5 (some .int) (gk_R 14 i :: As) := gk_runV wc_X12_reachOn (gn_mem 966 (by decide +kernel) (by decide +kernel)) wm_X12_reachOn (gn_mem 42 (by decide +kernel) (by decide +kernel)) wi_X12 ⟨rfl, by decide +kernel, by decide +kernel, by decide +kernel⟩ (rc_14 hi) hn
theorem cr_X12_221 {i : Nat} (hi : i < gk_cnt 14) {As : List gk_V} (hn : As.length = 1) : gk_Run RX12 (.invokevirtual 221) yX12_hungryIn cX12_hungryIn 4 (some .int) (gk_R 14 i :: As) := gk_runV wc_X12_hungryIn (gn_mem 998 (by decide +kernel) (by decide +kernel)) wm_X12_hungryIn (gn_mem 44 (by decide +kernel) (by decide +kernel)) wi_X12 ⟨rfl, by decide +kernel, by decide +kernel, by decide +kernel⟩ (rc_14 hi) hn
theorem cr_X12_224 {As : List gk_V} (hn : As.length = 2) : gk_Run RX12 (.invokestatic 224) yX12_held cX12_held 2 (some .int) As := gk_runS wc_X12_held (gn_mem 1010 (by decide +kernel) (by decide +kernel)) wm_X12_held wi_X12 ⟨by decide +kernel, by decide +kernel, by decide +kernel⟩ hn
theorem cr_X12_227 {i : Nat} (hi : i < gk_cnt 14) {As : List gk_V} (hn : As.length = 2) : gk_Run RX12 (.invokevirtual 227) yX12_hungryWithout cX12_hungryWithout 5 (some .int) (gk_R 14 i :: As) := gk_runV wc_X12_hungryWithout (gn_mem 1017 (by decide +kernel) (by decide +kernel)) wm_X12_hungryWithout (gn_mem 45 (by decide +kernel) (by decide +kernel)) wi_X12 ⟨rfl, by decide +kernel, by decide +kernel, by decide +kernel⟩ (rc_14 hi) hn
theorem cr_X12_239 {i : Nat} (hi : i < gk_cnt 14) {As : List gk_V} (hn : As.length = 1) : gk_Run RX12 (.invokevirtual 239) yX12_draw cX12_draw 2 (some .int) (gk_R 14 i :: As) := gk_runV wc_X12_draw (gn_mem 1041 (by decide +kernel) (by decide +kernel)) wm_X12_draw (gn_mem 46 (by decide +kernel) (by decide +kernel)) wi_X12 ⟨rfl, by decide +kernel, by decide +kernel, by decide +kernel⟩ (rc_14 hi) hn
theorem cr_X12_242 {i : Nat} (hi : i < gk_cnt 14) {As : List gk_V} (hn : As.length = 1) : gk_Run RX12 (.invokevirtual 242) yX12_sumOf cX12_sumOf 4 (some .int) (gk_R 14 i :: As) := gk_runV wc_X12_sumOf (gn_mem 1052 (by decide +kernel) (by decide +kernel)) wm_X12_sumOf (gn_mem 47 (by decide +kernel) (by decide +kernel)) wi_X12 ⟨rfl, by decide +kernel, by decide +kernel, by decide +kernel⟩ (rc_14 hi) hn
theorem cr_X12_246 {i : Nat} (hi : i < gk_cnt 14) {As : List gk_V} (hn : As.length = 0) : gk_Run RX12 (.invokevirtual 246) yX12_openLeads cX12_openLeads 4 (some .int) (gk_R 14 i :: As) := gk_runV wc_X12_openLeads (gn_mem 1056 (by decide +kernel) (by decide +kernel)) wm_X12_openLeads (gn_mem 48 (by decide +kernel) (by decide +kernel)) wi_X12 ⟨rfl, by decide +kernel, by decide +kernel, by decide +kernel⟩ (rc_14 hi) hn
theorem cr_X2_7 {i : Nat} (hi : i < gk_cnt 1) {As : List gk_V} (hn : As.length = 2) : gk_Run RX2 (.invokespecial 7) yX3_eastward cX3_eastward 3 (some .int) (gk_R 1 i :: As) := gk_runSU wc_X3_eastward (gn_mem 411 (by decide +kernel) (by decide +kernel)) (gn_mem 1062 (by decide +kernel) (by decide +kernel)) (gn_mem 114 (by decide +kernel) (by decide +kernel)) wm_X3_eastward wi_X3 ⟨by decide +kernel, by decide +kernel⟩ (rc_1 hi) hn
theorem cr_X2_17 {As : List gk_V} (hn : As.length = 1) : gk_Run RX2 (.invokestatic 17) yX2_sign cX2_sign 1 (some .int) As := gk_runS wc_X2_sign (gn_mem 415 (by decide +kernel) (by decide +kernel)) wm_X2_sign wi_X2 ⟨by decide +kernel, by decide +kernel, by decide +kernel⟩ hn
theorem cr_X3_7 {i : Nat} (hi : i < gk_cnt 1) {As : List gk_V} (hn : As.length = 2) : gk_Run RX3 (.invokespecial 7) yX1_eastward cX1_eastward 3 (some .int) (gk_R 1 i :: As) := gk_runSU wc_X1_eastward (gn_mem 414 (by decide +kernel) (by decide +kernel)) (gn_mem 407 (by decide +kernel) (by decide +kernel)) (gn_mem 86 (by decide +kernel) (by decide +kernel)) wm_X1_eastward wi_X1 ⟨by decide +kernel, by decide +kernel⟩ (rc_1 hi) hn
theorem cr_X3_11 {i : Nat} (hi : i < gk_cnt 1) {As : List gk_V} (hn : As.length = 2) : gk_Run RX3 (.invokespecial 11) yX1_northward cX1_northward 3 (some .int) (gk_R 1 i :: As) := gk_runSU wc_X1_northward (gn_mem 439 (by decide +kernel) (by decide +kernel)) (gn_mem 1064 (by decide +kernel) (by decide +kernel)) (gn_mem 86 (by decide +kernel) (by decide +kernel)) wm_X1_northward wi_X1 ⟨by decide +kernel, by decide +kernel⟩ (rc_1 hi) hn
theorem cr_X4_35 {i : Nat} (hi : i < gk_cnt 5) {As : List gk_V} (hn : As.length = 1) : gk_Run RX4 (.invokevirtual 35) yX8_copyFrom cX8_copyFrom 2 none (gk_R 5 i :: As) := gk_runV wc_X8_copyFrom (gn_mem 323 (by decide +kernel) (by decide +kernel)) wm_X8_copyFrom (gn_mem 325 (by decide +kernel) (by decide +kernel)) wi_X8 ⟨rfl, by decide +kernel, by decide +kernel, by decide +kernel⟩ (rc_5 hi) hn
theorem cr_X4_48 {As : List gk_V} (hn : As.length = 1) : gk_Run RX4 (.invokestatic 48) yJ9_abs_0f7a4 cJ9_abs_0f7a4 1 (some .int) As := gk_runS wc_J9_abs_0f7a4 (gn_mem 514 (by decide +kernel) (by decide +kernel)) wm_J9_abs_0f7a4 wi_J9 ⟨by decide +kernel, by decide +kernel, by decide +kernel⟩ hn
theorem cr_X4_57 {As : List gk_V} (hn : As.length = 2) : gk_Run RX4 (.invokestatic 57) yJ9_max_7cf53 cJ9_max_7cf53 2 (some .int) As := gk_runS wc_J9_max_7cf53 (gn_mem 515 (by decide +kernel) (by decide +kernel)) wm_J9_max_7cf53 wi_J9 ⟨by decide +kernel, by decide +kernel, by decide +kernel⟩ hn
theorem cr_X4_61 {i : Nat} (hi : i < gk_cnt 2) {As : List gk_V} (hn : As.length = 3) : gk_Run RX4 (.invokevirtual 61) yX4_gapToPlace cX4_gapToPlace 4 (some .int) (gk_R 2 i :: As) := gk_runV wc_X4_gapToPlace (gn_mem 510 (by decide +kernel) (by decide +kernel)) wm_X4_gapToPlace (gn_mem 512 (by decide +kernel) (by decide +kernel)) wi_X4 ⟨rfl, by decide +kernel, by decide +kernel, by decide +kernel⟩ (rc_2 hi) hn
theorem cr_X4_65 {i : Nat} (hi : i < gk_cnt 2) {As : List gk_V} (hn : As.length = 2) : gk_Run RX4 (.invokevirtual 65) yX4_gap cX4_gap 3 (some .int) (gk_R 2 i :: As) := gk_runV wc_X4_gap (gn_mem 548 (by decide +kernel) (by decide +kernel)) wm_X4_gap (gn_mem 508 (by decide +kernel) (by decide +kernel)) wi_X4 ⟨rfl, by decide +kernel, by decide +kernel, by decide +kernel⟩ (rc_2 hi) hn
theorem cr_X4_68 {i : Nat} (hi : i < gk_cnt 2) {As : List gk_V} (hn : As.length = 1) : gk_Run RX4 (.invokevirtual 68) yX4_oneLeadOn cX4_oneLeadOn 5 (some .int) (gk_R 2 i :: As) := gk_runV wc_X4_oneLeadOn (gn_mem 581 (by decide +kernel) (by decide +kernel)) wm_X4_oneLeadOn (gn_mem 546 (by decide +kernel) (by decide +kernel)) wi_X4 ⟨rfl, by decide +kernel, by decide +kernel, by decide +kernel⟩ (rc_2 hi) hn
theorem cr_X4_71 {As : List gk_V} (hn : As.length = 2) : gk_Run RX4 (.invokestatic 71) yJ9_floorMod_7cf53 cJ9_floorMod_7cf53 3 (some .int) As := gk_runS wc_J9_floorMod_7cf53 (gn_mem 401 (by decide +kernel) (by decide +kernel)) wm_J9_floorMod_7cf53 wi_J9 ⟨by decide +kernel, by decide +kernel, by decide +kernel⟩ hn
theorem cr_X4_91_0 {As : List gk_V} (hn : As.length = 2) : gk_Run RX4 (.invokevirtual 91) yX1_eastward cX1_eastward 3 (some .int) (gk_R 1 0 :: As) := gk_runV wc_X1_eastward (gn_mem 491 (by decide +kernel) (by decide +kernel)) wm_X1_eastward (gn_mem 406 (by decide +kernel) (by decide +kernel)) wi_X1 ⟨rfl, by decide +kernel, by decide +kernel, by decide +kernel⟩ (rc_1 (i := 0) (by decide)) hn
theorem cr_X4_91_1 {As : List gk_V} (hn : As.length = 2) : gk_Run RX4 (.invokevirtual 91) yX3_eastward cX3_eastward 3 (some .int) (gk_R 1 1 :: As) := gk_runO (C := RX3) (owner := RX1) (x := yX1_eastward) wc_X3_eastward wc_X1_eastward (gn_mem 491 (by decide +kernel) (by decide +kernel)) (gn_mem 407 (by decide +kernel) (by decide +kernel)) wm_X1_eastward (gn_mem 418 (by decide +kernel) (by decide +kernel)) wm_X3_eastward wi_X3 ⟨by decide +kernel, by decide +kernel, by decide +kernel⟩ (rc_1 (i := 1) (by decide)) hn
theorem cr_X4_91_2 {As : List gk_V} (hn : As.length = 2) : gk_Run RX4 (.invokevirtual 91) yX10_eastward cX10_eastward 3 (some .int) (gk_R 1 2 :: As) := gk_runO (C := RX10) (owner := RX1) (x := yX1_eastward) wc_X10_eastward wc_X1_eastward (gn_mem 491 (by decide +kernel) (by decide +kernel)) (gn_mem 407 (by decide +kernel) (by decide +kernel)) wm_X1_eastward (gn_mem 434 (by decide +kernel) (by decide +kernel)) wm_X10_eastward wi_X10 ⟨by decide +kernel, by decide +kernel, by decide +kernel⟩ (rc_1 (i := 2) (by decide)) hn
theorem cr_X4_91_3 {As : List gk_V} (hn : As.length = 2) : gk_Run RX4 (.invokevirtual 91) yX5_eastward cX5_eastward 3 (some .int) (gk_R 1 3 :: As) := gk_runO (C := RX5) (owner := RX1) (x := yX1_eastward) wc_X5_eastward wc_X1_eastward (gn_mem 491 (by decide +kernel) (by decide +kernel)) (gn_mem 407 (by decide +kernel) (by decide +kernel)) wm_X1_eastward (gn_mem 419 (by decide +kernel) (by decide +kernel)) wm_X5_eastward wi_X5 ⟨by decide +kernel, by decide +kernel, by decide +kernel⟩ (rc_1 (i := 3) (by decide)) hn
theorem cr_X4_91_4 {As : List gk_V} (hn : As.length = 2) : gk_Run RX4 (.invokevirtual 91) yX9_eastward cX9_eastward 3 (some .int) (gk_R 1 4 :: As) := gk_runO (C := RX9) (owner := RX1) (x := yX1_eastward) wc_X9_eastward wc_X1_eastward (gn_mem 491 (by decide +kernel) (by decide +kernel)) (gn_mem 407 (by decide +kernel) (by decide +kernel)) wm_X1_eastward (gn_mem 422 (by decide +kernel) (by decide +kernel)) wm_X9_eastward wi_X9 ⟨by decide +kernel, by decide +kernel, by decide +kernel⟩ (rc_1 (i := 4) (by decide)) hn
theorem cr_X4_91_5 {As : List gk_V} (hn : As.length = 2) : gk_Run RX4 (.invokevirtual 91) yX2_eastward cX2_eastward 3 (some .int) (gk_R 1 5 :: As) := gk_runO (C := RX2) (owner := RX1) (x := yX1_eastward) wc_X2_eastward wc_X1_eastward (gn_mem 491 (by decide +kernel) (by decide +kernel)) (gn_mem 407 (by decide +kernel) (by decide +kernel)) wm_X1_eastward (gn_mem 408 (by decide +kernel) (by decide +kernel)) wm_X2_eastward wi_X2 ⟨by decide +kernel, by decide +kernel, by decide +kernel⟩ (rc_1 (i := 5) (by decide)) hn
theorem cr_X4_97_0 {As : List gk_V} (hn : As.length = 2) : gk_Run RX4 (.invokevirtual 97) yX1_northward cX1_northward 3 (some .int) (gk_R 1 0 :: As) := gk_runV wc_X1_northward (gn_mem 492 (by decide +kernel) (by decide +kernel)) wm_X1_northward (gn_mem 1065 (by decide +kernel) (by decide +kernel)) wi_X1 ⟨rfl, by decide +kernel, by decide +kernel, by decide +kernel⟩ (rc_1 (i := 0) (by decide)) hn
theorem cr_X4_97_1 {As : List gk_V} (hn : As.length = 2) : gk_Run RX4 (.invokevirtual 97) yX3_northward cX3_northward 3 (some .int) (gk_R 1 1 :: As) := gk_runO (C := RX3) (owner := RX1) (x := yX1_northward) wc_X3_northward wc_X1_northward (gn_mem 492 (by decide +kernel) (by decide +kernel)) (gn_mem 1064 (by decide +kernel) (by decide +kernel)) wm_X1_northward (gn_mem 1067 (by decide +kernel) (by decide +kernel)) wm_X3_northward wi_X3 ⟨by decide +kernel, by decide +kernel, by decide +kernel⟩ (rc_1 (i := 1) (by decide)) hn
theorem cr_X4_97_2 {As : List gk_V} (hn : As.length = 2) : gk_Run RX4 (.invokevirtual 97) yX10_northward cX10_northward 3 (some .int) (gk_R 1 2 :: As) := gk_runO (C := RX10) (owner := RX1) (x := yX1_northward) wc_X10_northward wc_X1_northward (gn_mem 492 (by decide +kernel) (by decide +kernel)) (gn_mem 1064 (by decide +kernel) (by decide +kernel)) wm_X1_northward (gn_mem 1071 (by decide +kernel) (by decide +kernel)) wm_X10_northward wi_X10 ⟨by decide +kernel, by decide +kernel, by decide +kernel⟩ (rc_1 (i := 2) (by decide)) hn
theorem cr_X4_97_3 {As : List gk_V} (hn : As.length = 2) : gk_Run RX4 (.invokevirtual 97) yX5_northward cX5_northward 3 (some .int) (gk_R 1 3 :: As) := gk_runO (C := RX5) (owner := RX1) (x := yX1_northward) wc_X5_northward wc_X1_northward (gn_mem 492 (by decide +kernel) (by decide +kernel)) (gn_mem 1064 (by decide +kernel) (by decide +kernel)) wm_X1_northward (gn_mem 1068 (by decide +kernel) (by decide +kernel)) wm_X5_northward wi_X5 ⟨by decide +kernel, by decide +kernel, by decide +kernel⟩ (rc_1 (i := 3) (by decide)) hn
theorem cr_X4_97_4 {As : List gk_V} (hn : As.length = 2) : gk_Run RX4 (.invokevirtual 97) yX9_northward cX9_northward 3 (some .int) (gk_R 1 4 :: As) := gk_runO (C := RX9) (owner := RX1) (x := yX1_northward) wc_X9_northward wc_X1_northward (gn_mem 492 (by decide +kernel) (by decide +kernel)) (gn_mem 1064 (by decide +kernel) (by decide +kernel)) wm_X1_northward (gn_mem 1069 (by decide +kernel) (by decide +kernel)) wm_X9_northward wi_X9 ⟨by decide +kernel, by decide +kernel, by decide +kernel⟩ (rc_1 (i := 4) (by decide)) hn
theorem cr_X4_97_5 {As : List gk_V} (hn : As.length = 2) : gk_Run RX4 (.invokevirtual 97) yX3_northward cX3_northward 3 (some .int) (gk_R 1 5 :: As) := gk_runO (C := RX2) (owner := RX1) (x := yX1_northward) wc_X3_northward wc_X1_northward (gn_mem 492 (by decide +kernel) (by decide +kernel)) (gn_mem 1064 (by decide +kernel) (by decide +kernel)) wm_X1_northward (gn_mem 1066 (by decide +kernel) (by decide +kernel)) wm_X3_northward wi_X3 ⟨by decide +kernel, by decide +kernel, by decide +kernel⟩ (rc_1 (i := 5) (by decide)) hn
theorem cr_X4_100 {i : Nat} (hi : i < gk_cnt 5) {As : List gk_V} (hn : As.length = 0) : gk_Run RX4 (.invokevirtual 100) yX8_eat cX8_eat 2 (some .int) (gk_R 5 i :: As) := gk_runV wc_X8_eat (gn_mem 493 (by decide +kernel) (by decide +kernel)) wm_X8_eat (gn_mem 495 (by decide +kernel) (by decide +kernel)) wi_X8 ⟨rfl, by decide +kernel, by decide +kernel, by decide +kernel⟩ (rc_5 hi) hn
theorem cr_X4_110 {i : Nat} (hi : i < gk_cnt 2) {As : List gk_V} (hn : As.length = 3) : gk_Run RX4 (.invokevirtual 110) yX4_nearestTo cX4_nearestTo 6 (some .int) (gk_R 2 i :: As) := gk_runV wc_X4_nearestTo (gn_mem 613 (by decide +kernel) (by decide +kernel)) wm_X4_nearestTo (gn_mem 615 (by decide +kernel) (by decide +kernel)) wi_X4 ⟨rfl, by decide +kernel, by decide +kernel, by decide +kernel⟩ (rc_2 hi) hn
theorem cr_X4_113 {i : Nat} (hi : i < gk_cnt 2) {As : List gk_V} (hn : As.length = 1) : gk_Run RX4 (.invokevirtual 113) yX4_has cX4_has 2 (some .boolean) (gk_R 2 i :: As) := gk_runV wc_X4_has (gn_mem 617 (by decide +kernel) (by decide +kernel)) wm_X4_has (gn_mem 384 (by decide +kernel) (by decide +kernel)) wi_X4 ⟨rfl, by decide +kernel, by decide +kernel, by decide +kernel⟩ (rc_2 hi) hn
theorem cr_X4_117 {As : List gk_V} (hn : As.length = 2) : gk_Run RX4 (.invokestatic 117) yJ9_min_7cf53 cJ9_min_7cf53 2 (some .int) As := gk_runS wc_J9_min_7cf53 (gn_mem 618 (by decide +kernel) (by decide +kernel)) wm_J9_min_7cf53 wi_J9 ⟨by decide +kernel, by decide +kernel, by decide +kernel⟩ hn
theorem cr_X6_26 {i : Nat} (hi : i < gk_cnt 3) {As : List gk_V} (hn : As.length = 1) : gk_Run RX6 (.invokevirtual 26) yX6_readStatement cX6_readStatement 3 (some .boolean) (gk_R 3 i :: As) := gk_runV wc_X6_readStatement (gn_mem 331 (by decide +kernel) (by decide +kernel)) wm_X6_readStatement (gn_mem 1 (by decide +kernel) (by decide +kernel)) wi_X6 ⟨rfl, by decide +kernel, by decide +kernel, by decide +kernel⟩ (rc_3 hi) hn
theorem cr_X6_30 {i : Nat} (hi : i < gk_cnt 3) {As : List gk_V} (hn : As.length = 1) : gk_Run RX6 (.invokevirtual 30) yX6_take cX6_take 3 (some .boolean) (gk_R 3 i :: As) := gk_runV wc_X6_take (gn_mem 335 (by decide +kernel) (by decide +kernel)) wm_X6_take (gn_mem 2 (by decide +kernel) (by decide +kernel)) wi_X6 ⟨rfl, by decide +kernel, by decide +kernel, by decide +kernel⟩ (rc_3 hi) hn
theorem cr_X6_34 {i : Nat} (hi : i < gk_cnt 3) {As : List gk_V} (hn : As.length = 1) : gk_Run RX6 (.invokevirtual 34) yX6_readShip cX6_readShip 9 (some .boolean) (gk_R 3 i :: As) := gk_runV wc_X6_readShip (gn_mem 339 (by decide +kernel) (by decide +kernel)) wm_X6_readShip (gn_mem 3 (by decide +kernel) (by decide +kernel)) wi_X6 ⟨rfl, by decide +kernel, by decide +kernel, by decide +kernel⟩ (rc_3 hi) hn
theorem cr_X6_37 {i : Nat} (hi : i < gk_cnt 3) {As : List gk_V} (hn : As.length = 1) : gk_Run RX6 (.invokevirtual 37) yX6_readWind cX6_readWind 5 (some .boolean) (gk_R 3 i :: As) := gk_runV wc_X6_readWind (gn_mem 359 (by decide +kernel) (by decide +kernel)) wm_X6_readWind (gn_mem 8 (by decide +kernel) (by decide +kernel)) wi_X6 ⟨rfl, by decide +kernel, by decide +kernel, by decide +kernel⟩ (rc_3 hi) hn
theorem cr_X6_40 {i : Nat} (hi : i < gk_cnt 3) {As : List gk_V} (hn : As.length = 1) : gk_Run RX6 (.invokevirtual 40) yX6_readReach cX6_readReach 2 (some .boolean) (gk_R 3 i :: As) := gk_runV wc_X6_readReach (gn_mem 366 (by decide +kernel) (by decide +kernel)) wm_X6_readReach (gn_mem 9 (by decide +kernel) (by decide +kernel)) wi_X6 ⟨rfl, by decide +kernel, by decide +kernel, by decide +kernel⟩ (rc_3 hi) hn
theorem cr_X6_43 {i : Nat} (hi : i < gk_cnt 3) {As : List gk_V} (hn : As.length = 1) : gk_Run RX6 (.invokevirtual 43) yX6_readSight cX6_readSight 2 (some .boolean) (gk_R 3 i :: As) := gk_runV wc_X6_readSight (gn_mem 370 (by decide +kernel) (by decide +kernel)) wm_X6_readSight (gn_mem 10 (by decide +kernel) (by decide +kernel)) wi_X6 ⟨rfl, by decide +kernel, by decide +kernel, by decide +kernel⟩ (rc_3 hi) hn
theorem cr_X6_46 {i : Nat} (hi : i < gk_cnt 3) {As : List gk_V} (hn : As.length = 1) : gk_Run RX6 (.invokevirtual 46) yX6_need cX6_need 2 none (gk_R 3 i :: As) := gk_runV wc_X6_need (gn_mem 351 (by decide +kernel) (by decide +kernel)) wm_X6_need (gn_mem 6 (by decide +kernel) (by decide +kernel)) wi_X6 ⟨rfl, by decide +kernel, by decide +kernel, by decide +kernel⟩ (rc_3 hi) hn
theorem cr_X6_50 {i : Nat} (hi : i < gk_cnt 3) {As : List gk_V} (hn : As.length = 1) : gk_Run RX6 (.invokevirtual 50) yX6_readNumber cX6_readNumber 4 (some .int) (gk_R 3 i :: As) := gk_runV wc_X6_readNumber (gn_mem 343 (by decide +kernel) (by decide +kernel)) wm_X6_readNumber (gn_mem 4 (by decide +kernel) (by decide +kernel)) wi_X6 ⟨rfl, by decide +kernel, by decide +kernel, by decide +kernel⟩ (rc_3 hi) hn
theorem cr_X6_54 {i : Nat} (hi : i < gk_cnt 3) {As : List gk_V} (hn : As.length = 1) : gk_Run RX6 (.invokevirtual 54) yX6_readSigned cX6_readSigned 2 (some .int) (gk_R 3 i :: As) := gk_runV wc_X6_readSigned (gn_mem 355 (by decide +kernel) (by decide +kernel)) wm_X6_readSigned (gn_mem 7 (by decide +kernel) (by decide +kernel)) wi_X6 ⟨rfl, by decide +kernel, by decide +kernel, by decide +kernel⟩ (rc_3 hi) hn
theorem cr_X6_86 {As : List gk_V} (hn : As.length = 1) : gk_Run RX6 (.invokestatic 86) yJ9_abs_0f7a4 cJ9_abs_0f7a4 1 (some .int) As := gk_runS wc_J9_abs_0f7a4 (gn_mem 363 (by decide +kernel) (by decide +kernel)) wm_J9_abs_0f7a4 wi_J9 ⟨by decide +kernel, by decide +kernel, by decide +kernel⟩ hn
theorem cr_X6_103 {i : Nat} (hi : i < gk_cnt 3) {As : List gk_V} (hn : As.length = 0) : gk_Run RX6 (.invokevirtual 103) yX6_isDigitNext cX6_isDigitNext 1 (some .boolean) (gk_R 3 i :: As) := gk_runV wc_X6_isDigitNext (gn_mem 347 (by decide +kernel) (by decide +kernel)) wm_X6_isDigitNext (gn_mem 5 (by decide +kernel) (by decide +kernel)) wi_X6 ⟨rfl, by decide +kernel, by decide +kernel, by decide +kernel⟩ (rc_3 hi) hn
theorem cr_X8_28 {As : List gk_V} (hn : As.length = 2) : gk_Run RX8 (.invokestatic 28) yJ9_min_7cf53 cJ9_min_7cf53 2 (some .int) As := gk_runS wc_J9_min_7cf53 (gn_mem 497 (by decide +kernel) (by decide +kernel)) wm_J9_min_7cf53 wi_J9 ⟨by decide +kernel, by decide +kernel, by decide +kernel⟩ hn
theorem cr_X9_13 {As : List gk_V} (hn : As.length = 2) : gk_Run RX9 (.invokestatic 13) yX9_way cX9_way 3 (some .int) As := gk_runS wc_X9_way (gn_mem 425 (by decide +kernel) (by decide +kernel)) wm_X9_way wi_X9 ⟨by decide +kernel, by decide +kernel, by decide +kernel⟩ hn
theorem cr_X9_19 {i : Nat} (hi : i < gk_cnt 1) {As : List gk_V} (hn : As.length = 2) : gk_Run RX9 (.invokespecial 19) yX10_eastward cX10_eastward 3 (some .int) (gk_R 1 i :: As) := gk_runSU wc_X10_eastward (gn_mem 428 (by decide +kernel) (by decide +kernel)) (gn_mem 1063 (by decide +kernel) (by decide +kernel)) (gn_mem 107 (by decide +kernel) (by decide +kernel)) wm_X10_eastward wi_X10 ⟨by decide +kernel, by decide +kernel⟩ (rc_1 hi) hn
theorem cr_X9_23 {i : Nat} (hi : i < gk_cnt 1) {As : List gk_V} (hn : As.length = 2) : gk_Run RX9 (.invokespecial 23) yX10_northward cX10_northward 3 (some .int) (gk_R 1 i :: As) := gk_runSU wc_X10_northward (gn_mem 444 (by decide +kernel) (by decide +kernel)) (gn_mem 1070 (by decide +kernel) (by decide +kernel)) (gn_mem 107 (by decide +kernel) (by decide +kernel)) wm_X10_northward wi_X10 ⟨by decide +kernel, by decide +kernel⟩ (rc_1 hi) hn
theorem kc_X11_120 : Cond.constant RX11 120 (1000000) ∈ gn_tbl := (gn_mem 392 (by decide +kernel) (by decide +kernel))
theorem kc_X11_178 : Cond.constantLong RX11 178 (4000000000000000000) ∈ gn_tbl := (gn_mem 526 (by decide +kernel) (by decide +kernel))
theorem kc_X11_180 : Cond.constantLong RX11 180 (100000) ∈ gn_tbl := (gn_mem 527 (by decide +kernel) (by decide +kernel))
theorem kc_X7_13 : Cond.constant RX7 13 (1103515245) ∈ gn_tbl := (gn_mem 661 (by decide +kernel) (by decide +kernel))
theorem kc_X7_14 : Cond.constant RX7 14 (2147483647) ∈ gn_tbl := (gn_mem 662 (by decide +kernel) (by decide +kernel))
theorem kc_X7_15 : Cond.constant RX7 15 (65536) ∈ gn_tbl := (gn_mem 663 (by decide +kernel) (by decide +kernel))
theorem kc_X12_149 : Cond.constantLong RX12 149 (48) ∈ gn_tbl := (gn_mem 837 (by decide +kernel) (by decide +kernel))
theorem kc_X12_151 : Cond.constantLong RX12 151 (57) ∈ gn_tbl := (gn_mem 838 (by decide +kernel) (by decide +kernel))
theorem kc_X12_171 : Cond.constantLong RX12 171 (-4) ∈ gn_tbl := (gn_mem 866 (by decide +kernel) (by decide +kernel))
theorem kc_X12_173 : Cond.constantLong RX12 173 (4) ∈ gn_tbl := (gn_mem 867 (by decide +kernel) (by decide +kernel))
theorem kc_X12_175 : Cond.constantLong RX12 175 (40) ∈ gn_tbl := (gn_mem 868 (by decide +kernel) (by decide +kernel))
theorem kc_X12_177 : Cond.constantLong RX12 177 (99) ∈ gn_tbl := (gn_mem 869 (by decide +kernel) (by decide +kernel))
theorem kc_X12_191 : Cond.constantLong RX12 191 (7) ∈ gn_tbl := (gn_mem 882 (by decide +kernel) (by decide +kernel))
theorem kc_X12_193 : Cond.constant RX12 193 (1000000) ∈ gn_tbl := (gn_mem 891 (by decide +kernel) (by decide +kernel))
theorem kc_X12_194 : Cond.constantLong RX12 194 (6) ∈ gn_tbl := (gn_mem 896 (by decide +kernel) (by decide +kernel))
theorem kc_X12_206 : Cond.constantLong RX12 206 (2) ∈ gn_tbl := (gn_mem 944 (by decide +kernel) (by decide +kernel))
theorem kc_X12_211 : Cond.constantLong RX12 211 (4000000000000000000) ∈ gn_tbl := (gn_mem 952 (by decide +kernel) (by decide +kernel))
theorem kc_X12_213 : Cond.constantLong RX12 213 (100000) ∈ gn_tbl := (gn_mem 953 (by decide +kernel) (by decide +kernel))
theorem kc_X12_236 : Cond.constant RX12 236 (1103515245) ∈ gn_tbl := (gn_mem 1045 (by decide +kernel) (by decide +kernel))
theorem kc_X12_237 : Cond.constant RX12 237 (2147483647) ∈ gn_tbl := (gn_mem 1046 (by decide +kernel) (by decide +kernel))
theorem kc_X12_238 : Cond.constant RX12 238 (65536) ∈ gn_tbl := (gn_mem 1047 (by decide +kernel) (by decide +kernel))
theorem kc_X12_249 : Cond.constantLong RX12 249 (11) ∈ gn_tbl := (gn_mem 1060 (by decide +kernel) (by decide +kernel))
theorem kc_X12_251 : Cond.constantLong RX12 251 (16) ∈ gn_tbl := (gn_mem 1061 (by decide +kernel) (by decide +kernel))
theorem fr_X9_7 : gk_FR RX9 7 0 0 .int false := ⟨RX0, TX0, 5, tyX0, gn_inX0, fun T ρ M i _ => ⟨0, _, rfl, rfl, rfl⟩, by decide, (gn_mem 121 (by decide +kernel) (by decide +kernel)), tyX0_ok, nmX0, by decide +kernel, rfl⟩
theorem fr_X0_18 : gk_FR RX0 18 0 0 .int false := ⟨RX0, TX0, 5, tyX0, gn_inX0, fun T ρ M i _ => ⟨0, _, rfl, rfl, rfl⟩, by decide, (gn_mem 122 (by decide +kernel) (by decide +kernel)), tyX0_ok, nmX0, by decide +kernel, rfl⟩
theorem fr_X4_74 : gk_FR RX4 74 0 0 .int false := ⟨RX0, TX0, 5, tyX0, gn_inX0, fun T ρ M i _ => ⟨0, _, rfl, rfl, rfl⟩, by decide, (gn_mem 123 (by decide +kernel) (by decide +kernel)), tyX0_ok, nmX0, by decide +kernel, rfl⟩
theorem fr_X1_7 : gk_FR RX1 7 0 1 .int false := ⟨RX0, TX0, 5, tyX0, gn_inX0, fun T ρ M i _ => ⟨0, _, rfl, rfl, rfl⟩, by decide, (gn_mem 124 (by decide +kernel) (by decide +kernel)), tyX0_ok, nmX0, by decide +kernel, rfl⟩
theorem fr_X0_9 : gk_FR RX0 9 0 1 .int false := ⟨RX0, TX0, 5, tyX0, gn_inX0, fun T ρ M i _ => ⟨0, _, rfl, rfl, rfl⟩, by decide, (gn_mem 125 (by decide +kernel) (by decide +kernel)), tyX0_ok, nmX0, by decide +kernel, rfl⟩
theorem fr_X2_11 : gk_FR RX2 11 0 1 .int false := ⟨RX0, TX0, 5, tyX0, gn_inX0, fun T ρ M i _ => ⟨0, _, rfl, rfl, rfl⟩, by decide, (gn_mem 126 (by decide +kernel) (by decide +kernel)), tyX0_ok, nmX0, by decide +kernel, rfl⟩
theorem fr_X4_77 : gk_FR RX4 77 0 1 .int false := ⟨RX0, TX0, 5, tyX0, gn_inX0, fun T ρ M i _ => ⟨0, _, rfl, rfl, rfl⟩, by decide, (gn_mem 127 (by decide +kernel) (by decide +kernel)), tyX0_ok, nmX0, by decide +kernel, rfl⟩
theorem fr_X0_15 : gk_FR RX0 15 0 2 .int false := ⟨RX0, TX0, 5, tyX0, gn_inX0, fun T ρ M i _ => ⟨0, _, rfl, rfl, rfl⟩, by decide, (gn_mem 128 (by decide +kernel) (by decide +kernel)), tyX0_ok, nmX0, by decide +kernel, rfl⟩
theorem fr_X1_13 : gk_FR RX1 13 0 2 .int false := ⟨RX0, TX0, 5, tyX0, gn_inX0, fun T ρ M i _ => ⟨0, _, rfl, rfl, rfl⟩, by decide, (gn_mem 129 (by decide +kernel) (by decide +kernel)), tyX0_ok, nmX0, by decide +kernel, rfl⟩
theorem fr_X4_78 : gk_FR RX4 78 0 2 .int false := ⟨RX0, TX0, 5, tyX0, gn_inX0, fun T ρ M i _ => ⟨0, _, rfl, rfl, rfl⟩, by decide, (gn_mem 130 (by decide +kernel) (by decide +kernel)), tyX0_ok, nmX0, by decide +kernel, rfl⟩
theorem fr_X5_7 : gk_FR RX5 7 0 3 .int false := ⟨RX0, TX0, 5, tyX0, gn_inX0, fun T ρ M i _ => ⟨0, _, rfl, rfl, rfl⟩, by decide, (gn_mem 131 (by decide +kernel) (by decide +kernel)), tyX0_ok, nmX0, by decide +kernel, rfl⟩
theorem fr_X0_21 : gk_FR RX0 21 0 3 .int false := ⟨RX0, TX0, 5, tyX0, gn_inX0, fun T ρ M i _ => ⟨0, _, rfl, rfl, rfl⟩, by decide, (gn_mem 132 (by decide +kernel) (by decide +kernel)), tyX0_ok, nmX0, by decide +kernel, rfl⟩
theorem fr_X4_79 : gk_FR RX4 79 0 3 .int false := ⟨RX0, TX0, 5, tyX0, gn_inX0, fun T ρ M i _ => ⟨0, _, rfl, rfl, rfl⟩, by decide, (gn_mem 133 (by decide +kernel) (by decide +kernel)), tyX0_ok, nmX0, by decide +kernel, rfl⟩
theorem fr_X5_13 : gk_FR RX5 13 0 4 .int false := ⟨RX0, TX0, 5, tyX0, gn_inX0, fun T ρ M i _ => ⟨0, _, rfl, rfl, rfl⟩, by decide, (gn_mem 134 (by decide +kernel) (by decide +kernel)), tyX0_ok, nmX0, by decide +kernel, rfl⟩
theorem fr_X0_24 : gk_FR RX0 24 0 4 .int false := ⟨RX0, TX0, 5, tyX0, gn_inX0, fun T ρ M i _ => ⟨0, _, rfl, rfl, rfl⟩, by decide, (gn_mem 135 (by decide +kernel) (by decide +kernel)), tyX0_ok, nmX0, by decide +kernel, rfl⟩
theorem fr_X4_82 : gk_FR RX4 82 0 4 .int false := ⟨RX0, TX0, 5, tyX0, gn_inX0, fun T ρ M i _ => ⟨0, _, rfl, rfl, rfl⟩, by decide, (gn_mem 136 (by decide +kernel) (by decide +kernel)), tyX0_ok, nmX0, by decide +kernel, rfl⟩
theorem fr_X7_7 : gk_FR RX7 7 4 0 .int false := ⟨RX7, TX7, 1, tyX7, gn_inX7, fun T ρ M i _ => ⟨7, _, rfl, rfl, rfl⟩, by decide, (gn_mem 154 (by decide +kernel) (by decide +kernel)), tyX7_ok, nmX7, by decide +kernel, rfl⟩
theorem fr_X11_230 : gk_FR RX11 230 4 0 .int false := ⟨RX7, TX7, 1, tyX7, gn_inX7, fun T ρ M i _ => ⟨7, _, rfl, rfl, rfl⟩, by decide, (gn_mem 155 (by decide +kernel) (by decide +kernel)), tyX7_ok, nmX7, by decide +kernel, rfl⟩
theorem fr_X8_7 : gk_FR RX8 7 5 0 .int false := ⟨RX8, TX8, 6, tyX8, gn_inX8, fun T ρ M i _ => ⟨8, _, rfl, rfl, rfl⟩, by decide, (gn_mem 172 (by decide +kernel) (by decide +kernel)), tyX8_ok, nmX8, by decide +kernel, rfl⟩
theorem fr_X11_106 : gk_FR RX11 106 5 0 .int false := ⟨RX8, TX8, 6, tyX8, gn_inX8, fun T ρ M i _ => ⟨8, _, rfl, rfl, rfl⟩, by decide, (gn_mem 173 (by decide +kernel) (by decide +kernel)), tyX8_ok, nmX8, by decide +kernel, rfl⟩
theorem fr_X6_66 : gk_FR RX6 66 5 0 .int false := ⟨RX8, TX8, 6, tyX8, gn_inX8, fun T ρ M i _ => ⟨8, _, rfl, rfl, rfl⟩, by decide, (gn_mem 174 (by decide +kernel) (by decide +kernel)), tyX8_ok, nmX8, by decide +kernel, rfl⟩
theorem fr_X4_85 : gk_FR RX4 85 5 0 .int false := ⟨RX8, TX8, 6, tyX8, gn_inX8, fun T ρ M i _ => ⟨8, _, rfl, rfl, rfl⟩, by decide, (gn_mem 175 (by decide +kernel) (by decide +kernel)), tyX8_ok, nmX8, by decide +kernel, rfl⟩
theorem fr_X8_13 : gk_FR RX8 13 5 1 .int false := ⟨RX8, TX8, 6, tyX8, gn_inX8, fun T ρ M i _ => ⟨8, _, rfl, rfl, rfl⟩, by decide, (gn_mem 176 (by decide +kernel) (by decide +kernel)), tyX8_ok, nmX8, by decide +kernel, rfl⟩
theorem fr_X11_111 : gk_FR RX11 111 5 1 .int false := ⟨RX8, TX8, 6, tyX8, gn_inX8, fun T ρ M i _ => ⟨8, _, rfl, rfl, rfl⟩, by decide, (gn_mem 177 (by decide +kernel) (by decide +kernel)), tyX8_ok, nmX8, by decide +kernel, rfl⟩
theorem fr_X6_71 : gk_FR RX6 71 5 1 .int false := ⟨RX8, TX8, 6, tyX8, gn_inX8, fun T ρ M i _ => ⟨8, _, rfl, rfl, rfl⟩, by decide, (gn_mem 178 (by decide +kernel) (by decide +kernel)), tyX8_ok, nmX8, by decide +kernel, rfl⟩
theorem fr_X4_88 : gk_FR RX4 88 5 1 .int false := ⟨RX8, TX8, 6, tyX8, gn_inX8, fun T ρ M i _ => ⟨8, _, rfl, rfl, rfl⟩, by decide, (gn_mem 179 (by decide +kernel) (by decide +kernel)), tyX8_ok, nmX8, by decide +kernel, rfl⟩
theorem fr_X8_16 : gk_FR RX8 16 5 2 .int false := ⟨RX8, TX8, 6, tyX8, gn_inX8, fun T ρ M i _ => ⟨8, _, rfl, rfl, rfl⟩, by decide, (gn_mem 180 (by decide +kernel) (by decide +kernel)), tyX8_ok, nmX8, by decide +kernel, rfl⟩
theorem fr_X11_114 : gk_FR RX11 114 5 2 .int false := ⟨RX8, TX8, 6, tyX8, gn_inX8, fun T ρ M i _ => ⟨8, _, rfl, rfl, rfl⟩, by decide, (gn_mem 181 (by decide +kernel) (by decide +kernel)), tyX8_ok, nmX8, by decide +kernel, rfl⟩
theorem fr_X6_74 : gk_FR RX6 74 5 2 .int false := ⟨RX8, TX8, 6, tyX8, gn_inX8, fun T ρ M i _ => ⟨8, _, rfl, rfl, rfl⟩, by decide, (gn_mem 182 (by decide +kernel) (by decide +kernel)), tyX8_ok, nmX8, by decide +kernel, rfl⟩
theorem fr_X4_104 : gk_FR RX4 104 5 2 .int false := ⟨RX8, TX8, 6, tyX8, gn_inX8, fun T ρ M i _ => ⟨8, _, rfl, rfl, rfl⟩, by decide, (gn_mem 183 (by decide +kernel) (by decide +kernel)), tyX8_ok, nmX8, by decide +kernel, rfl⟩
theorem fr_X8_19 : gk_FR RX8 19 5 3 .int false := ⟨RX8, TX8, 6, tyX8, gn_inX8, fun T ρ M i _ => ⟨8, _, rfl, rfl, rfl⟩, by decide, (gn_mem 184 (by decide +kernel) (by decide +kernel)), tyX8_ok, nmX8, by decide +kernel, rfl⟩
theorem fr_X11_117 : gk_FR RX11 117 5 3 .int false := ⟨RX8, TX8, 6, tyX8, gn_inX8, fun T ρ M i _ => ⟨8, _, rfl, rfl, rfl⟩, by decide, (gn_mem 185 (by decide +kernel) (by decide +kernel)), tyX8_ok, nmX8, by decide +kernel, rfl⟩
theorem fr_X6_77 : gk_FR RX6 77 5 3 .int false := ⟨RX8, TX8, 6, tyX8, gn_inX8, fun T ρ M i _ => ⟨8, _, rfl, rfl, rfl⟩, by decide, (gn_mem 186 (by decide +kernel) (by decide +kernel)), tyX8_ok, nmX8, by decide +kernel, rfl⟩
theorem fr_X4_107 : gk_FR RX4 107 5 3 .int false := ⟨RX8, TX8, 6, tyX8, gn_inX8, fun T ρ M i _ => ⟨8, _, rfl, rfl, rfl⟩, by decide, (gn_mem 187 (by decide +kernel) (by decide +kernel)), tyX8_ok, nmX8, by decide +kernel, rfl⟩
theorem fr_X8_22 : gk_FR RX8 22 5 4 .int false := ⟨RX8, TX8, 6, tyX8, gn_inX8, fun T ρ M i _ => ⟨8, _, rfl, rfl, rfl⟩, by decide, (gn_mem 188 (by decide +kernel) (by decide +kernel)), tyX8_ok, nmX8, by decide +kernel, rfl⟩
theorem fr_X11_121 : gk_FR RX11 121 5 4 .int false := ⟨RX8, TX8, 6, tyX8, gn_inX8, fun T ρ M i _ => ⟨8, _, rfl, rfl, rfl⟩, by decide, (gn_mem 189 (by decide +kernel) (by decide +kernel)), tyX8_ok, nmX8, by decide +kernel, rfl⟩
theorem fr_X4_45 : gk_FR RX4 45 5 4 .int false := ⟨RX8, TX8, 6, tyX8, gn_inX8, fun T ρ M i _ => ⟨8, _, rfl, rfl, rfl⟩, by decide, (gn_mem 190 (by decide +kernel) (by decide +kernel)), tyX8_ok, nmX8, by decide +kernel, rfl⟩
theorem fr_X6_80 : gk_FR RX6 80 5 4 .int false := ⟨RX8, TX8, 6, tyX8, gn_inX8, fun T ρ M i _ => ⟨8, _, rfl, rfl, rfl⟩, by decide, (gn_mem 191 (by decide +kernel) (by decide +kernel)), tyX8_ok, nmX8, by decide +kernel, rfl⟩
theorem fr_X8_25 : gk_FR RX8 25 5 5 .int false := ⟨RX8, TX8, 6, tyX8, gn_inX8, fun T ρ M i _ => ⟨8, _, rfl, rfl, rfl⟩, by decide, (gn_mem 192 (by decide +kernel) (by decide +kernel)), tyX8_ok, nmX8, by decide +kernel, rfl⟩
theorem fr_X11_124 : gk_FR RX11 124 5 5 .int false := ⟨RX8, TX8, 6, tyX8, gn_inX8, fun T ρ M i _ => ⟨8, _, rfl, rfl, rfl⟩, by decide, (gn_mem 193 (by decide +kernel) (by decide +kernel)), tyX8_ok, nmX8, by decide +kernel, rfl⟩
theorem fr_X4_54 : gk_FR RX4 54 5 5 .int false := ⟨RX8, TX8, 6, tyX8, gn_inX8, fun T ρ M i _ => ⟨8, _, rfl, rfl, rfl⟩, by decide, (gn_mem 194 (by decide +kernel) (by decide +kernel)), tyX8_ok, nmX8, by decide +kernel, rfl⟩
theorem fr_X6_83 : gk_FR RX6 83 5 5 .int false := ⟨RX8, TX8, 6, tyX8, gn_inX8, fun T ρ M i _ => ⟨8, _, rfl, rfl, rfl⟩, by decide, (gn_mem 195 (by decide +kernel) (by decide +kernel)), tyX8_ok, nmX8, by decide +kernel, rfl⟩
theorem fr_X4_9 : gk_FR RX4 9 2 0 (.array .int) true := ⟨RX4, TX4, 8, tyX4, gn_inX4, fun T ρ M i _ => ⟨4, _, rfl, rfl, rfl⟩, by decide, (gn_mem 210 (by decide +kernel) (by decide +kernel)), tyX4_ok, nmX4, by decide +kernel, rfl⟩
theorem fr_X6_91 : gk_FR RX6 91 2 0 (.array .int) true := ⟨RX4, TX4, 8, tyX4, gn_inX4, fun T ρ M i _ => ⟨4, _, rfl, rfl, rfl⟩, by decide, (gn_mem 211 (by decide +kernel) (by decide +kernel)), tyX4_ok, nmX4, by decide +kernel, rfl⟩
theorem fr_X11_142 : gk_FR RX11 142 2 0 (.array .int) true := ⟨RX4, TX4, 8, tyX4, gn_inX4, fun T ρ M i _ => ⟨4, _, rfl, rfl, rfl⟩, by decide, (gn_mem 212 (by decide +kernel) (by decide +kernel)), tyX4_ok, nmX4, by decide +kernel, rfl⟩
theorem fr_X4_15 : gk_FR RX4 15 2 1 (.array .int) true := ⟨RX4, TX4, 8, tyX4, gn_inX4, fun T ρ M i _ => ⟨4, _, rfl, rfl, rfl⟩, by decide, (gn_mem 213 (by decide +kernel) (by decide +kernel)), tyX4_ok, nmX4, by decide +kernel, rfl⟩
theorem fr_X6_94 : gk_FR RX6 94 2 1 (.array .int) true := ⟨RX4, TX4, 8, tyX4, gn_inX4, fun T ρ M i _ => ⟨4, _, rfl, rfl, rfl⟩, by decide, (gn_mem 214 (by decide +kernel) (by decide +kernel)), tyX4_ok, nmX4, by decide +kernel, rfl⟩
theorem fr_X11_145 : gk_FR RX11 145 2 1 (.array .int) true := ⟨RX4, TX4, 8, tyX4, gn_inX4, fun T ρ M i _ => ⟨4, _, rfl, rfl, rfl⟩, by decide, (gn_mem 215 (by decide +kernel) (by decide +kernel)), tyX4_ok, nmX4, by decide +kernel, rfl⟩
theorem fr_X4_20 : gk_FR RX4 20 2 2 (.array (.object "NineInThePack$Ship")) true := ⟨RX4, TX4, 8, tyX4, gn_inX4, fun T ρ M i _ => ⟨4, _, rfl, rfl, rfl⟩, by decide, (gn_mem 216 (by decide +kernel) (by decide +kernel)), tyX4_ok, nmX4, by decide +kernel, rfl⟩
theorem fr_X11_102 : gk_FR RX11 102 2 2 (.array (.object "NineInThePack$Ship")) true := ⟨RX4, TX4, 8, tyX4, gn_inX4, fun T ρ M i _ => ⟨4, _, rfl, rfl, rfl⟩, by decide, (gn_mem 217 (by decide +kernel) (by decide +kernel)), tyX4_ok, nmX4, by decide +kernel, rfl⟩
theorem fr_X6_62 : gk_FR RX6 62 2 2 (.array (.object "NineInThePack$Ship")) true := ⟨RX4, TX4, 8, tyX4, gn_inX4, fun T ρ M i _ => ⟨4, _, rfl, rfl, rfl⟩, by decide, (gn_mem 218 (by decide +kernel) (by decide +kernel)), tyX4_ok, nmX4, by decide +kernel, rfl⟩
theorem fr_X4_32 : gk_FR RX4 32 2 3 .int false := ⟨RX4, TX4, 8, tyX4, gn_inX4, fun T ρ M i _ => ⟨4, _, rfl, rfl, rfl⟩, by decide, (gn_mem 219 (by decide +kernel) (by decide +kernel)), tyX4_ok, nmX4, by decide +kernel, rfl⟩
theorem fr_X6_57 : gk_FR RX6 57 2 3 .int false := ⟨RX4, TX4, 8, tyX4, gn_inX4, fun T ρ M i _ => ⟨4, _, rfl, rfl, rfl⟩, by decide, (gn_mem 220 (by decide +kernel) (by decide +kernel)), tyX4_ok, nmX4, by decide +kernel, rfl⟩
theorem fr_X11_192 : gk_FR RX11 192 2 3 .int false := ⟨RX4, TX4, 8, tyX4, gn_inX4, fun T ρ M i _ => ⟨4, _, rfl, rfl, rfl⟩, by decide, (gn_mem 221 (by decide +kernel) (by decide +kernel)), tyX4_ok, nmX4, by decide +kernel, rfl⟩
theorem fr_X4_39 : gk_FR RX4 39 2 4 .int false := ⟨RX4, TX4, 8, tyX4, gn_inX4, fun T ρ M i _ => ⟨4, _, rfl, rfl, rfl⟩, by decide, (gn_mem 222 (by decide +kernel) (by decide +kernel)), tyX4_ok, nmX4, by decide +kernel, rfl⟩
theorem fr_X11_158 : gk_FR RX11 158 2 4 .int false := ⟨RX4, TX4, 8, tyX4, gn_inX4, fun T ρ M i _ => ⟨4, _, rfl, rfl, rfl⟩, by decide, (gn_mem 223 (by decide +kernel) (by decide +kernel)), tyX4_ok, nmX4, by decide +kernel, rfl⟩
theorem fr_X4_24 : gk_FR RX4 24 2 5 .int false := ⟨RX4, TX4, 8, tyX4, gn_inX4, fun T ρ M i _ => ⟨4, _, rfl, rfl, rfl⟩, by decide, (gn_mem 224 (by decide +kernel) (by decide +kernel)), tyX4_ok, nmX4, by decide +kernel, rfl⟩
theorem fr_X6_97 : gk_FR RX6 97 2 5 .int false := ⟨RX4, TX4, 8, tyX4, gn_inX4, fun T ρ M i _ => ⟨4, _, rfl, rfl, rfl⟩, by decide, (gn_mem 225 (by decide +kernel) (by decide +kernel)), tyX4_ok, nmX4, by decide +kernel, rfl⟩
theorem fr_X11_152 : gk_FR RX11 152 2 5 .int false := ⟨RX4, TX4, 8, tyX4, gn_inX4, fun T ρ M i _ => ⟨4, _, rfl, rfl, rfl⟩, by decide, (gn_mem 226 (by decide +kernel) (by decide +kernel)), tyX4_ok, nmX4, by decide +kernel, rfl⟩
theorem fr_X4_28 : gk_FR RX4 28 2 6 .int false := ⟨RX4, TX4, 8, tyX4, gn_inX4, fun T ρ M i _ => ⟨4, _, rfl, rfl, rfl⟩, by decide, (gn_mem 227 (by decide +kernel) (by decide +kernel)), tyX4_ok, nmX4, by decide +kernel, rfl⟩
theorem fr_X11_155 : gk_FR RX11 155 2 6 .int false := ⟨RX4, TX4, 8, tyX4, gn_inX4, fun T ρ M i _ => ⟨4, _, rfl, rfl, rfl⟩, by decide, (gn_mem 228 (by decide +kernel) (by decide +kernel)), tyX4_ok, nmX4, by decide +kernel, rfl⟩
theorem fr_X6_100 : gk_FR RX6 100 2 6 .int false := ⟨RX4, TX4, 8, tyX4, gn_inX4, fun T ρ M i _ => ⟨4, _, rfl, rfl, rfl⟩, by decide, (gn_mem 229 (by decide +kernel) (by decide +kernel)), tyX4_ok, nmX4, by decide +kernel, rfl⟩
theorem fr_X4_42 : gk_FR RX4 42 2 7 .int false := ⟨RX4, TX4, 8, tyX4, gn_inX4, fun T ρ M i _ => ⟨4, _, rfl, rfl, rfl⟩, by decide, (gn_mem 230 (by decide +kernel) (by decide +kernel)), tyX4_ok, nmX4, by decide +kernel, rfl⟩
theorem fr_X11_169 : gk_FR RX11 169 2 7 .int false := ⟨RX4, TX4, 8, tyX4, gn_inX4, fun T ρ M i _ => ⟨4, _, rfl, rfl, rfl⟩, by decide, (gn_mem 231 (by decide +kernel) (by decide +kernel)), tyX4_ok, nmX4, by decide +kernel, rfl⟩
theorem fr_X6_9 : gk_FR RX6 9 3 0 (.array .int) true := ⟨RX6, TX6, 4, tyX6, gn_inX6, fun T ρ M i _ => ⟨6, _, rfl, rfl, rfl⟩, by decide, (gn_mem 255 (by decide +kernel) (by decide +kernel)), tyX6_ok, nmX6, by decide +kernel, rfl⟩
theorem fr_X6_15 : gk_FR RX6 15 3 1 .int false := ⟨RX6, TX6, 4, tyX6, gn_inX6, fun T ρ M i _ => ⟨6, _, rfl, rfl, rfl⟩, by decide, (gn_mem 256 (by decide +kernel) (by decide +kernel)), tyX6_ok, nmX6, by decide +kernel, rfl⟩
theorem fr_X11_76 : gk_FR RX11 76 3 1 .int false := ⟨RX6, TX6, 4, tyX6, gn_inX6, fun T ρ M i _ => ⟨6, _, rfl, rfl, rfl⟩, by decide, (gn_mem 257 (by decide +kernel) (by decide +kernel)), tyX6_ok, nmX6, by decide +kernel, rfl⟩
theorem fr_X6_19 : gk_FR RX6 19 3 2 .int false := ⟨RX6, TX6, 4, tyX6, gn_inX6, fun T ρ M i _ => ⟨6, _, rfl, rfl, rfl⟩, by decide, (gn_mem 258 (by decide +kernel) (by decide +kernel)), tyX6_ok, nmX6, by decide +kernel, rfl⟩
theorem fr_X6_22 : gk_FR RX6 22 3 3 .boolean false := ⟨RX6, TX6, 4, tyX6, gn_inX6, fun T ρ M i _ => ⟨6, _, rfl, rfl, rfl⟩, by decide, (gn_mem 259 (by decide +kernel) (by decide +kernel)), tyX6_ok, nmX6, by decide +kernel, rfl⟩
theorem fr_X11_25 : gk_FR RX11 25 6 0 (.array (.object "NineInThePack$Drift")) true := ⟨RX11, TX11, 11, tyX11, gn_inX11, fun T ρ M i _ => ⟨11, _, rfl, rfl, rfl⟩, by decide, (gn_mem 269 (by decide +kernel) (by decide +kernel)), tyX11_ok, nmX11, by decide +kernel, rfl⟩
theorem fr_X11_34 : gk_FR RX11 34 6 1 (.object "NineInThePack$Air") true := ⟨RX11, TX11, 11, tyX11, gn_inX11, fun T ρ M i _ => ⟨11, _, rfl, rfl, rfl⟩, by decide, (gn_mem 270 (by decide +kernel) (by decide +kernel)), tyX11_ok, nmX11, by decide +kernel, rfl⟩
theorem fr_X11_41 : gk_FR RX11 41 6 2 (.object "NineInThePack$Lot") true := ⟨RX11, TX11, 11, tyX11, gn_inX11, fun T ρ M i _ => ⟨11, _, rfl, rfl, rfl⟩, by decide, (gn_mem 271 (by decide +kernel) (by decide +kernel)), tyX11_ok, nmX11, by decide +kernel, rfl⟩
theorem fr_X11_48 : gk_FR RX11 48 6 3 (.object "NineInThePack$Ice") true := ⟨RX11, TX11, 11, tyX11, gn_inX11, fun T ρ M i _ => ⟨11, _, rfl, rfl, rfl⟩, by decide, (gn_mem 272 (by decide +kernel) (by decide +kernel)), tyX11_ok, nmX11, by decide +kernel, rfl⟩
theorem fr_X11_52 : gk_FR RX11 52 6 4 (.object "NineInThePack$Ice") true := ⟨RX11, TX11, 11, tyX11, gn_inX11, fun T ρ M i _ => ⟨11, _, rfl, rfl, rfl⟩, by decide, (gn_mem 273 (by decide +kernel) (by decide +kernel)), tyX11_ok, nmX11, by decide +kernel, rfl⟩
theorem fr_X11_55 : gk_FR RX11 55 6 5 (.object "NineInThePack$Ice") true := ⟨RX11, TX11, 11, tyX11, gn_inX11, fun T ρ M i _ => ⟨11, _, rfl, rfl, rfl⟩, by decide, (gn_mem 274 (by decide +kernel) (by decide +kernel)), tyX11_ok, nmX11, by decide +kernel, rfl⟩
theorem fr_X11_247 : gk_FR RX11 247 6 6 .boolean false := ⟨RX11, TX11, 11, tyX11, gn_inX11, fun T ρ M i _ => ⟨11, _, rfl, rfl, rfl⟩, by decide, (gn_mem 275 (by decide +kernel) (by decide +kernel)), tyX11_ok, nmX11, by decide +kernel, rfl⟩
theorem fr_X11_61 : gk_FR RX11 61 6 7 (.object "NineInThePack$Letters") true := ⟨RX11, TX11, 11, tyX11, gn_inX11, fun T ρ M i _ => ⟨11, _, rfl, rfl, rfl⟩, by decide, (gn_mem 276 (by decide +kernel) (by decide +kernel)), tyX11_ok, nmX11, by decide +kernel, rfl⟩
theorem fr_X11_65 : gk_FR RX11 65 6 8 (.array .int) true := ⟨RX11, TX11, 11, tyX11, gn_inX11, fun T ρ M i _ => ⟨11, _, rfl, rfl, rfl⟩, by decide, (gn_mem 277 (by decide +kernel) (by decide +kernel)), tyX11_ok, nmX11, by decide +kernel, rfl⟩
theorem fr_X11_224 : gk_FR RX11 224 6 9 .int false := ⟨RX11, TX11, 11, tyX11, gn_inX11, fun T ρ M i _ => ⟨11, _, rfl, rfl, rfl⟩, by decide, (gn_mem 278 (by decide +kernel) (by decide +kernel)), tyX11_ok, nmX11, by decide +kernel, rfl⟩
theorem fr_X11_69 : gk_FR RX11 69 6 10 (.array .int) true := ⟨RX11, TX11, 11, tyX11, gn_inX11, fun T ρ M i _ => ⟨11, _, rfl, rfl, rfl⟩, by decide, (gn_mem 279 (by decide +kernel) (by decide +kernel)), tyX11_ok, nmX11, by decide +kernel, rfl⟩
theorem fr_X12_68 : gk_FR RX12 68 14 0 .int false := ⟨RX12, TX12, 34, tyX12, gn_inX12, fun T ρ M i _ => ⟨12, _, rfl, rfl, rfl⟩, by decide, (gn_mem 694 (by decide +kernel) (by decide +kernel)), tyX12_ok, nmX12, by decide +kernel, rfl⟩
theorem fr_X12_7 : gk_FR RX12 7 14 1 .int false := ⟨RX12, TX12, 34, tyX12, gn_inX12, fun T ρ M i _ => ⟨12, _, rfl, rfl, rfl⟩, by decide, (gn_mem 695 (by decide +kernel) (by decide +kernel)), tyX12_ok, nmX12, by decide +kernel, rfl⟩
theorem fr_X12_13 : gk_FR RX12 13 14 2 .int false := ⟨RX12, TX12, 34, tyX12, gn_inX12, fun T ρ M i _ => ⟨12, _, rfl, rfl, rfl⟩, by decide, (gn_mem 696 (by decide +kernel) (by decide +kernel)), tyX12_ok, nmX12, by decide +kernel, rfl⟩
theorem fr_X12_79 : gk_FR RX12 79 14 3 .int false := ⟨RX12, TX12, 34, tyX12, gn_inX12, fun T ρ M i _ => ⟨12, _, rfl, rfl, rfl⟩, by decide, (gn_mem 697 (by decide +kernel) (by decide +kernel)), tyX12_ok, nmX12, by decide +kernel, rfl⟩
theorem fr_X12_124 : gk_FR RX12 124 14 4 .int false := ⟨RX12, TX12, 34, tyX12, gn_inX12, fun T ρ M i _ => ⟨12, _, rfl, rfl, rfl⟩, by decide, (gn_mem 698 (by decide +kernel) (by decide +kernel)), tyX12_ok, nmX12, by decide +kernel, rfl⟩
theorem fr_X12_16 : gk_FR RX12 16 14 5 (.array .int) true := ⟨RX12, TX12, 34, tyX12, gn_inX12, fun T ρ M i _ => ⟨12, _, rfl, rfl, rfl⟩, by decide, (gn_mem 699 (by decide +kernel) (by decide +kernel)), tyX12_ok, nmX12, by decide +kernel, rfl⟩
theorem fr_X12_20 : gk_FR RX12 20 14 6 (.array .int) true := ⟨RX12, TX12, 34, tyX12, gn_inX12, fun T ρ M i _ => ⟨12, _, rfl, rfl, rfl⟩, by decide, (gn_mem 700 (by decide +kernel) (by decide +kernel)), tyX12_ok, nmX12, by decide +kernel, rfl⟩
theorem fr_X12_23 : gk_FR RX12 23 14 7 (.array .int) true := ⟨RX12, TX12, 34, tyX12, gn_inX12, fun T ρ M i _ => ⟨12, _, rfl, rfl, rfl⟩, by decide, (gn_mem 701 (by decide +kernel) (by decide +kernel)), tyX12_ok, nmX12, by decide +kernel, rfl⟩
theorem fr_X12_26 : gk_FR RX12 26 14 8 (.array .int) true := ⟨RX12, TX12, 34, tyX12, gn_inX12, fun T ρ M i _ => ⟨12, _, rfl, rfl, rfl⟩, by decide, (gn_mem 702 (by decide +kernel) (by decide +kernel)), tyX12_ok, nmX12, by decide +kernel, rfl⟩
theorem fr_X12_29 : gk_FR RX12 29 14 9 (.array .int) true := ⟨RX12, TX12, 34, tyX12, gn_inX12, fun T ρ M i _ => ⟨12, _, rfl, rfl, rfl⟩, by decide, (gn_mem 703 (by decide +kernel) (by decide +kernel)), tyX12_ok, nmX12, by decide +kernel, rfl⟩
theorem fr_X12_32 : gk_FR RX12 32 14 10 (.array .int) true := ⟨RX12, TX12, 34, tyX12, gn_inX12, fun T ρ M i _ => ⟨12, _, rfl, rfl, rfl⟩, by decide, (gn_mem 704 (by decide +kernel) (by decide +kernel)), tyX12_ok, nmX12, by decide +kernel, rfl⟩
theorem fr_X12_35 : gk_FR RX12 35 14 11 (.array .int) true := ⟨RX12, TX12, 34, tyX12, gn_inX12, fun T ρ M i _ => ⟨12, _, rfl, rfl, rfl⟩, by decide, (gn_mem 705 (by decide +kernel) (by decide +kernel)), tyX12_ok, nmX12, by decide +kernel, rfl⟩
theorem fr_X12_38 : gk_FR RX12 38 14 12 (.array .int) true := ⟨RX12, TX12, 34, tyX12, gn_inX12, fun T ρ M i _ => ⟨12, _, rfl, rfl, rfl⟩, by decide, (gn_mem 706 (by decide +kernel) (by decide +kernel)), tyX12_ok, nmX12, by decide +kernel, rfl⟩
theorem fr_X12_65 : gk_FR RX12 65 14 13 .int false := ⟨RX12, TX12, 34, tyX12, gn_inX12, fun T ρ M i _ => ⟨12, _, rfl, rfl, rfl⟩, by decide, (gn_mem 707 (by decide +kernel) (by decide +kernel)), tyX12_ok, nmX12, by decide +kernel, rfl⟩
theorem fr_X12_41 : gk_FR RX12 41 14 14 (.array .int) true := ⟨RX12, TX12, 34, tyX12, gn_inX12, fun T ρ M i _ => ⟨12, _, rfl, rfl, rfl⟩, by decide, (gn_mem 708 (by decide +kernel) (by decide +kernel)), tyX12_ok, nmX12, by decide +kernel, rfl⟩
theorem fr_X12_82 : gk_FR RX12 82 14 15 .int false := ⟨RX12, TX12, 34, tyX12, gn_inX12, fun T ρ M i _ => ⟨12, _, rfl, rfl, rfl⟩, by decide, (gn_mem 709 (by decide +kernel) (by decide +kernel)), tyX12_ok, nmX12, by decide +kernel, rfl⟩
theorem fr_X12_85 : gk_FR RX12 85 14 16 .int false := ⟨RX12, TX12, 34, tyX12, gn_inX12, fun T ρ M i _ => ⟨12, _, rfl, rfl, rfl⟩, by decide, (gn_mem 710 (by decide +kernel) (by decide +kernel)), tyX12_ok, nmX12, by decide +kernel, rfl⟩
theorem fr_X12_44 : gk_FR RX12 44 14 17 (.array .int) true := ⟨RX12, TX12, 34, tyX12, gn_inX12, fun T ρ M i _ => ⟨12, _, rfl, rfl, rfl⟩, by decide, (gn_mem 711 (by decide +kernel) (by decide +kernel)), tyX12_ok, nmX12, by decide +kernel, rfl⟩
theorem fr_X12_47 : gk_FR RX12 47 14 18 (.array .int) true := ⟨RX12, TX12, 34, tyX12, gn_inX12, fun T ρ M i _ => ⟨12, _, rfl, rfl, rfl⟩, by decide, (gn_mem 712 (by decide +kernel) (by decide +kernel)), tyX12_ok, nmX12, by decide +kernel, rfl⟩
theorem fr_X12_131 : gk_FR RX12 131 14 19 .boolean false := ⟨RX12, TX12, 34, tyX12, gn_inX12, fun T ρ M i _ => ⟨12, _, rfl, rfl, rfl⟩, by decide, (gn_mem 713 (by decide +kernel) (by decide +kernel)), tyX12_ok, nmX12, by decide +kernel, rfl⟩
theorem fr_X12_117 : gk_FR RX12 117 14 20 .int false := ⟨RX12, TX12, 34, tyX12, gn_inX12, fun T ρ M i _ => ⟨12, _, rfl, rfl, rfl⟩, by decide, (gn_mem 714 (by decide +kernel) (by decide +kernel)), tyX12_ok, nmX12, by decide +kernel, rfl⟩
theorem fr_X12_110 : gk_FR RX12 110 14 21 .boolean false := ⟨RX12, TX12, 34, tyX12, gn_inX12, fun T ρ M i _ => ⟨12, _, rfl, rfl, rfl⟩, by decide, (gn_mem 715 (by decide +kernel) (by decide +kernel)), tyX12_ok, nmX12, by decide +kernel, rfl⟩
theorem fr_X12_114 : gk_FR RX12 114 14 22 (.array .int) false := ⟨RX12, TX12, 34, tyX12, gn_inX12, fun T ρ M i _ => ⟨12, _, rfl, rfl, rfl⟩, by decide, (gn_mem 716 (by decide +kernel) (by decide +kernel)), tyX12_ok, nmX12, by decide +kernel, rfl⟩
theorem fr_X12_50 : gk_FR RX12 50 14 23 (.array .int) true := ⟨RX12, TX12, 34, tyX12, gn_inX12, fun T ρ M i _ => ⟨12, _, rfl, rfl, rfl⟩, by decide, (gn_mem 717 (by decide +kernel) (by decide +kernel)), tyX12_ok, nmX12, by decide +kernel, rfl⟩
theorem fr_X12_137 : gk_FR RX12 137 14 24 .int false := ⟨RX12, TX12, 34, tyX12, gn_inX12, fun T ρ M i _ => ⟨12, _, rfl, rfl, rfl⟩, by decide, (gn_mem 718 (by decide +kernel) (by decide +kernel)), tyX12_ok, nmX12, by decide +kernel, rfl⟩
theorem fr_X12_140 : gk_FR RX12 140 14 25 .int false := ⟨RX12, TX12, 34, tyX12, gn_inX12, fun T ρ M i _ => ⟨12, _, rfl, rfl, rfl⟩, by decide, (gn_mem 719 (by decide +kernel) (by decide +kernel)), tyX12_ok, nmX12, by decide +kernel, rfl⟩
theorem fr_X12_143 : gk_FR RX12 143 14 26 .boolean false := ⟨RX12, TX12, 34, tyX12, gn_inX12, fun T ρ M i _ => ⟨12, _, rfl, rfl, rfl⟩, by decide, (gn_mem 720 (by decide +kernel) (by decide +kernel)), tyX12_ok, nmX12, by decide +kernel, rfl⟩
theorem fr_X12_159 : gk_FR RX12 159 14 27 .int false := ⟨RX12, TX12, 34, tyX12, gn_inX12, fun T ρ M i _ => ⟨12, _, rfl, rfl, rfl⟩, by decide, (gn_mem 721 (by decide +kernel) (by decide +kernel)), tyX12_ok, nmX12, by decide +kernel, rfl⟩
theorem fr_X12_53 : gk_FR RX12 53 14 28 (.array .int) true := ⟨RX12, TX12, 34, tyX12, gn_inX12, fun T ρ M i _ => ⟨12, _, rfl, rfl, rfl⟩, by decide, (gn_mem 722 (by decide +kernel) (by decide +kernel)), tyX12_ok, nmX12, by decide +kernel, rfl⟩
theorem fr_X12_56 : gk_FR RX12 56 14 29 (.array .int) true := ⟨RX12, TX12, 34, tyX12, gn_inX12, fun T ρ M i _ => ⟨12, _, rfl, rfl, rfl⟩, by decide, (gn_mem 723 (by decide +kernel) (by decide +kernel)), tyX12_ok, nmX12, by decide +kernel, rfl⟩
theorem fr_X12_59 : gk_FR RX12 59 14 30 (.array .int) true := ⟨RX12, TX12, 34, tyX12, gn_inX12, fun T ρ M i _ => ⟨12, _, rfl, rfl, rfl⟩, by decide, (gn_mem 724 (by decide +kernel) (by decide +kernel)), tyX12_ok, nmX12, by decide +kernel, rfl⟩
theorem fr_X12_62 : gk_FR RX12 62 14 31 (.array .int) true := ⟨RX12, TX12, 34, tyX12, gn_inX12, fun T ρ M i _ => ⟨12, _, rfl, rfl, rfl⟩, by decide, (gn_mem 725 (by decide +kernel) (by decide +kernel)), tyX12_ok, nmX12, by decide +kernel, rfl⟩
theorem fr_X12_230 : gk_FR RX12 230 14 32 .int false := ⟨RX12, TX12, 34, tyX12, gn_inX12, fun T ρ M i _ => ⟨12, _, rfl, rfl, rfl⟩, by decide, (gn_mem 726 (by decide +kernel) (by decide +kernel)), tyX12_ok, nmX12, by decide +kernel, rfl⟩
theorem fr_X12_233 : gk_FR RX12 233 14 33 .int false := ⟨RX12, TX12, 34, tyX12, gn_inX12, fun T ρ M i _ => ⟨12, _, rfl, rfl, rfl⟩, by decide, (gn_mem 727 (by decide +kernel) (by decide +kernel)), tyX12_ok, nmX12, by decide +kernel, rfl⟩
theorem si_0_0 : gk_SI 0 0 := by
  intro T ρ M i ci fs h
  simp only [gk_E] at h
  cases h
  exact ⟨rfl, fun v => by simp [gk_E, gk_up]⟩
theorem si_0_1 : gk_SI 0 1 := by
  intro T ρ M i ci fs h
  simp only [gk_E] at h
  cases h
  exact ⟨rfl, fun v => by simp [gk_E, gk_up]⟩
theorem si_0_2 : gk_SI 0 2 := by
  intro T ρ M i ci fs h
  simp only [gk_E] at h
  cases h
  exact ⟨rfl, fun v => by simp [gk_E, gk_up]⟩
theorem si_0_3 : gk_SI 0 3 := by
  intro T ρ M i ci fs h
  simp only [gk_E] at h
  cases h
  exact ⟨rfl, fun v => by simp [gk_E, gk_up]⟩
theorem si_0_4 : gk_SI 0 4 := by
  intro T ρ M i ci fs h
  simp only [gk_E] at h
  cases h
  exact ⟨rfl, fun v => by simp [gk_E, gk_up]⟩
theorem pf_2_0 {M : gk_M} {i : Nat} : ∀ (T : gk_T) (ρ : Nat → Nat → Nat) (ci : Nat) (fs : List Value), gk_E T ρ M 2 i = .inr (ci, fs) → fs[0]? = some (gk_c ρ (gk_R 7 i)) := by
  intro T ρ ci fs h
  simp only [gk_E] at h
  cases h
  rfl
theorem pf_2_1 {M : gk_M} {i : Nat} : ∀ (T : gk_T) (ρ : Nat → Nat → Nat) (ci : Nat) (fs : List Value), gk_E T ρ M 2 i = .inr (ci, fs) → fs[1]? = some (gk_c ρ (gk_R 8 i)) := by
  intro T ρ ci fs h
  simp only [gk_E] at h
  cases h
  rfl
theorem pf_2_2 {M : gk_M} {i : Nat} : ∀ (T : gk_T) (ρ : Nat → Nat → Nat) (ci : Nat) (fs : List Value), gk_E T ρ M 2 i = .inr (ci, fs) → fs[2]? = some (gk_c ρ (gk_R 9 i)) := by
  intro T ρ ci fs h
  simp only [gk_E] at h
  cases h
  rfl
theorem si_2_3 : gk_SI 2 3 := by
  intro T ρ M i ci fs h
  simp only [gk_E] at h
  cases h
  exact ⟨rfl, fun v => by simp [gk_E, gk_up]⟩
theorem si_2_4 : gk_SI 2 4 := by
  intro T ρ M i ci fs h
  simp only [gk_E] at h
  cases h
  exact ⟨rfl, fun v => by simp [gk_E, gk_up]⟩
theorem si_2_5 : gk_SI 2 5 := by
  intro T ρ M i ci fs h
  simp only [gk_E] at h
  cases h
  exact ⟨rfl, fun v => by simp [gk_E, gk_up]⟩
theorem si_2_6 : gk_SI 2 6 := by
  intro T ρ M i ci fs h
  simp only [gk_E] at h
  cases h
  exact ⟨rfl, fun v => by simp [gk_E, gk_up]⟩
theorem si_2_7 : gk_SI 2 7 := by
  intro T ρ M i ci fs h
  simp only [gk_E] at h
  cases h
  exact ⟨rfl, fun v => by simp [gk_E, gk_up]⟩
theorem pf_3_0 {M : gk_M} {i : Nat} : ∀ (T : gk_T) (ρ : Nat → Nat → Nat) (ci : Nat) (fs : List Value), gk_E T ρ M 3 i = .inr (ci, fs) → fs[0]? = some (gk_c ρ (gk_R 11 0)) := by
  intro T ρ ci fs h
  simp only [gk_E] at h
  cases h
  rfl
theorem si_3_1 : gk_SI 3 1 := by
  intro T ρ M i ci fs h
  simp only [gk_E] at h
  cases h
  exact ⟨rfl, fun v => by simp [gk_E, gk_up]⟩
theorem si_3_2 : gk_SI 3 2 := by
  intro T ρ M i ci fs h
  simp only [gk_E] at h
  cases h
  exact ⟨rfl, fun v => by simp [gk_E, gk_up]⟩
theorem si_3_3 : gk_SI 3 3 := by
  intro T ρ M i ci fs h
  simp only [gk_E] at h
  cases h
  exact ⟨rfl, fun v => by simp [gk_E, gk_up]⟩
theorem si_4_0 : gk_SI 4 0 := by
  intro T ρ M i ci fs h
  simp only [gk_E] at h
  cases h
  exact ⟨rfl, fun v => by simp [gk_E, gk_up]⟩
theorem si_5_0 : gk_SI 5 0 := by
  intro T ρ M i ci fs h
  simp only [gk_E] at h
  cases h
  exact ⟨rfl, fun v => by simp [gk_E, gk_up]⟩
theorem si_5_1 : gk_SI 5 1 := by
  intro T ρ M i ci fs h
  simp only [gk_E] at h
  cases h
  exact ⟨rfl, fun v => by simp [gk_E, gk_up]⟩
theorem si_5_2 : gk_SI 5 2 := by
  intro T ρ M i ci fs h
  simp only [gk_E] at h
  cases h
  exact ⟨rfl, fun v => by simp [gk_E, gk_up]⟩
theorem si_5_3 : gk_SI 5 3 := by
  intro T ρ M i ci fs h
  simp only [gk_E] at h
  cases h
  exact ⟨rfl, fun v => by simp [gk_E, gk_up]⟩
theorem si_5_4 : gk_SI 5 4 := by
  intro T ρ M i ci fs h
  simp only [gk_E] at h
  cases h
  exact ⟨rfl, fun v => by simp [gk_E, gk_up]⟩
theorem si_5_5 : gk_SI 5 5 := by
  intro T ρ M i ci fs h
  simp only [gk_E] at h
  cases h
  exact ⟨rfl, fun v => by simp [gk_E, gk_up]⟩
theorem pf_6_0 {M : gk_M} {i : Nat} : ∀ (T : gk_T) (ρ : Nat → Nat → Nat) (ci : Nat) (fs : List Value), gk_E T ρ M 6 i = .inr (ci, fs) → fs[0]? = some (gk_c ρ (gk_R 10 0)) := by
  intro T ρ ci fs h
  simp only [gk_E] at h
  cases h
  rfl
theorem pf_6_1 {M : gk_M} {i : Nat} : ∀ (T : gk_T) (ρ : Nat → Nat → Nat) (ci : Nat) (fs : List Value), gk_E T ρ M 6 i = .inr (ci, fs) → fs[1]? = some (gk_c ρ (gk_R 0 0)) := by
  intro T ρ ci fs h
  simp only [gk_E] at h
  cases h
  rfl
theorem pf_6_2 {M : gk_M} {i : Nat} : ∀ (T : gk_T) (ρ : Nat → Nat → Nat) (ci : Nat) (fs : List Value), gk_E T ρ M 6 i = .inr (ci, fs) → fs[2]? = some (gk_c ρ (gk_R 4 0)) := by
  intro T ρ ci fs h
  simp only [gk_E] at h
  cases h
  rfl
theorem pf_6_3 {M : gk_M} {i : Nat} : ∀ (T : gk_T) (ρ : Nat → Nat → Nat) (ci : Nat) (fs : List Value), gk_E T ρ M 6 i = .inr (ci, fs) → fs[3]? = some (gk_c ρ (gk_R 2 0)) := by
  intro T ρ ci fs h
  simp only [gk_E] at h
  cases h
  rfl
theorem pf_6_4 {M : gk_M} {i : Nat} : ∀ (T : gk_T) (ρ : Nat → Nat → Nat) (ci : Nat) (fs : List Value), gk_E T ρ M 6 i = .inr (ci, fs) → fs[4]? = some (gk_c ρ (gk_R 2 1)) := by
  intro T ρ ci fs h
  simp only [gk_E] at h
  cases h
  rfl
theorem pf_6_5 {M : gk_M} {i : Nat} : ∀ (T : gk_T) (ρ : Nat → Nat → Nat) (ci : Nat) (fs : List Value), gk_E T ρ M 6 i = .inr (ci, fs) → fs[5]? = some (gk_c ρ (gk_R 2 2)) := by
  intro T ρ ci fs h
  simp only [gk_E] at h
  cases h
  rfl
theorem si_6_6 : gk_SI 6 6 := by
  intro T ρ M i ci fs h
  simp only [gk_E] at h
  cases h
  exact ⟨rfl, fun v => by simp [gk_E, gk_up]⟩
theorem pf_6_7 {M : gk_M} {i : Nat} : ∀ (T : gk_T) (ρ : Nat → Nat → Nat) (ci : Nat) (fs : List Value), gk_E T ρ M 6 i = .inr (ci, fs) → fs[7]? = some (gk_c ρ (gk_R 3 0)) := by
  intro T ρ ci fs h
  simp only [gk_E] at h
  cases h
  rfl
theorem pf_6_8 {M : gk_M} {i : Nat} : ∀ (T : gk_T) (ρ : Nat → Nat → Nat) (ci : Nat) (fs : List Value), gk_E T ρ M 6 i = .inr (ci, fs) → fs[8]? = some (gk_c ρ (gk_R 12 0)) := by
  intro T ρ ci fs h
  simp only [gk_E] at h
  cases h
  rfl
theorem si_6_9 : gk_SI 6 9 := by
  intro T ρ M i ci fs h
  simp only [gk_E] at h
  cases h
  exact ⟨rfl, fun v => by simp [gk_E, gk_up]⟩
theorem pf_6_10 {M : gk_M} {i : Nat} : ∀ (T : gk_T) (ρ : Nat → Nat → Nat) (ci : Nat) (fs : List Value), gk_E T ρ M 6 i = .inr (ci, fs) → fs[10]? = some (gk_c ρ (gk_R 13 0)) := by
  intro T ρ ci fs h
  simp only [gk_E] at h
  cases h
  rfl
theorem si_14_0 : gk_SI 14 0 := by
  intro T ρ M i ci fs h
  simp only [gk_E] at h
  cases h
  exact ⟨rfl, fun v => by simp [gk_E, gk_up]⟩
theorem si_14_1 : gk_SI 14 1 := by
  intro T ρ M i ci fs h
  simp only [gk_E] at h
  cases h
  exact ⟨rfl, fun v => by simp [gk_E, gk_up]⟩
theorem si_14_2 : gk_SI 14 2 := by
  intro T ρ M i ci fs h
  simp only [gk_E] at h
  cases h
  exact ⟨rfl, fun v => by simp [gk_E, gk_up]⟩
theorem si_14_3 : gk_SI 14 3 := by
  intro T ρ M i ci fs h
  simp only [gk_E] at h
  cases h
  exact ⟨rfl, fun v => by simp [gk_E, gk_up]⟩
theorem si_14_4 : gk_SI 14 4 := by
  intro T ρ M i ci fs h
  simp only [gk_E] at h
  cases h
  exact ⟨rfl, fun v => by simp [gk_E, gk_up]⟩
theorem pf_14_5 {M : gk_M} {i : Nat} : ∀ (T : gk_T) (ρ : Nat → Nat → Nat) (ci : Nat) (fs : List Value), gk_E T ρ M 14 i = .inr (ci, fs) → fs[5]? = some (gk_c ρ (gk_R 15 0)) := by
  intro T ρ ci fs h
  simp only [gk_E] at h
  cases h
  rfl
theorem pf_14_6 {M : gk_M} {i : Nat} : ∀ (T : gk_T) (ρ : Nat → Nat → Nat) (ci : Nat) (fs : List Value), gk_E T ρ M 14 i = .inr (ci, fs) → fs[6]? = some (gk_c ρ (gk_R 15 1)) := by
  intro T ρ ci fs h
  simp only [gk_E] at h
  cases h
  rfl
theorem pf_14_7 {M : gk_M} {i : Nat} : ∀ (T : gk_T) (ρ : Nat → Nat → Nat) (ci : Nat) (fs : List Value), gk_E T ρ M 14 i = .inr (ci, fs) → fs[7]? = some (gk_c ρ (gk_R 16 0)) := by
  intro T ρ ci fs h
  simp only [gk_E] at h
  cases h
  rfl
theorem pf_14_8 {M : gk_M} {i : Nat} : ∀ (T : gk_T) (ρ : Nat → Nat → Nat) (ci : Nat) (fs : List Value), gk_E T ρ M 14 i = .inr (ci, fs) → fs[8]? = some (gk_c ρ (gk_R 16 1)) := by
  intro T ρ ci fs h
  simp only [gk_E] at h
  cases h
  rfl
theorem pf_14_9 {M : gk_M} {i : Nat} : ∀ (T : gk_T) (ρ : Nat → Nat → Nat) (ci : Nat) (fs : List Value), gk_E T ρ M 14 i = .inr (ci, fs) → fs[9]? = some (gk_c ρ (gk_R 16 2)) := by
  intro T ρ ci fs h
  simp only [gk_E] at h
  cases h
  rfl
theorem pf_14_10 {M : gk_M} {i : Nat} : ∀ (T : gk_T) (ρ : Nat → Nat → Nat) (ci : Nat) (fs : List Value), gk_E T ρ M 14 i = .inr (ci, fs) → fs[10]? = some (gk_c ρ (gk_R 16 3)) := by
  intro T ρ ci fs h
  simp only [gk_E] at h
  cases h
  rfl
theorem pf_14_11 {M : gk_M} {i : Nat} : ∀ (T : gk_T) (ρ : Nat → Nat → Nat) (ci : Nat) (fs : List Value), gk_E T ρ M 14 i = .inr (ci, fs) → fs[11]? = some (gk_c ρ (gk_R 16 4)) := by
  intro T ρ ci fs h
  simp only [gk_E] at h
  cases h
  rfl
theorem pf_14_12 {M : gk_M} {i : Nat} : ∀ (T : gk_T) (ρ : Nat → Nat → Nat) (ci : Nat) (fs : List Value), gk_E T ρ M 14 i = .inr (ci, fs) → fs[12]? = some (gk_c ρ (gk_R 16 5)) := by
  intro T ρ ci fs h
  simp only [gk_E] at h
  cases h
  rfl
theorem si_14_13 : gk_SI 14 13 := by
  intro T ρ M i ci fs h
  simp only [gk_E] at h
  cases h
  exact ⟨rfl, fun v => by simp [gk_E, gk_up]⟩
theorem pf_14_14 {M : gk_M} {i : Nat} : ∀ (T : gk_T) (ρ : Nat → Nat → Nat) (ci : Nat) (fs : List Value), gk_E T ρ M 14 i = .inr (ci, fs) → fs[14]? = some (gk_c ρ (gk_R 17 0)) := by
  intro T ρ ci fs h
  simp only [gk_E] at h
  cases h
  rfl
theorem si_14_15 : gk_SI 14 15 := by
  intro T ρ M i ci fs h
  simp only [gk_E] at h
  cases h
  exact ⟨rfl, fun v => by simp [gk_E, gk_up]⟩
theorem si_14_16 : gk_SI 14 16 := by
  intro T ρ M i ci fs h
  simp only [gk_E] at h
  cases h
  exact ⟨rfl, fun v => by simp [gk_E, gk_up]⟩
theorem pf_14_17 {M : gk_M} {i : Nat} : ∀ (T : gk_T) (ρ : Nat → Nat → Nat) (ci : Nat) (fs : List Value), gk_E T ρ M 14 i = .inr (ci, fs) → fs[17]? = some (gk_c ρ (gk_R 18 0)) := by
  intro T ρ ci fs h
  simp only [gk_E] at h
  cases h
  rfl
theorem pf_14_18 {M : gk_M} {i : Nat} : ∀ (T : gk_T) (ρ : Nat → Nat → Nat) (ci : Nat) (fs : List Value), gk_E T ρ M 14 i = .inr (ci, fs) → fs[18]? = some (gk_c ρ (gk_R 18 1)) := by
  intro T ρ ci fs h
  simp only [gk_E] at h
  cases h
  rfl
theorem si_14_19 : gk_SI 14 19 := by
  intro T ρ M i ci fs h
  simp only [gk_E] at h
  cases h
  exact ⟨rfl, fun v => by simp [gk_E, gk_up]⟩
theorem si_14_20 : gk_SI 14 20 := by
  intro T ρ M i ci fs h
  simp only [gk_E] at h
  cases h
  exact ⟨rfl, fun v => by simp [gk_E, gk_up]⟩
theorem si_14_21 : gk_SI 14 21 := by
  intro T ρ M i ci fs h
  simp only [gk_E] at h
  cases h
  exact ⟨rfl, fun v => by simp [gk_E, gk_up]⟩
theorem pf_14_23 {M : gk_M} {i : Nat} : ∀ (T : gk_T) (ρ : Nat → Nat → Nat) (ci : Nat) (fs : List Value), gk_E T ρ M 14 i = .inr (ci, fs) → fs[23]? = some (gk_c ρ (gk_R 19 0)) := by
  intro T ρ ci fs h
  simp only [gk_E] at h
  cases h
  rfl
theorem si_14_24 : gk_SI 14 24 := by
  intro T ρ M i ci fs h
  simp only [gk_E] at h
  cases h
  exact ⟨rfl, fun v => by simp [gk_E, gk_up]⟩
theorem si_14_25 : gk_SI 14 25 := by
  intro T ρ M i ci fs h
  simp only [gk_E] at h
  cases h
  exact ⟨rfl, fun v => by simp [gk_E, gk_up]⟩
theorem si_14_26 : gk_SI 14 26 := by
  intro T ρ M i ci fs h
  simp only [gk_E] at h
  cases h
  exact ⟨rfl, fun v => by simp [gk_E, gk_up]⟩
theorem si_14_27 : gk_SI 14 27 := by
  intro T ρ M i ci fs h
  simp only [gk_E] at h
  cases h
  exact ⟨rfl, fun v => by simp [gk_E, gk_up]⟩
theorem pf_14_28 {M : gk_M} {i : Nat} : ∀ (T : gk_T) (ρ : Nat → Nat → Nat) (ci : Nat) (fs : List Value), gk_E T ρ M 14 i = .inr (ci, fs) → fs[28]? = some (gk_c ρ (gk_R 20 0)) := by
  intro T ρ ci fs h
  simp only [gk_E] at h
  cases h
  rfl
theorem pf_14_29 {M : gk_M} {i : Nat} : ∀ (T : gk_T) (ρ : Nat → Nat → Nat) (ci : Nat) (fs : List Value), gk_E T ρ M 14 i = .inr (ci, fs) → fs[29]? = some (gk_c ρ (gk_R 20 1)) := by
  intro T ρ ci fs h
  simp only [gk_E] at h
  cases h
  rfl
theorem pf_14_30 {M : gk_M} {i : Nat} : ∀ (T : gk_T) (ρ : Nat → Nat → Nat) (ci : Nat) (fs : List Value), gk_E T ρ M 14 i = .inr (ci, fs) → fs[30]? = some (gk_c ρ (gk_R 21 0)) := by
  intro T ρ ci fs h
  simp only [gk_E] at h
  cases h
  rfl
theorem pf_14_31 {M : gk_M} {i : Nat} : ∀ (T : gk_T) (ρ : Nat → Nat → Nat) (ci : Nat) (fs : List Value), gk_E T ρ M 14 i = .inr (ci, fs) → fs[31]? = some (gk_c ρ (gk_R 22 0)) := by
  intro T ρ ci fs h
  simp only [gk_E] at h
  cases h
  rfl
theorem si_14_32 : gk_SI 14 32 := by
  intro T ρ M i ci fs h
  simp only [gk_E] at h
  cases h
  exact ⟨rfl, fun v => by simp [gk_E, gk_up]⟩
theorem si_14_33 : gk_SI 14 33 := by
  intro T ρ M i ci fs h
  simp only [gk_E] at h
  cases h
  exact ⟨rfl, fun v => by simp [gk_E, gk_up]⟩
theorem ga_7 : ∀ (T : gk_T) (ρ : Nat → Nat → Nat) (M : gk_M) (i : Nat), gk_E T ρ M 7 i = .inl (T.1, 7, .inl (M 7 i)) := fun _ _ _ _ => rfl
theorem ga_8 : ∀ (T : gk_T) (ρ : Nat → Nat → Nat) (M : gk_M) (i : Nat), gk_E T ρ M 8 i = .inl (T.1, 7, .inl (M 8 i)) := fun _ _ _ _ => rfl
theorem ga_9 : ∀ (T : gk_T) (ρ : Nat → Nat → Nat) (M : gk_M) (i : Nat), gk_E T ρ M 9 i = .inl (T.2.1, 6, .inr (.inr (.inr (.inr (fun j => some (ρ 5 (6 * i + j))))))) := fun _ _ _ _ => rfl
theorem ga_10 : ∀ (T : gk_T) (ρ : Nat → Nat → Nat) (M : gk_M) (i : Nat), gk_E T ρ M 10 i = .inl (T.2.2, 6, .inr (.inr (.inr (.inr (fun j => some (ρ 1 (j))))))) := fun _ _ _ _ => rfl
theorem ga_11 : ∀ (T : gk_T) (ρ : Nat → Nat → Nat) (M : gk_M) (i : Nat), gk_E T ρ M 11 i = .inl (T.1, 80, .inl (M 11 i)) := fun _ _ _ _ => rfl
theorem ga_12 : ∀ (T : gk_T) (ρ : Nat → Nat → Nat) (M : gk_M) (i : Nat), gk_E T ρ M 12 i = .inl (T.1, 12, .inl (M 12 i)) := fun _ _ _ _ => rfl
theorem ga_13 : ∀ (T : gk_T) (ρ : Nat → Nat → Nat) (M : gk_M) (i : Nat), gk_E T ρ M 13 i = .inl (T.1, 7, .inl (M 13 i)) := fun _ _ _ _ => rfl
theorem ga_15 : ∀ (T : gk_T) (ρ : Nat → Nat → Nat) (M : gk_M) (i : Nat), gk_E T ρ M 15 i = .inl (T.1, 7, .inl (M 15 i)) := fun _ _ _ _ => rfl
theorem ga_16 : ∀ (T : gk_T) (ρ : Nat → Nat → Nat) (M : gk_M) (i : Nat), gk_E T ρ M 16 i = .inl (T.1, 6, .inl (M 16 i)) := fun _ _ _ _ => rfl
theorem ga_17 : ∀ (T : gk_T) (ρ : Nat → Nat → Nat) (M : gk_M) (i : Nat), gk_E T ρ M 17 i = .inl (T.1, 7, .inl (M 17 i)) := fun _ _ _ _ => rfl
theorem ga_18 : ∀ (T : gk_T) (ρ : Nat → Nat → Nat) (M : gk_M) (i : Nat), gk_E T ρ M 18 i = .inl (T.1, 56, .inl (M 18 i)) := fun _ _ _ _ => rfl
theorem ga_19 : ∀ (T : gk_T) (ρ : Nat → Nat → Nat) (M : gk_M) (i : Nat), gk_E T ρ M 19 i = .inl (T.1, 80, .inl (M 19 i)) := fun _ _ _ _ => rfl
theorem ga_20 : ∀ (T : gk_T) (ρ : Nat → Nat → Nat) (M : gk_M) (i : Nat), gk_E T ρ M 20 i = .inl (T.1, 28, .inl (M 20 i)) := fun _ _ _ _ => rfl
theorem ga_21 : ∀ (T : gk_T) (ρ : Nat → Nat → Nat) (M : gk_M) (i : Nat), gk_E T ρ M 21 i = .inl (T.1, 168, .inl (M 21 i)) := fun _ _ _ _ => rfl
theorem ga_22 : ∀ (T : gk_T) (ρ : Nat → Nat → Nat) (M : gk_M) (i : Nat), gk_E T ρ M 22 i = .inl (T.1, 12, .inl (M 22 i)) := fun _ _ _ _ => rfl
def gk_kp (x : Int32) : Bool := decide (x = 1) || decide (x = 2)
theorem gk_kp_lt {x : Int32} (h : gk_kp x = true) : ¬ x = 0 ∧ x.toNatClampNeg - 1 < 2 := by
  simp only [gk_kp, Bool.or_eq_true, decide_eq_true_eq] at h
  rcases h with rfl | rfl <;> decide
section GKK
variable {own : String} {cc : ByteArray} {nL d : Nat} {ret : Option FieldType} {SL : Option (Nat × (Nat → Int32))} {K : gk_V → gk_M → Prop} {pc : Nat} {L : List (Option gk_V)} {st : List gk_V} {M : gk_M} {α : Type} {ι : α → gk_V} {X : Option (α × gk_M)}
theorem gk_getK {idx : Nat} {ty : FieldType} {fin : Bool} (hF : gk_FR own idx 14 22 ty fin) (hd : decode cc pc = .ok (.getfield idx, 3)) (h : gk_Sat ι (gk_gd (gk_kp (M 14 0 22)) X) K) (k : gk_Sat ι X K → (M 14 0 22).toNatClampNeg - 1 < 2 → gk_G own cc nL d ret SL K (pc + 3) L (gk_R 18 ((M 14 0 22).toNatClampNeg - 1) :: st) M) : gk_G own cc nL d ret SL K pc L (gk_R 14 0 :: st) M := by
  obtain ⟨h1, h2⟩ := gk_kp_lt h.gd.1
  refine gk_get (v := gk_R 18 ((M 14 0 22).toNatClampNeg - 1)) hF ?_ (by decide) hd (k h.gd.2 h2)
  intro T ρ ci fs e
  simp only [gk_E] at e
  cases e
  show some (if M 14 0 22 = 0 then Value.null else _) = _
  rw [if_neg h1]
  rfl
theorem gk_putK {idx i : Nat} {F : gk_M → Option (α × gk_M)} (hF : gk_FR own idx 14 22 (.array .int) false) (hi : i < 2) (hd : decode cc pc = .ok (.putfield idx, 3)) (h : gk_Sat ι (gk_wr M 14 0 22 (nI (i + 1)) F) K) (k : ∀ M' : gk_M, gk_Sat ι (F M') K → gk_G own cc nL d ret SL K (pc + 3) L st M') : gk_G own cc nL d ret SL K pc L (gk_R 18 i :: gk_R 14 0 :: st) M := by
  refine gk_putV (v := gk_R 18 i) (M' := gk_up M 14 0 22 (nI (i + 1))) hF (fun _ _ z => gk_up_ne z) ?_ (by decide) (fun _ => rfl) (fun _ => rfl) hd (k _ h)
  intro T ρ ci fs e
  simp only [gk_E] at e
  cases e
  have e1 : ¬ nI (i + 1) = 0 := by
    rcases (show i = 0 ∨ i = 1 by omega) with rfl | rfl <;> decide
  have e2 : (nI (i + 1)).toNatClampNeg - 1 = i := by
    rcases (show i = 0 ∨ i = 1 by omega) with rfl | rfl <;> decide
  simp [gk_E, gk_up, gk_c, e1, e2]
end GKK

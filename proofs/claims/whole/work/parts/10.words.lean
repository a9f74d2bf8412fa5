/-! words of the tables, by their places (printed by gen11.py) -/
theorem wd_18 : Cond.classLink RL 7 RX8 ∈ pm_ws := List.mem_filter.mpr ⟨List.mem_append_right _ (List.mem_of_getElem? (i := 18) (by decide +kernel)), by decide +kernel⟩
theorem wd_19 : Cond.instantiable RX8 6 ∈ pm_ws := List.mem_filter.mpr ⟨List.mem_append_right _ (List.mem_of_getElem? (i := 19) (by decide +kernel)), by decide +kernel⟩
theorem wd_1 : Cond.initialized RX8 ∈ pm_ws := List.mem_filter.mpr ⟨List.mem_append_right _ (List.mem_of_getElem? (i := 1) (by decide +kernel)), by decide +kernel⟩
theorem wd_22 : Cond.code yX8_init cX8_init 1 none ∈ pm_ws := List.mem_filter.mpr ⟨List.mem_append_right _ (List.mem_of_getElem? (i := 22) (by decide +kernel)), by decide +kernel⟩
theorem wd_21 : Cond.instanceMethod yX8_init ∈ pm_ws := List.mem_filter.mpr ⟨List.mem_append_right _ (List.mem_of_getElem? (i := 21) (by decide +kernel)), by decide +kernel⟩
theorem wd_20 : Cond.methodLink RL 9 yX8_init ∈ pm_ws := List.mem_filter.mpr ⟨List.mem_append_right _ (List.mem_of_getElem? (i := 20) (by decide +kernel)), by decide +kernel⟩
theorem wd_641 : Cond.classLink RL 10 RX9 ∈ pm_ws := List.mem_filter.mpr ⟨List.mem_append_right _ (List.mem_of_getElem? (i := 641) (by decide +kernel)), by decide +kernel⟩
theorem wd_642 : Cond.instantiable RX9 15 ∈ pm_ws := List.mem_filter.mpr ⟨List.mem_append_right _ (List.mem_of_getElem? (i := 642) (by decide +kernel)), by decide +kernel⟩
theorem wd_14 : Cond.initialized RX9 ∈ pm_ws := List.mem_filter.mpr ⟨List.mem_append_right _ (List.mem_of_getElem? (i := 14) (by decide +kernel)), by decide +kernel⟩
theorem wd_645 : Cond.code yX9_init cX9_init 1 none ∈ pm_ws := List.mem_filter.mpr ⟨List.mem_append_right _ (List.mem_of_getElem? (i := 645) (by decide +kernel)), by decide +kernel⟩
theorem wd_644 : Cond.instanceMethod yX9_init ∈ pm_ws := List.mem_filter.mpr ⟨List.mem_append_right _ (List.mem_of_getElem? (i := 644) (by decide +kernel)), by decide +kernel⟩
theorem wd_643 : Cond.methodLink RL 12 yX9_init ∈ pm_ws := List.mem_filter.mpr ⟨List.mem_append_right _ (List.mem_of_getElem? (i := 643) (by decide +kernel)), by decide +kernel⟩
theorem wd_364 : Cond.code yX8_write cX8_write 2 (some .int) ∈ pm_ws := List.mem_filter.mpr ⟨List.mem_append_right _ (List.mem_of_getElem? (i := 364) (by decide +kernel)), by decide +kernel⟩
theorem wd_362 : Cond.instanceMethod yX8_write ∈ pm_ws := List.mem_filter.mpr ⟨List.mem_append_right _ (List.mem_of_getElem? (i := 362) (by decide +kernel)), by decide +kernel⟩
theorem wd_363 : Cond.selects RX8 yX8_write yX8_write ∈ pm_ws := List.mem_filter.mpr ⟨List.mem_append_right _ (List.mem_of_getElem? (i := 363) (by decide +kernel)), by decide +kernel⟩
theorem wd_361 : Cond.methodLink RL 13 yX8_write ∈ pm_ws := List.mem_filter.mpr ⟨List.mem_append_right _ (List.mem_of_getElem? (i := 361) (by decide +kernel)), by decide +kernel⟩
theorem wd_722 : Cond.code yX9_write cX9_write 2 (some .int) ∈ pm_ws := List.mem_filter.mpr ⟨List.mem_append_right _ (List.mem_of_getElem? (i := 722) (by decide +kernel)), by decide +kernel⟩
theorem wd_720 : Cond.instanceMethod yX9_write ∈ pm_ws := List.mem_filter.mpr ⟨List.mem_append_right _ (List.mem_of_getElem? (i := 720) (by decide +kernel)), by decide +kernel⟩
theorem wd_721 : Cond.selects RX9 yX9_write yX9_write ∈ pm_ws := List.mem_filter.mpr ⟨List.mem_append_right _ (List.mem_of_getElem? (i := 721) (by decide +kernel)), by decide +kernel⟩
theorem wd_719 : Cond.methodLink RL 17 yX9_write ∈ pm_ws := List.mem_filter.mpr ⟨List.mem_append_right _ (List.mem_of_getElem? (i := 719) (by decide +kernel)), by decide +kernel⟩
theorem wd_369 : Cond.code yX8_wipe cX8_wipe 2 (some .int) ∈ pm_ws := List.mem_filter.mpr ⟨List.mem_append_right _ (List.mem_of_getElem? (i := 369) (by decide +kernel)), by decide +kernel⟩
theorem wd_367 : Cond.instanceMethod yX8_wipe ∈ pm_ws := List.mem_filter.mpr ⟨List.mem_append_right _ (List.mem_of_getElem? (i := 367) (by decide +kernel)), by decide +kernel⟩
theorem wd_368 : Cond.selects RX8 yX8_wipe yX8_wipe ∈ pm_ws := List.mem_filter.mpr ⟨List.mem_append_right _ (List.mem_of_getElem? (i := 368) (by decide +kernel)), by decide +kernel⟩
theorem wd_366 : Cond.methodLink RL 18 yX8_wipe ∈ pm_ws := List.mem_filter.mpr ⟨List.mem_append_right _ (List.mem_of_getElem? (i := 366) (by decide +kernel)), by decide +kernel⟩
theorem wd_731 : Cond.code yX9_wipe cX9_wipe 2 (some .int) ∈ pm_ws := List.mem_filter.mpr ⟨List.mem_append_right _ (List.mem_of_getElem? (i := 731) (by decide +kernel)), by decide +kernel⟩
theorem wd_729 : Cond.instanceMethod yX9_wipe ∈ pm_ws := List.mem_filter.mpr ⟨List.mem_append_right _ (List.mem_of_getElem? (i := 729) (by decide +kernel)), by decide +kernel⟩
theorem wd_730 : Cond.selects RX9 yX9_wipe yX9_wipe ∈ pm_ws := List.mem_filter.mpr ⟨List.mem_append_right _ (List.mem_of_getElem? (i := 730) (by decide +kernel)), by decide +kernel⟩
theorem wd_728 : Cond.methodLink RL 22 yX9_wipe ∈ pm_ws := List.mem_filter.mpr ⟨List.mem_append_right _ (List.mem_of_getElem? (i := 728) (by decide +kernel)), by decide +kernel⟩
theorem wd_373 : Cond.code yX8_fault cX8_fault 3 (some .int) ∈ pm_ws := List.mem_filter.mpr ⟨List.mem_append_right _ (List.mem_of_getElem? (i := 373) (by decide +kernel)), by decide +kernel⟩
theorem wd_371 : Cond.instanceMethod yX8_fault ∈ pm_ws := List.mem_filter.mpr ⟨List.mem_append_right _ (List.mem_of_getElem? (i := 371) (by decide +kernel)), by decide +kernel⟩
theorem wd_372 : Cond.selects RX8 yX8_fault yX8_fault ∈ pm_ws := List.mem_filter.mpr ⟨List.mem_append_right _ (List.mem_of_getElem? (i := 372) (by decide +kernel)), by decide +kernel⟩
theorem wd_370 : Cond.methodLink RL 23 yX8_fault ∈ pm_ws := List.mem_filter.mpr ⟨List.mem_append_right _ (List.mem_of_getElem? (i := 370) (by decide +kernel)), by decide +kernel⟩
theorem wd_735 : Cond.code yX9_fault cX9_fault 1 (some .int) ∈ pm_ws := List.mem_filter.mpr ⟨List.mem_append_right _ (List.mem_of_getElem? (i := 735) (by decide +kernel)), by decide +kernel⟩
theorem wd_733 : Cond.instanceMethod yX9_fault ∈ pm_ws := List.mem_filter.mpr ⟨List.mem_append_right _ (List.mem_of_getElem? (i := 733) (by decide +kernel)), by decide +kernel⟩
theorem wd_734 : Cond.selects RX9 yX9_fault yX9_fault ∈ pm_ws := List.mem_filter.mpr ⟨List.mem_append_right _ (List.mem_of_getElem? (i := 734) (by decide +kernel)), by decide +kernel⟩
theorem wd_732 : Cond.methodLink RL 26 yX9_fault ∈ pm_ws := List.mem_filter.mpr ⟨List.mem_append_right _ (List.mem_of_getElem? (i := 732) (by decide +kernel)), by decide +kernel⟩
theorem wd_377 : Cond.code yX8_lay cX8_lay 1 (some .int) ∈ pm_ws := List.mem_filter.mpr ⟨List.mem_append_right _ (List.mem_of_getElem? (i := 377) (by decide +kernel)), by decide +kernel⟩
theorem wd_375 : Cond.instanceMethod yX8_lay ∈ pm_ws := List.mem_filter.mpr ⟨List.mem_append_right _ (List.mem_of_getElem? (i := 375) (by decide +kernel)), by decide +kernel⟩
theorem wd_376 : Cond.selects RX8 yX8_lay yX8_lay ∈ pm_ws := List.mem_filter.mpr ⟨List.mem_append_right _ (List.mem_of_getElem? (i := 376) (by decide +kernel)), by decide +kernel⟩
theorem wd_374 : Cond.methodLink RL 27 yX8_lay ∈ pm_ws := List.mem_filter.mpr ⟨List.mem_append_right _ (List.mem_of_getElem? (i := 374) (by decide +kernel)), by decide +kernel⟩
theorem wd_772 : Cond.code yX9_lay cX9_lay 1 (some .int) ∈ pm_ws := List.mem_filter.mpr ⟨List.mem_append_right _ (List.mem_of_getElem? (i := 772) (by decide +kernel)), by decide +kernel⟩
theorem wd_770 : Cond.instanceMethod yX9_lay ∈ pm_ws := List.mem_filter.mpr ⟨List.mem_append_right _ (List.mem_of_getElem? (i := 770) (by decide +kernel)), by decide +kernel⟩
theorem wd_771 : Cond.selects RX9 yX9_lay yX9_lay ∈ pm_ws := List.mem_filter.mpr ⟨List.mem_append_right _ (List.mem_of_getElem? (i := 771) (by decide +kernel)), by decide +kernel⟩
theorem wd_769 : Cond.methodLink RL 30 yX9_lay ∈ pm_ws := List.mem_filter.mpr ⟨List.mem_append_right _ (List.mem_of_getElem? (i := 769) (by decide +kernel)), by decide +kernel⟩
theorem wd_938 : Cond.constantLong RL 31 (4294967295) ∈ pm_ws := List.mem_filter.mpr ⟨List.mem_append_right _ (List.mem_of_getElem? (i := 938) (by decide +kernel)), by decide +kernel⟩
theorem wd_392 : Cond.code yX8_tell cX8_tell 6 (some .int) ∈ pm_ws := List.mem_filter.mpr ⟨List.mem_append_right _ (List.mem_of_getElem? (i := 392) (by decide +kernel)), by decide +kernel⟩
theorem wd_390 : Cond.instanceMethod yX8_tell ∈ pm_ws := List.mem_filter.mpr ⟨List.mem_append_right _ (List.mem_of_getElem? (i := 390) (by decide +kernel)), by decide +kernel⟩
theorem wd_391 : Cond.selects RX8 yX8_tell yX8_tell ∈ pm_ws := List.mem_filter.mpr ⟨List.mem_append_right _ (List.mem_of_getElem? (i := 391) (by decide +kernel)), by decide +kernel⟩
theorem wd_389 : Cond.methodLink RL 33 yX8_tell ∈ pm_ws := List.mem_filter.mpr ⟨List.mem_append_right _ (List.mem_of_getElem? (i := 389) (by decide +kernel)), by decide +kernel⟩
theorem wd_792 : Cond.code yX9_tell cX9_tell 6 (some .int) ∈ pm_ws := List.mem_filter.mpr ⟨List.mem_append_right _ (List.mem_of_getElem? (i := 792) (by decide +kernel)), by decide +kernel⟩
theorem wd_790 : Cond.instanceMethod yX9_tell ∈ pm_ws := List.mem_filter.mpr ⟨List.mem_append_right _ (List.mem_of_getElem? (i := 790) (by decide +kernel)), by decide +kernel⟩
theorem wd_791 : Cond.selects RX9 yX9_tell yX9_tell ∈ pm_ws := List.mem_filter.mpr ⟨List.mem_append_right _ (List.mem_of_getElem? (i := 791) (by decide +kernel)), by decide +kernel⟩
theorem wd_789 : Cond.methodLink RL 37 yX9_tell ∈ pm_ws := List.mem_filter.mpr ⟨List.mem_append_right _ (List.mem_of_getElem? (i := 789) (by decide +kernel)), by decide +kernel⟩
theorem wd_421 : Cond.code yX8_strike cX8_strike 3 (some .int) ∈ pm_ws := List.mem_filter.mpr ⟨List.mem_append_right _ (List.mem_of_getElem? (i := 421) (by decide +kernel)), by decide +kernel⟩
theorem wd_419 : Cond.instanceMethod yX8_strike ∈ pm_ws := List.mem_filter.mpr ⟨List.mem_append_right _ (List.mem_of_getElem? (i := 419) (by decide +kernel)), by decide +kernel⟩
theorem wd_420 : Cond.selects RX8 yX8_strike yX8_strike ∈ pm_ws := List.mem_filter.mpr ⟨List.mem_append_right _ (List.mem_of_getElem? (i := 420) (by decide +kernel)), by decide +kernel⟩
theorem wd_418 : Cond.methodLink RL 38 yX8_strike ∈ pm_ws := List.mem_filter.mpr ⟨List.mem_append_right _ (List.mem_of_getElem? (i := 418) (by decide +kernel)), by decide +kernel⟩
theorem wd_803 : Cond.code yX9_strike cX9_strike 3 (some .int) ∈ pm_ws := List.mem_filter.mpr ⟨List.mem_append_right _ (List.mem_of_getElem? (i := 803) (by decide +kernel)), by decide +kernel⟩
theorem wd_801 : Cond.instanceMethod yX9_strike ∈ pm_ws := List.mem_filter.mpr ⟨List.mem_append_right _ (List.mem_of_getElem? (i := 801) (by decide +kernel)), by decide +kernel⟩
theorem wd_802 : Cond.selects RX9 yX9_strike yX9_strike ∈ pm_ws := List.mem_filter.mpr ⟨List.mem_append_right _ (List.mem_of_getElem? (i := 802) (by decide +kernel)), by decide +kernel⟩
theorem wd_800 : Cond.methodLink RL 42 yX9_strike ∈ pm_ws := List.mem_filter.mpr ⟨List.mem_append_right _ (List.mem_of_getElem? (i := 800) (by decide +kernel)), by decide +kernel⟩
theorem wd_425 : Cond.code yX8_strikeLiars cX8_strikeLiars 2 (some .int) ∈ pm_ws := List.mem_filter.mpr ⟨List.mem_append_right _ (List.mem_of_getElem? (i := 425) (by decide +kernel)), by decide +kernel⟩
theorem wd_423 : Cond.instanceMethod yX8_strikeLiars ∈ pm_ws := List.mem_filter.mpr ⟨List.mem_append_right _ (List.mem_of_getElem? (i := 423) (by decide +kernel)), by decide +kernel⟩
theorem wd_424 : Cond.selects RX8 yX8_strikeLiars yX8_strikeLiars ∈ pm_ws := List.mem_filter.mpr ⟨List.mem_append_right _ (List.mem_of_getElem? (i := 424) (by decide +kernel)), by decide +kernel⟩
theorem wd_422 : Cond.methodLink RL 43 yX8_strikeLiars ∈ pm_ws := List.mem_filter.mpr ⟨List.mem_append_right _ (List.mem_of_getElem? (i := 422) (by decide +kernel)), by decide +kernel⟩
theorem wd_807 : Cond.code yX9_strikeLiars cX9_strikeLiars 2 (some .int) ∈ pm_ws := List.mem_filter.mpr ⟨List.mem_append_right _ (List.mem_of_getElem? (i := 807) (by decide +kernel)), by decide +kernel⟩
theorem wd_805 : Cond.instanceMethod yX9_strikeLiars ∈ pm_ws := List.mem_filter.mpr ⟨List.mem_append_right _ (List.mem_of_getElem? (i := 805) (by decide +kernel)), by decide +kernel⟩
theorem wd_806 : Cond.selects RX9 yX9_strikeLiars yX9_strikeLiars ∈ pm_ws := List.mem_filter.mpr ⟨List.mem_append_right _ (List.mem_of_getElem? (i := 806) (by decide +kernel)), by decide +kernel⟩
theorem wd_804 : Cond.methodLink RL 46 yX9_strikeLiars ∈ pm_ws := List.mem_filter.mpr ⟨List.mem_append_right _ (List.mem_of_getElem? (i := 804) (by decide +kernel)), by decide +kernel⟩
theorem wd_486 : Cond.code yX8_drift cX8_drift 3 (some .int) ∈ pm_ws := List.mem_filter.mpr ⟨List.mem_append_right _ (List.mem_of_getElem? (i := 486) (by decide +kernel)), by decide +kernel⟩
theorem wd_484 : Cond.instanceMethod yX8_drift ∈ pm_ws := List.mem_filter.mpr ⟨List.mem_append_right _ (List.mem_of_getElem? (i := 484) (by decide +kernel)), by decide +kernel⟩
theorem wd_485 : Cond.selects RX8 yX8_drift yX8_drift ∈ pm_ws := List.mem_filter.mpr ⟨List.mem_append_right _ (List.mem_of_getElem? (i := 485) (by decide +kernel)), by decide +kernel⟩
theorem wd_483 : Cond.methodLink RL 47 yX8_drift ∈ pm_ws := List.mem_filter.mpr ⟨List.mem_append_right _ (List.mem_of_getElem? (i := 483) (by decide +kernel)), by decide +kernel⟩
theorem wd_835 : Cond.code yX9_drift cX9_drift 3 (some .int) ∈ pm_ws := List.mem_filter.mpr ⟨List.mem_append_right _ (List.mem_of_getElem? (i := 835) (by decide +kernel)), by decide +kernel⟩
theorem wd_833 : Cond.instanceMethod yX9_drift ∈ pm_ws := List.mem_filter.mpr ⟨List.mem_append_right _ (List.mem_of_getElem? (i := 833) (by decide +kernel)), by decide +kernel⟩
theorem wd_834 : Cond.selects RX9 yX9_drift yX9_drift ∈ pm_ws := List.mem_filter.mpr ⟨List.mem_append_right _ (List.mem_of_getElem? (i := 834) (by decide +kernel)), by decide +kernel⟩
theorem wd_832 : Cond.methodLink RL 50 yX9_drift ∈ pm_ws := List.mem_filter.mpr ⟨List.mem_append_right _ (List.mem_of_getElem? (i := 832) (by decide +kernel)), by decide +kernel⟩
theorem wd_491 : Cond.code yX8_go cX8_go 4 (some .int) ∈ pm_ws := List.mem_filter.mpr ⟨List.mem_append_right _ (List.mem_of_getElem? (i := 491) (by decide +kernel)), by decide +kernel⟩
theorem wd_489 : Cond.instanceMethod yX8_go ∈ pm_ws := List.mem_filter.mpr ⟨List.mem_append_right _ (List.mem_of_getElem? (i := 489) (by decide +kernel)), by decide +kernel⟩
theorem wd_490 : Cond.selects RX8 yX8_go yX8_go ∈ pm_ws := List.mem_filter.mpr ⟨List.mem_append_right _ (List.mem_of_getElem? (i := 490) (by decide +kernel)), by decide +kernel⟩
theorem wd_488 : Cond.methodLink RL 51 yX8_go ∈ pm_ws := List.mem_filter.mpr ⟨List.mem_append_right _ (List.mem_of_getElem? (i := 488) (by decide +kernel)), by decide +kernel⟩
theorem wd_839 : Cond.code yX9_go cX9_go 4 (some .int) ∈ pm_ws := List.mem_filter.mpr ⟨List.mem_append_right _ (List.mem_of_getElem? (i := 839) (by decide +kernel)), by decide +kernel⟩
theorem wd_837 : Cond.instanceMethod yX9_go ∈ pm_ws := List.mem_filter.mpr ⟨List.mem_append_right _ (List.mem_of_getElem? (i := 837) (by decide +kernel)), by decide +kernel⟩
theorem wd_838 : Cond.selects RX9 yX9_go yX9_go ∈ pm_ws := List.mem_filter.mpr ⟨List.mem_append_right _ (List.mem_of_getElem? (i := 838) (by decide +kernel)), by decide +kernel⟩
theorem wd_836 : Cond.methodLink RL 54 yX9_go ∈ pm_ws := List.mem_filter.mpr ⟨List.mem_append_right _ (List.mem_of_getElem? (i := 836) (by decide +kernel)), by decide +kernel⟩
theorem wd_511 : Cond.code yX8_undo cX8_undo 1 (some .int) ∈ pm_ws := List.mem_filter.mpr ⟨List.mem_append_right _ (List.mem_of_getElem? (i := 511) (by decide +kernel)), by decide +kernel⟩
theorem wd_509 : Cond.instanceMethod yX8_undo ∈ pm_ws := List.mem_filter.mpr ⟨List.mem_append_right _ (List.mem_of_getElem? (i := 509) (by decide +kernel)), by decide +kernel⟩
theorem wd_510 : Cond.selects RX8 yX8_undo yX8_undo ∈ pm_ws := List.mem_filter.mpr ⟨List.mem_append_right _ (List.mem_of_getElem? (i := 510) (by decide +kernel)), by decide +kernel⟩
theorem wd_508 : Cond.methodLink RL 55 yX8_undo ∈ pm_ws := List.mem_filter.mpr ⟨List.mem_append_right _ (List.mem_of_getElem? (i := 508) (by decide +kernel)), by decide +kernel⟩
theorem wd_788 : Cond.code yX9_undo cX9_undo 2 (some .int) ∈ pm_ws := List.mem_filter.mpr ⟨List.mem_append_right _ (List.mem_of_getElem? (i := 788) (by decide +kernel)), by decide +kernel⟩
theorem wd_786 : Cond.instanceMethod yX9_undo ∈ pm_ws := List.mem_filter.mpr ⟨List.mem_append_right _ (List.mem_of_getElem? (i := 786) (by decide +kernel)), by decide +kernel⟩
theorem wd_787 : Cond.selects RX9 yX9_undo yX9_undo ∈ pm_ws := List.mem_filter.mpr ⟨List.mem_append_right _ (List.mem_of_getElem? (i := 787) (by decide +kernel)), by decide +kernel⟩
theorem wd_785 : Cond.methodLink RL 58 yX9_undo ∈ pm_ws := List.mem_filter.mpr ⟨List.mem_append_right _ (List.mem_of_getElem? (i := 785) (by decide +kernel)), by decide +kernel⟩
theorem wd_519 : Cond.code yX8_span cX8_span 3 (some .long) ∈ pm_ws := List.mem_filter.mpr ⟨List.mem_append_right _ (List.mem_of_getElem? (i := 519) (by decide +kernel)), by decide +kernel⟩
theorem wd_517 : Cond.instanceMethod yX8_span ∈ pm_ws := List.mem_filter.mpr ⟨List.mem_append_right _ (List.mem_of_getElem? (i := 517) (by decide +kernel)), by decide +kernel⟩
theorem wd_518 : Cond.selects RX8 yX8_span yX8_span ∈ pm_ws := List.mem_filter.mpr ⟨List.mem_append_right _ (List.mem_of_getElem? (i := 518) (by decide +kernel)), by decide +kernel⟩
theorem wd_516 : Cond.methodLink RL 59 yX8_span ∈ pm_ws := List.mem_filter.mpr ⟨List.mem_append_right _ (List.mem_of_getElem? (i := 516) (by decide +kernel)), by decide +kernel⟩
theorem wd_857 : Cond.code yX9_span cX9_span 3 (some .long) ∈ pm_ws := List.mem_filter.mpr ⟨List.mem_append_right _ (List.mem_of_getElem? (i := 857) (by decide +kernel)), by decide +kernel⟩
theorem wd_855 : Cond.instanceMethod yX9_span ∈ pm_ws := List.mem_filter.mpr ⟨List.mem_append_right _ (List.mem_of_getElem? (i := 855) (by decide +kernel)), by decide +kernel⟩
theorem wd_856 : Cond.selects RX9 yX9_span yX9_span ∈ pm_ws := List.mem_filter.mpr ⟨List.mem_append_right _ (List.mem_of_getElem? (i := 856) (by decide +kernel)), by decide +kernel⟩
theorem wd_854 : Cond.methodLink RL 63 yX9_span ∈ pm_ws := List.mem_filter.mpr ⟨List.mem_append_right _ (List.mem_of_getElem? (i := 854) (by decide +kernel)), by decide +kernel⟩
theorem wd_531 : Cond.code yX8_agreed cX8_agreed 2 (some .long) ∈ pm_ws := List.mem_filter.mpr ⟨List.mem_append_right _ (List.mem_of_getElem? (i := 531) (by decide +kernel)), by decide +kernel⟩
theorem wd_529 : Cond.instanceMethod yX8_agreed ∈ pm_ws := List.mem_filter.mpr ⟨List.mem_append_right _ (List.mem_of_getElem? (i := 529) (by decide +kernel)), by decide +kernel⟩
theorem wd_530 : Cond.selects RX8 yX8_agreed yX8_agreed ∈ pm_ws := List.mem_filter.mpr ⟨List.mem_append_right _ (List.mem_of_getElem? (i := 530) (by decide +kernel)), by decide +kernel⟩
theorem wd_528 : Cond.methodLink RL 64 yX8_agreed ∈ pm_ws := List.mem_filter.mpr ⟨List.mem_append_right _ (List.mem_of_getElem? (i := 528) (by decide +kernel)), by decide +kernel⟩
theorem wd_863 : Cond.code yX9_agreed cX9_agreed 2 (some .long) ∈ pm_ws := List.mem_filter.mpr ⟨List.mem_append_right _ (List.mem_of_getElem? (i := 863) (by decide +kernel)), by decide +kernel⟩
theorem wd_861 : Cond.instanceMethod yX9_agreed ∈ pm_ws := List.mem_filter.mpr ⟨List.mem_append_right _ (List.mem_of_getElem? (i := 861) (by decide +kernel)), by decide +kernel⟩
theorem wd_862 : Cond.selects RX9 yX9_agreed yX9_agreed ∈ pm_ws := List.mem_filter.mpr ⟨List.mem_append_right _ (List.mem_of_getElem? (i := 862) (by decide +kernel)), by decide +kernel⟩
theorem wd_860 : Cond.methodLink RL 68 yX9_agreed ∈ pm_ws := List.mem_filter.mpr ⟨List.mem_append_right _ (List.mem_of_getElem? (i := 860) (by decide +kernel)), by decide +kernel⟩
theorem wd_535 : Cond.code yX8_good cX8_good 1 (some .int) ∈ pm_ws := List.mem_filter.mpr ⟨List.mem_append_right _ (List.mem_of_getElem? (i := 535) (by decide +kernel)), by decide +kernel⟩
theorem wd_533 : Cond.instanceMethod yX8_good ∈ pm_ws := List.mem_filter.mpr ⟨List.mem_append_right _ (List.mem_of_getElem? (i := 533) (by decide +kernel)), by decide +kernel⟩
theorem wd_534 : Cond.selects RX8 yX8_good yX8_good ∈ pm_ws := List.mem_filter.mpr ⟨List.mem_append_right _ (List.mem_of_getElem? (i := 534) (by decide +kernel)), by decide +kernel⟩
theorem wd_532 : Cond.methodLink RL 69 yX8_good ∈ pm_ws := List.mem_filter.mpr ⟨List.mem_append_right _ (List.mem_of_getElem? (i := 532) (by decide +kernel)), by decide +kernel⟩
theorem wd_867 : Cond.code yX9_good cX9_good 1 (some .int) ∈ pm_ws := List.mem_filter.mpr ⟨List.mem_append_right _ (List.mem_of_getElem? (i := 867) (by decide +kernel)), by decide +kernel⟩
theorem wd_865 : Cond.instanceMethod yX9_good ∈ pm_ws := List.mem_filter.mpr ⟨List.mem_append_right _ (List.mem_of_getElem? (i := 865) (by decide +kernel)), by decide +kernel⟩
theorem wd_866 : Cond.selects RX9 yX9_good yX9_good ∈ pm_ws := List.mem_filter.mpr ⟨List.mem_append_right _ (List.mem_of_getElem? (i := 866) (by decide +kernel)), by decide +kernel⟩
theorem wd_864 : Cond.methodLink RL 72 yX9_good ∈ pm_ws := List.mem_filter.mpr ⟨List.mem_append_right _ (List.mem_of_getElem? (i := 864) (by decide +kernel)), by decide +kernel⟩
theorem wd_539 : Cond.code yX8_in cX8_in 3 (some .int) ∈ pm_ws := List.mem_filter.mpr ⟨List.mem_append_right _ (List.mem_of_getElem? (i := 539) (by decide +kernel)), by decide +kernel⟩
theorem wd_537 : Cond.instanceMethod yX8_in ∈ pm_ws := List.mem_filter.mpr ⟨List.mem_append_right _ (List.mem_of_getElem? (i := 537) (by decide +kernel)), by decide +kernel⟩
theorem wd_538 : Cond.selects RX8 yX8_in yX8_in ∈ pm_ws := List.mem_filter.mpr ⟨List.mem_append_right _ (List.mem_of_getElem? (i := 538) (by decide +kernel)), by decide +kernel⟩
theorem wd_536 : Cond.methodLink RL 73 yX8_in ∈ pm_ws := List.mem_filter.mpr ⟨List.mem_append_right _ (List.mem_of_getElem? (i := 536) (by decide +kernel)), by decide +kernel⟩
theorem wd_871 : Cond.code yX9_in cX9_in 3 (some .int) ∈ pm_ws := List.mem_filter.mpr ⟨List.mem_append_right _ (List.mem_of_getElem? (i := 871) (by decide +kernel)), by decide +kernel⟩
theorem wd_869 : Cond.instanceMethod yX9_in ∈ pm_ws := List.mem_filter.mpr ⟨List.mem_append_right _ (List.mem_of_getElem? (i := 869) (by decide +kernel)), by decide +kernel⟩
theorem wd_870 : Cond.selects RX9 yX9_in yX9_in ∈ pm_ws := List.mem_filter.mpr ⟨List.mem_append_right _ (List.mem_of_getElem? (i := 870) (by decide +kernel)), by decide +kernel⟩
theorem wd_868 : Cond.methodLink RL 77 yX9_in ∈ pm_ws := List.mem_filter.mpr ⟨List.mem_append_right _ (List.mem_of_getElem? (i := 868) (by decide +kernel)), by decide +kernel⟩
theorem wd_429 : Cond.code yX8_liars cX8_liars 7 (some .int) ∈ pm_ws := List.mem_filter.mpr ⟨List.mem_append_right _ (List.mem_of_getElem? (i := 429) (by decide +kernel)), by decide +kernel⟩
theorem wd_427 : Cond.instanceMethod yX8_liars ∈ pm_ws := List.mem_filter.mpr ⟨List.mem_append_right _ (List.mem_of_getElem? (i := 427) (by decide +kernel)), by decide +kernel⟩
theorem wd_428 : Cond.selects RX8 yX8_liars yX8_liars ∈ pm_ws := List.mem_filter.mpr ⟨List.mem_append_right _ (List.mem_of_getElem? (i := 428) (by decide +kernel)), by decide +kernel⟩
theorem wd_545 : Cond.methodLink RL 78 yX8_liars ∈ pm_ws := List.mem_filter.mpr ⟨List.mem_append_right _ (List.mem_of_getElem? (i := 545) (by decide +kernel)), by decide +kernel⟩
theorem wd_876 : Cond.code yX9_liars cX9_liars 1 (some .int) ∈ pm_ws := List.mem_filter.mpr ⟨List.mem_append_right _ (List.mem_of_getElem? (i := 876) (by decide +kernel)), by decide +kernel⟩
theorem wd_874 : Cond.instanceMethod yX9_liars ∈ pm_ws := List.mem_filter.mpr ⟨List.mem_append_right _ (List.mem_of_getElem? (i := 874) (by decide +kernel)), by decide +kernel⟩
theorem wd_875 : Cond.selects RX9 yX9_liars yX9_liars ∈ pm_ws := List.mem_filter.mpr ⟨List.mem_append_right _ (List.mem_of_getElem? (i := 875) (by decide +kernel)), by decide +kernel⟩
theorem wd_873 : Cond.methodLink RL 81 yX9_liars ∈ pm_ws := List.mem_filter.mpr ⟨List.mem_append_right _ (List.mem_of_getElem? (i := 873) (by decide +kernel)), by decide +kernel⟩
theorem wd_549 : Cond.code yX8_commit cX8_commit 3 (some .int) ∈ pm_ws := List.mem_filter.mpr ⟨List.mem_append_right _ (List.mem_of_getElem? (i := 549) (by decide +kernel)), by decide +kernel⟩
theorem wd_547 : Cond.instanceMethod yX8_commit ∈ pm_ws := List.mem_filter.mpr ⟨List.mem_append_right _ (List.mem_of_getElem? (i := 547) (by decide +kernel)), by decide +kernel⟩
theorem wd_548 : Cond.selects RX8 yX8_commit yX8_commit ∈ pm_ws := List.mem_filter.mpr ⟨List.mem_append_right _ (List.mem_of_getElem? (i := 548) (by decide +kernel)), by decide +kernel⟩
theorem wd_546 : Cond.methodLink RL 82 yX8_commit ∈ pm_ws := List.mem_filter.mpr ⟨List.mem_append_right _ (List.mem_of_getElem? (i := 546) (by decide +kernel)), by decide +kernel⟩
theorem wd_880 : Cond.code yX9_commit cX9_commit 7 (some .int) ∈ pm_ws := List.mem_filter.mpr ⟨List.mem_append_right _ (List.mem_of_getElem? (i := 880) (by decide +kernel)), by decide +kernel⟩
theorem wd_878 : Cond.instanceMethod yX9_commit ∈ pm_ws := List.mem_filter.mpr ⟨List.mem_append_right _ (List.mem_of_getElem? (i := 878) (by decide +kernel)), by decide +kernel⟩
theorem wd_879 : Cond.selects RX9 yX9_commit yX9_commit ∈ pm_ws := List.mem_filter.mpr ⟨List.mem_append_right _ (List.mem_of_getElem? (i := 879) (by decide +kernel)), by decide +kernel⟩
theorem wd_877 : Cond.methodLink RL 85 yX9_commit ∈ pm_ws := List.mem_filter.mpr ⟨List.mem_append_right _ (List.mem_of_getElem? (i := 877) (by decide +kernel)), by decide +kernel⟩
theorem wd_568 : Cond.code yX8_commitOf cX8_commitOf 3 (some .long) ∈ pm_ws := List.mem_filter.mpr ⟨List.mem_append_right _ (List.mem_of_getElem? (i := 568) (by decide +kernel)), by decide +kernel⟩
theorem wd_566 : Cond.instanceMethod yX8_commitOf ∈ pm_ws := List.mem_filter.mpr ⟨List.mem_append_right _ (List.mem_of_getElem? (i := 566) (by decide +kernel)), by decide +kernel⟩
theorem wd_567 : Cond.selects RX8 yX8_commitOf yX8_commitOf ∈ pm_ws := List.mem_filter.mpr ⟨List.mem_append_right _ (List.mem_of_getElem? (i := 567) (by decide +kernel)), by decide +kernel⟩
theorem wd_565 : Cond.methodLink RL 86 yX8_commitOf ∈ pm_ws := List.mem_filter.mpr ⟨List.mem_append_right _ (List.mem_of_getElem? (i := 565) (by decide +kernel)), by decide +kernel⟩
theorem wd_889 : Cond.code yX9_commitOf cX9_commitOf 3 (some .long) ∈ pm_ws := List.mem_filter.mpr ⟨List.mem_append_right _ (List.mem_of_getElem? (i := 889) (by decide +kernel)), by decide +kernel⟩
theorem wd_887 : Cond.instanceMethod yX9_commitOf ∈ pm_ws := List.mem_filter.mpr ⟨List.mem_append_right _ (List.mem_of_getElem? (i := 887) (by decide +kernel)), by decide +kernel⟩
theorem wd_888 : Cond.selects RX9 yX9_commitOf yX9_commitOf ∈ pm_ws := List.mem_filter.mpr ⟨List.mem_append_right _ (List.mem_of_getElem? (i := 888) (by decide +kernel)), by decide +kernel⟩
theorem wd_886 : Cond.methodLink RL 89 yX9_commitOf ∈ pm_ws := List.mem_filter.mpr ⟨List.mem_append_right _ (List.mem_of_getElem? (i := 886) (by decide +kernel)), by decide +kernel⟩
theorem wd_582 : Cond.code yX8_waiting cX8_waiting 5 (some .int) ∈ pm_ws := List.mem_filter.mpr ⟨List.mem_append_right _ (List.mem_of_getElem? (i := 582) (by decide +kernel)), by decide +kernel⟩
theorem wd_580 : Cond.instanceMethod yX8_waiting ∈ pm_ws := List.mem_filter.mpr ⟨List.mem_append_right _ (List.mem_of_getElem? (i := 580) (by decide +kernel)), by decide +kernel⟩
theorem wd_581 : Cond.selects RX8 yX8_waiting yX8_waiting ∈ pm_ws := List.mem_filter.mpr ⟨List.mem_append_right _ (List.mem_of_getElem? (i := 581) (by decide +kernel)), by decide +kernel⟩
theorem wd_579 : Cond.methodLink RL 90 yX8_waiting ∈ pm_ws := List.mem_filter.mpr ⟨List.mem_append_right _ (List.mem_of_getElem? (i := 579) (by decide +kernel)), by decide +kernel⟩
theorem wd_898 : Cond.code yX9_waiting cX9_waiting 3 (some .int) ∈ pm_ws := List.mem_filter.mpr ⟨List.mem_append_right _ (List.mem_of_getElem? (i := 898) (by decide +kernel)), by decide +kernel⟩
theorem wd_896 : Cond.instanceMethod yX9_waiting ∈ pm_ws := List.mem_filter.mpr ⟨List.mem_append_right _ (List.mem_of_getElem? (i := 896) (by decide +kernel)), by decide +kernel⟩
theorem wd_897 : Cond.selects RX9 yX9_waiting yX9_waiting ∈ pm_ws := List.mem_filter.mpr ⟨List.mem_append_right _ (List.mem_of_getElem? (i := 897) (by decide +kernel)), by decide +kernel⟩
theorem wd_895 : Cond.methodLink RL 93 yX9_waiting ∈ pm_ws := List.mem_filter.mpr ⟨List.mem_append_right _ (List.mem_of_getElem? (i := 895) (by decide +kernel)), by decide +kernel⟩
theorem wd_586 : Cond.code yX8_safe cX8_safe 4 (some .long) ∈ pm_ws := List.mem_filter.mpr ⟨List.mem_append_right _ (List.mem_of_getElem? (i := 586) (by decide +kernel)), by decide +kernel⟩
theorem wd_584 : Cond.instanceMethod yX8_safe ∈ pm_ws := List.mem_filter.mpr ⟨List.mem_append_right _ (List.mem_of_getElem? (i := 584) (by decide +kernel)), by decide +kernel⟩
theorem wd_585 : Cond.selects RX8 yX8_safe yX8_safe ∈ pm_ws := List.mem_filter.mpr ⟨List.mem_append_right _ (List.mem_of_getElem? (i := 585) (by decide +kernel)), by decide +kernel⟩
theorem wd_583 : Cond.methodLink RL 94 yX8_safe ∈ pm_ws := List.mem_filter.mpr ⟨List.mem_append_right _ (List.mem_of_getElem? (i := 583) (by decide +kernel)), by decide +kernel⟩
theorem wd_902 : Cond.code yX9_safe cX9_safe 1 (some .long) ∈ pm_ws := List.mem_filter.mpr ⟨List.mem_append_right _ (List.mem_of_getElem? (i := 902) (by decide +kernel)), by decide +kernel⟩
theorem wd_900 : Cond.instanceMethod yX9_safe ∈ pm_ws := List.mem_filter.mpr ⟨List.mem_append_right _ (List.mem_of_getElem? (i := 900) (by decide +kernel)), by decide +kernel⟩
theorem wd_901 : Cond.selects RX9 yX9_safe yX9_safe ∈ pm_ws := List.mem_filter.mpr ⟨List.mem_append_right _ (List.mem_of_getElem? (i := 901) (by decide +kernel)), by decide +kernel⟩
theorem wd_899 : Cond.methodLink RL 98 yX9_safe ∈ pm_ws := List.mem_filter.mpr ⟨List.mem_append_right _ (List.mem_of_getElem? (i := 899) (by decide +kernel)), by decide +kernel⟩
theorem wd_596 : Cond.code yX8_read cX8_read 4 (some .int) ∈ pm_ws := List.mem_filter.mpr ⟨List.mem_append_right _ (List.mem_of_getElem? (i := 596) (by decide +kernel)), by decide +kernel⟩
theorem wd_594 : Cond.instanceMethod yX8_read ∈ pm_ws := List.mem_filter.mpr ⟨List.mem_append_right _ (List.mem_of_getElem? (i := 594) (by decide +kernel)), by decide +kernel⟩
theorem wd_595 : Cond.selects RX8 yX8_read yX8_read ∈ pm_ws := List.mem_filter.mpr ⟨List.mem_append_right _ (List.mem_of_getElem? (i := 595) (by decide +kernel)), by decide +kernel⟩
theorem wd_593 : Cond.methodLink RL 99 yX8_read ∈ pm_ws := List.mem_filter.mpr ⟨List.mem_append_right _ (List.mem_of_getElem? (i := 593) (by decide +kernel)), by decide +kernel⟩
theorem wd_911 : Cond.code yX9_read cX9_read 7 (some .int) ∈ pm_ws := List.mem_filter.mpr ⟨List.mem_append_right _ (List.mem_of_getElem? (i := 911) (by decide +kernel)), by decide +kernel⟩
theorem wd_909 : Cond.instanceMethod yX9_read ∈ pm_ws := List.mem_filter.mpr ⟨List.mem_append_right _ (List.mem_of_getElem? (i := 909) (by decide +kernel)), by decide +kernel⟩
theorem wd_910 : Cond.selects RX9 yX9_read yX9_read ∈ pm_ws := List.mem_filter.mpr ⟨List.mem_append_right _ (List.mem_of_getElem? (i := 910) (by decide +kernel)), by decide +kernel⟩
theorem wd_908 : Cond.methodLink RL 103 yX9_read ∈ pm_ws := List.mem_filter.mpr ⟨List.mem_append_right _ (List.mem_of_getElem? (i := 908) (by decide +kernel)), by decide +kernel⟩
theorem wd_605 : Cond.code yX8_between cX8_between 6 (some .int) ∈ pm_ws := List.mem_filter.mpr ⟨List.mem_append_right _ (List.mem_of_getElem? (i := 605) (by decide +kernel)), by decide +kernel⟩
theorem wd_603 : Cond.instanceMethod yX8_between ∈ pm_ws := List.mem_filter.mpr ⟨List.mem_append_right _ (List.mem_of_getElem? (i := 603) (by decide +kernel)), by decide +kernel⟩
theorem wd_604 : Cond.selects RX8 yX8_between yX8_between ∈ pm_ws := List.mem_filter.mpr ⟨List.mem_append_right _ (List.mem_of_getElem? (i := 604) (by decide +kernel)), by decide +kernel⟩
theorem wd_602 : Cond.methodLink RL 104 yX8_between ∈ pm_ws := List.mem_filter.mpr ⟨List.mem_append_right _ (List.mem_of_getElem? (i := 602) (by decide +kernel)), by decide +kernel⟩
theorem wd_915 : Cond.code yX9_between cX9_between 9 (some .int) ∈ pm_ws := List.mem_filter.mpr ⟨List.mem_append_right _ (List.mem_of_getElem? (i := 915) (by decide +kernel)), by decide +kernel⟩
theorem wd_913 : Cond.instanceMethod yX9_between ∈ pm_ws := List.mem_filter.mpr ⟨List.mem_append_right _ (List.mem_of_getElem? (i := 913) (by decide +kernel)), by decide +kernel⟩
theorem wd_914 : Cond.selects RX9 yX9_between yX9_between ∈ pm_ws := List.mem_filter.mpr ⟨List.mem_append_right _ (List.mem_of_getElem? (i := 914) (by decide +kernel)), by decide +kernel⟩
theorem wd_912 : Cond.methodLink RL 107 yX9_between ∈ pm_ws := List.mem_filter.mpr ⟨List.mem_append_right _ (List.mem_of_getElem? (i := 912) (by decide +kernel)), by decide +kernel⟩
theorem wd_613 : Cond.code yX8_leap cX8_leap 2 (some .long) ∈ pm_ws := List.mem_filter.mpr ⟨List.mem_append_right _ (List.mem_of_getElem? (i := 613) (by decide +kernel)), by decide +kernel⟩
theorem wd_611 : Cond.instanceMethod yX8_leap ∈ pm_ws := List.mem_filter.mpr ⟨List.mem_append_right _ (List.mem_of_getElem? (i := 611) (by decide +kernel)), by decide +kernel⟩
theorem wd_612 : Cond.selects RX8 yX8_leap yX8_leap ∈ pm_ws := List.mem_filter.mpr ⟨List.mem_append_right _ (List.mem_of_getElem? (i := 612) (by decide +kernel)), by decide +kernel⟩
theorem wd_610 : Cond.methodLink RL 108 yX8_leap ∈ pm_ws := List.mem_filter.mpr ⟨List.mem_append_right _ (List.mem_of_getElem? (i := 610) (by decide +kernel)), by decide +kernel⟩
theorem wd_919 : Cond.code yX9_leap cX9_leap 2 (some .long) ∈ pm_ws := List.mem_filter.mpr ⟨List.mem_append_right _ (List.mem_of_getElem? (i := 919) (by decide +kernel)), by decide +kernel⟩
theorem wd_917 : Cond.instanceMethod yX9_leap ∈ pm_ws := List.mem_filter.mpr ⟨List.mem_append_right _ (List.mem_of_getElem? (i := 917) (by decide +kernel)), by decide +kernel⟩
theorem wd_918 : Cond.selects RX9 yX9_leap yX9_leap ∈ pm_ws := List.mem_filter.mpr ⟨List.mem_append_right _ (List.mem_of_getElem? (i := 918) (by decide +kernel)), by decide +kernel⟩
theorem wd_916 : Cond.methodLink RL 111 yX9_leap ∈ pm_ws := List.mem_filter.mpr ⟨List.mem_append_right _ (List.mem_of_getElem? (i := 916) (by decide +kernel)), by decide +kernel⟩
theorem wd_617 : Cond.code yX8_smeared cX8_smeared 3 (some .long) ∈ pm_ws := List.mem_filter.mpr ⟨List.mem_append_right _ (List.mem_of_getElem? (i := 617) (by decide +kernel)), by decide +kernel⟩
theorem wd_615 : Cond.instanceMethod yX8_smeared ∈ pm_ws := List.mem_filter.mpr ⟨List.mem_append_right _ (List.mem_of_getElem? (i := 615) (by decide +kernel)), by decide +kernel⟩
theorem wd_616 : Cond.selects RX8 yX8_smeared yX8_smeared ∈ pm_ws := List.mem_filter.mpr ⟨List.mem_append_right _ (List.mem_of_getElem? (i := 616) (by decide +kernel)), by decide +kernel⟩
theorem wd_614 : Cond.methodLink RL 112 yX8_smeared ∈ pm_ws := List.mem_filter.mpr ⟨List.mem_append_right _ (List.mem_of_getElem? (i := 614) (by decide +kernel)), by decide +kernel⟩
theorem wd_924 : Cond.code yX9_smeared cX9_smeared 3 (some .long) ∈ pm_ws := List.mem_filter.mpr ⟨List.mem_append_right _ (List.mem_of_getElem? (i := 924) (by decide +kernel)), by decide +kernel⟩
theorem wd_922 : Cond.instanceMethod yX9_smeared ∈ pm_ws := List.mem_filter.mpr ⟨List.mem_append_right _ (List.mem_of_getElem? (i := 922) (by decide +kernel)), by decide +kernel⟩
theorem wd_923 : Cond.selects RX9 yX9_smeared yX9_smeared ∈ pm_ws := List.mem_filter.mpr ⟨List.mem_append_right _ (List.mem_of_getElem? (i := 923) (by decide +kernel)), by decide +kernel⟩
theorem wd_921 : Cond.methodLink RL 116 yX9_smeared ∈ pm_ws := List.mem_filter.mpr ⟨List.mem_append_right _ (List.mem_of_getElem? (i := 921) (by decide +kernel)), by decide +kernel⟩
theorem wd_629 : Cond.code yX8_back cX8_back 3 (some .long) ∈ pm_ws := List.mem_filter.mpr ⟨List.mem_append_right _ (List.mem_of_getElem? (i := 629) (by decide +kernel)), by decide +kernel⟩
theorem wd_627 : Cond.instanceMethod yX8_back ∈ pm_ws := List.mem_filter.mpr ⟨List.mem_append_right _ (List.mem_of_getElem? (i := 627) (by decide +kernel)), by decide +kernel⟩
theorem wd_628 : Cond.selects RX8 yX8_back yX8_back ∈ pm_ws := List.mem_filter.mpr ⟨List.mem_append_right _ (List.mem_of_getElem? (i := 628) (by decide +kernel)), by decide +kernel⟩
theorem wd_626 : Cond.methodLink RL 117 yX8_back ∈ pm_ws := List.mem_filter.mpr ⟨List.mem_append_right _ (List.mem_of_getElem? (i := 626) (by decide +kernel)), by decide +kernel⟩
theorem wd_932 : Cond.code yX9_back cX9_back 9 (some .long) ∈ pm_ws := List.mem_filter.mpr ⟨List.mem_append_right _ (List.mem_of_getElem? (i := 932) (by decide +kernel)), by decide +kernel⟩
theorem wd_930 : Cond.instanceMethod yX9_back ∈ pm_ws := List.mem_filter.mpr ⟨List.mem_append_right _ (List.mem_of_getElem? (i := 930) (by decide +kernel)), by decide +kernel⟩
theorem wd_931 : Cond.selects RX9 yX9_back yX9_back ∈ pm_ws := List.mem_filter.mpr ⟨List.mem_append_right _ (List.mem_of_getElem? (i := 931) (by decide +kernel)), by decide +kernel⟩
theorem wd_929 : Cond.methodLink RL 120 yX9_back ∈ pm_ws := List.mem_filter.mpr ⟨List.mem_append_right _ (List.mem_of_getElem? (i := 929) (by decide +kernel)), by decide +kernel⟩
theorem wd_640 : Cond.code yX8_count cX8_count 2 (some .int) ∈ pm_ws := List.mem_filter.mpr ⟨List.mem_append_right _ (List.mem_of_getElem? (i := 640) (by decide +kernel)), by decide +kernel⟩
theorem wd_638 : Cond.instanceMethod yX8_count ∈ pm_ws := List.mem_filter.mpr ⟨List.mem_append_right _ (List.mem_of_getElem? (i := 638) (by decide +kernel)), by decide +kernel⟩
theorem wd_639 : Cond.selects RX8 yX8_count yX8_count ∈ pm_ws := List.mem_filter.mpr ⟨List.mem_append_right _ (List.mem_of_getElem? (i := 639) (by decide +kernel)), by decide +kernel⟩
theorem wd_637 : Cond.methodLink RL 121 yX8_count ∈ pm_ws := List.mem_filter.mpr ⟨List.mem_append_right _ (List.mem_of_getElem? (i := 637) (by decide +kernel)), by decide +kernel⟩
theorem wd_937 : Cond.code yX9_count cX9_count 2 (some .int) ∈ pm_ws := List.mem_filter.mpr ⟨List.mem_append_right _ (List.mem_of_getElem? (i := 937) (by decide +kernel)), by decide +kernel⟩
theorem wd_935 : Cond.instanceMethod yX9_count ∈ pm_ws := List.mem_filter.mpr ⟨List.mem_append_right _ (List.mem_of_getElem? (i := 935) (by decide +kernel)), by decide +kernel⟩
theorem wd_936 : Cond.selects RX9 yX9_count yX9_count ∈ pm_ws := List.mem_filter.mpr ⟨List.mem_append_right _ (List.mem_of_getElem? (i := 936) (by decide +kernel)), by decide +kernel⟩
theorem wd_934 : Cond.methodLink RL 124 yX9_count ∈ pm_ws := List.mem_filter.mpr ⟨List.mem_append_right _ (List.mem_of_getElem? (i := 934) (by decide +kernel)), by decide +kernel⟩
theorem wd_168 : Cond.methodLink RX0 3 objectInit ∈ pm_ws := List.mem_filter.mpr ⟨List.mem_append_right _ (List.mem_of_getElem? (i := 168) (by decide +kernel)), by decide +kernel⟩
theorem wd_24 : Cond.instanceMethod objectInit ∈ pm_ws := List.mem_filter.mpr ⟨List.mem_append_right _ (List.mem_of_getElem? (i := 24) (by decide +kernel)), by decide +kernel⟩
theorem wd_25 : Cond.code objectInit ⟨#[0xb1]⟩ 1 none ∈ pm_ws := List.mem_filter.mpr ⟨List.mem_append_right _ (List.mem_of_getElem? (i := 25) (by decide +kernel)), by decide +kernel⟩
theorem wd_60 : Cond.arrayClass .long ∈ pm_ws := List.mem_filter.mpr ⟨List.mem_append_right _ (List.mem_of_getElem? (i := 60) (by decide +kernel)), by decide +kernel⟩
theorem wd_169 : Cond.fieldLink RX0 9 "DoubtTime$Agreed" "begins" "[J" ∈ pm_ws := List.mem_filter.mpr ⟨List.mem_append_right _ (List.mem_of_getElem? (i := 169) (by decide +kernel)), by decide +kernel⟩
theorem wd_170 : Cond.fieldLink RX0 15 "DoubtTime$Agreed" "ends" "[J" ∈ pm_ws := List.mem_filter.mpr ⟨List.mem_append_right _ (List.mem_of_getElem? (i := 170) (by decide +kernel)), by decide +kernel⟩
theorem wd_171 : Cond.fieldLink RX0 18 "DoubtTime$Agreed" "heard" "I" ∈ pm_ws := List.mem_filter.mpr ⟨List.mem_append_right _ (List.mem_of_getElem? (i := 171) (by decide +kernel)), by decide +kernel⟩
theorem wd_173 : Cond.fieldLink RX0 22 "DoubtTime$Agreed" "most" "I" ∈ pm_ws := List.mem_filter.mpr ⟨List.mem_append_right _ (List.mem_of_getElem? (i := 173) (by decide +kernel)), by decide +kernel⟩
theorem wd_174 : Cond.fieldLink RX0 25 "DoubtTime$Agreed" "begin" "J" ∈ pm_ws := List.mem_filter.mpr ⟨List.mem_append_right _ (List.mem_of_getElem? (i := 174) (by decide +kernel)), by decide +kernel⟩
theorem wd_441 : Cond.code yX4_isHeard cX4_isHeard 2 (some .boolean) ∈ pm_ws := List.mem_filter.mpr ⟨List.mem_append_right _ (List.mem_of_getElem? (i := 441) (by decide +kernel)), by decide +kernel⟩
theorem wd_5 : Cond.initialized RX4 ∈ pm_ws := List.mem_filter.mpr ⟨List.mem_append_right _ (List.mem_of_getElem? (i := 5) (by decide +kernel)), by decide +kernel⟩
theorem wd_439 : Cond.instanceMethod yX4_isHeard ∈ pm_ws := List.mem_filter.mpr ⟨List.mem_append_right _ (List.mem_of_getElem? (i := 439) (by decide +kernel)), by decide +kernel⟩
theorem wd_440 : Cond.selects RX4 yX4_isHeard yX4_isHeard ∈ pm_ws := List.mem_filter.mpr ⟨List.mem_append_right _ (List.mem_of_getElem? (i := 440) (by decide +kernel)), by decide +kernel⟩
theorem wd_438 : Cond.methodLink RX0 29 yX4_isHeard ∈ pm_ws := List.mem_filter.mpr ⟨List.mem_append_right _ (List.mem_of_getElem? (i := 438) (by decide +kernel)), by decide +kernel⟩
theorem wd_445 : Cond.code yX4_beginOf cX4_beginOf 5 (some .long) ∈ pm_ws := List.mem_filter.mpr ⟨List.mem_append_right _ (List.mem_of_getElem? (i := 445) (by decide +kernel)), by decide +kernel⟩
theorem wd_443 : Cond.instanceMethod yX4_beginOf ∈ pm_ws := List.mem_filter.mpr ⟨List.mem_append_right _ (List.mem_of_getElem? (i := 443) (by decide +kernel)), by decide +kernel⟩
theorem wd_444 : Cond.selects RX4 yX4_beginOf yX4_beginOf ∈ pm_ws := List.mem_filter.mpr ⟨List.mem_append_right _ (List.mem_of_getElem? (i := 444) (by decide +kernel)), by decide +kernel⟩
theorem wd_442 : Cond.methodLink RX0 35 yX4_beginOf ∈ pm_ws := List.mem_filter.mpr ⟨List.mem_append_right _ (List.mem_of_getElem? (i := 442) (by decide +kernel)), by decide +kernel⟩
theorem wd_454 : Cond.code yX4_endOf cX4_endOf 5 (some .long) ∈ pm_ws := List.mem_filter.mpr ⟨List.mem_append_right _ (List.mem_of_getElem? (i := 454) (by decide +kernel)), by decide +kernel⟩
theorem wd_452 : Cond.instanceMethod yX4_endOf ∈ pm_ws := List.mem_filter.mpr ⟨List.mem_append_right _ (List.mem_of_getElem? (i := 452) (by decide +kernel)), by decide +kernel⟩
theorem wd_453 : Cond.selects RX4 yX4_endOf yX4_endOf ∈ pm_ws := List.mem_filter.mpr ⟨List.mem_append_right _ (List.mem_of_getElem? (i := 453) (by decide +kernel)), by decide +kernel⟩
theorem wd_451 : Cond.methodLink RX0 39 yX4_endOf ∈ pm_ws := List.mem_filter.mpr ⟨List.mem_append_right _ (List.mem_of_getElem? (i := 451) (by decide +kernel)), by decide +kernel⟩
theorem wd_458 : Cond.code yX0_findBegin cX0_findBegin 3 none ∈ pm_ws := List.mem_filter.mpr ⟨List.mem_append_right _ (List.mem_of_getElem? (i := 458) (by decide +kernel)), by decide +kernel⟩
theorem wd_8 : Cond.initialized RX0 ∈ pm_ws := List.mem_filter.mpr ⟨List.mem_append_right _ (List.mem_of_getElem? (i := 8) (by decide +kernel)), by decide +kernel⟩
theorem wd_457 : Cond.instanceMethod yX0_findBegin ∈ pm_ws := List.mem_filter.mpr ⟨List.mem_append_right _ (List.mem_of_getElem? (i := 457) (by decide +kernel)), by decide +kernel⟩
theorem wp_7 : Cond.selects RX0 yX0_findBegin yX0_findBegin ∈ pm_ws := List.mem_filter.mpr ⟨List.mem_append_left _ (List.mem_of_getElem? (i := 7) (by decide +kernel)), by decide +kernel⟩
theorem wd_455 : Cond.methodLink RX0 42 yX0_findBegin ∈ pm_ws := List.mem_filter.mpr ⟨List.mem_append_right _ (List.mem_of_getElem? (i := 455) (by decide +kernel)), by decide +kernel⟩
theorem wd_462 : Cond.code yX0_howManyHold cX0_howManyHold 5 (some .int) ∈ pm_ws := List.mem_filter.mpr ⟨List.mem_append_right _ (List.mem_of_getElem? (i := 462) (by decide +kernel)), by decide +kernel⟩
theorem wd_460 : Cond.instanceMethod yX0_howManyHold ∈ pm_ws := List.mem_filter.mpr ⟨List.mem_append_right _ (List.mem_of_getElem? (i := 460) (by decide +kernel)), by decide +kernel⟩
theorem wd_461 : Cond.selects RX0 yX0_howManyHold yX0_howManyHold ∈ pm_ws := List.mem_filter.mpr ⟨List.mem_append_right _ (List.mem_of_getElem? (i := 461) (by decide +kernel)), by decide +kernel⟩
theorem wd_459 : Cond.methodLink RX0 45 yX0_howManyHold ∈ pm_ws := List.mem_filter.mpr ⟨List.mem_append_right _ (List.mem_of_getElem? (i := 459) (by decide +kernel)), by decide +kernel⟩
theorem wd_470 : Cond.code yX0_leastEndOver cX0_leastEndOver 6 (some .long) ∈ pm_ws := List.mem_filter.mpr ⟨List.mem_append_right _ (List.mem_of_getElem? (i := 470) (by decide +kernel)), by decide +kernel⟩
theorem wd_469 : Cond.instanceMethod yX0_leastEndOver ∈ pm_ws := List.mem_filter.mpr ⟨List.mem_append_right _ (List.mem_of_getElem? (i := 469) (by decide +kernel)), by decide +kernel⟩
theorem wp_8 : Cond.selects RX0 yX0_leastEndOver yX0_leastEndOver ∈ pm_ws := List.mem_filter.mpr ⟨List.mem_append_left _ (List.mem_of_getElem? (i := 8) (by decide +kernel)), by decide +kernel⟩
theorem wd_467 : Cond.methodLink RX0 49 yX0_leastEndOver ∈ pm_ws := List.mem_filter.mpr ⟨List.mem_append_right _ (List.mem_of_getElem? (i := 467) (by decide +kernel)), by decide +kernel⟩
theorem wd_471 : Cond.constantLong RX0 53 (9223372036854775807) ∈ pm_ws := List.mem_filter.mpr ⟨List.mem_append_right _ (List.mem_of_getElem? (i := 471) (by decide +kernel)), by decide +kernel⟩
theorem wd_472 : Cond.methodLink RX0 55 Lib.MathLoose.min_long.x ∈ pm_ws := List.mem_filter.mpr ⟨List.mem_append_right _ (List.mem_of_getElem? (i := 472) (by decide +kernel)), by decide +kernel⟩
theorem wd_473 : Cond.static Lib.MathLoose.min_long.x ∈ pm_ws := List.mem_filter.mpr ⟨List.mem_append_right _ (List.mem_of_getElem? (i := 473) (by decide +kernel)), by decide +kernel⟩
theorem wd_17 : Cond.initialized RJ9 ∈ pm_ws := List.mem_filter.mpr ⟨List.mem_append_right _ (List.mem_of_getElem? (i := 17) (by decide +kernel)), by decide +kernel⟩
theorem wd_474 : Cond.code Lib.MathLoose.min_long.x Lib.MathLoose.min_long.code 4 (some .long) ∈ pm_ws := List.mem_filter.mpr ⟨List.mem_append_right _ (List.mem_of_getElem? (i := 474) (by decide +kernel)), by decide +kernel⟩
theorem wd_100 : Cond.methodLink RX1 3 objectInit ∈ pm_ws := List.mem_filter.mpr ⟨List.mem_append_right _ (List.mem_of_getElem? (i := 100) (by decide +kernel)), by decide +kernel⟩
theorem wd_94 : Cond.arrayClass .int ∈ pm_ws := List.mem_filter.mpr ⟨List.mem_append_right _ (List.mem_of_getElem? (i := 94) (by decide +kernel)), by decide +kernel⟩
theorem wd_101 : Cond.fieldLink RX1 9 "DoubtTime$Commits" "key" "[I" ∈ pm_ws := List.mem_filter.mpr ⟨List.mem_append_right _ (List.mem_of_getElem? (i := 101) (by decide +kernel)), by decide +kernel⟩
theorem wd_103 : Cond.fieldLink RX1 15 "DoubtTime$Commits" "value" "[I" ∈ pm_ws := List.mem_filter.mpr ⟨List.mem_append_right _ (List.mem_of_getElem? (i := 103) (by decide +kernel)), by decide +kernel⟩
theorem wd_105 : Cond.fieldLink RX1 18 "DoubtTime$Commits" "stamp" "[J" ∈ pm_ws := List.mem_filter.mpr ⟨List.mem_append_right _ (List.mem_of_getElem? (i := 105) (by decide +kernel)), by decide +kernel⟩
theorem wd_107 : Cond.fieldLink RX1 22 "DoubtTime$Commits" "madeAt" "[I" ∈ pm_ws := List.mem_filter.mpr ⟨List.mem_append_right _ (List.mem_of_getElem? (i := 107) (by decide +kernel)), by decide +kernel⟩
theorem wd_109 : Cond.fieldLink RX1 25 "DoubtTime$Commits" "doneAt" "[I" ∈ pm_ws := List.mem_filter.mpr ⟨List.mem_append_right _ (List.mem_of_getElem? (i := 109) (by decide +kernel)), by decide +kernel⟩
theorem wd_111 : Cond.fieldLink RX1 28 "DoubtTime$Commits" "size" "I" ∈ pm_ws := List.mem_filter.mpr ⟨List.mem_append_right _ (List.mem_of_getElem? (i := 111) (by decide +kernel)), by decide +kernel⟩
theorem wd_113 : Cond.fieldLink RX1 32 "DoubtTime$Commits" "done" "I" ∈ pm_ws := List.mem_filter.mpr ⟨List.mem_append_right _ (List.mem_of_getElem? (i := 113) (by decide +kernel)), by decide +kernel⟩
theorem wd_414 : Cond.methodLink RX1 35 arraycopyName ∈ pm_ws := List.mem_filter.mpr ⟨List.mem_append_right _ (List.mem_of_getElem? (i := 414) (by decide +kernel)), by decide +kernel⟩
theorem wd_409 : Cond.native arraycopyName ∈ pm_ws := List.mem_filter.mpr ⟨List.mem_append_right _ (List.mem_of_getElem? (i := 409) (by decide +kernel)), by decide +kernel⟩
theorem wd_408 : Cond.static arraycopyName ∈ pm_ws := List.mem_filter.mpr ⟨List.mem_append_right _ (List.mem_of_getElem? (i := 408) (by decide +kernel)), by decide +kernel⟩
theorem wd_16 : Cond.initialized RJ10 ∈ pm_ws := List.mem_filter.mpr ⟨List.mem_append_right _ (List.mem_of_getElem? (i := 16) (by decide +kernel)), by decide +kernel⟩
theorem wd_561 : Cond.code yX1_latestStamp cX1_latestStamp 1 (some .long) ∈ pm_ws := List.mem_filter.mpr ⟨List.mem_append_right _ (List.mem_of_getElem? (i := 561) (by decide +kernel)), by decide +kernel⟩
theorem wd_6 : Cond.initialized RX1 ∈ pm_ws := List.mem_filter.mpr ⟨List.mem_append_right _ (List.mem_of_getElem? (i := 6) (by decide +kernel)), by decide +kernel⟩
theorem wd_559 : Cond.instanceMethod yX1_latestStamp ∈ pm_ws := List.mem_filter.mpr ⟨List.mem_append_right _ (List.mem_of_getElem? (i := 559) (by decide +kernel)), by decide +kernel⟩
theorem wd_560 : Cond.selects RX1 yX1_latestStamp yX1_latestStamp ∈ pm_ws := List.mem_filter.mpr ⟨List.mem_append_right _ (List.mem_of_getElem? (i := 560) (by decide +kernel)), by decide +kernel⟩
theorem wd_558 : Cond.methodLink RX1 41 yX1_latestStamp ∈ pm_ws := List.mem_filter.mpr ⟨List.mem_append_right _ (List.mem_of_getElem? (i := 558) (by decide +kernel)), by decide +kernel⟩
theorem wd_562 : Cond.methodLink RX1 45 Lib.MathLoose.max_long.x ∈ pm_ws := List.mem_filter.mpr ⟨List.mem_append_right _ (List.mem_of_getElem? (i := 562) (by decide +kernel)), by decide +kernel⟩
theorem wd_563 : Cond.static Lib.MathLoose.max_long.x ∈ pm_ws := List.mem_filter.mpr ⟨List.mem_append_right _ (List.mem_of_getElem? (i := 563) (by decide +kernel)), by decide +kernel⟩
theorem wd_564 : Cond.code Lib.MathLoose.max_long.x Lib.MathLoose.max_long.code 4 (some .long) ∈ pm_ws := List.mem_filter.mpr ⟨List.mem_append_right _ (List.mem_of_getElem? (i := 564) (by decide +kernel)), by decide +kernel⟩
theorem wd_46 : Cond.methodLink RX2 3 objectInit ∈ pm_ws := List.mem_filter.mpr ⟨List.mem_append_right _ (List.mem_of_getElem? (i := 46) (by decide +kernel)), by decide +kernel⟩
theorem wd_47 : Cond.fieldLink RX2 9 "DoubtTime$Item" "numbers" "[J" ∈ pm_ws := List.mem_filter.mpr ⟨List.mem_append_right _ (List.mem_of_getElem? (i := 47) (by decide +kernel)), by decide +kernel⟩
theorem wd_49 : Cond.fieldLink RX2 15 "DoubtTime$Item" "kind" "C" ∈ pm_ws := List.mem_filter.mpr ⟨List.mem_append_right _ (List.mem_of_getElem? (i := 49) (by decide +kernel)), by decide +kernel⟩
theorem wd_51 : Cond.fieldLink RX2 19 "DoubtTime$Item" "behind" "I" ∈ pm_ws := List.mem_filter.mpr ⟨List.mem_append_right _ (List.mem_of_getElem? (i := 51) (by decide +kernel)), by decide +kernel⟩
theorem wd_300 : Cond.code yX7_letterAt cX7_letterAt 2 (some .char) ∈ pm_ws := List.mem_filter.mpr ⟨List.mem_append_right _ (List.mem_of_getElem? (i := 300) (by decide +kernel)), by decide +kernel⟩
theorem wd_2 : Cond.initialized RX7 ∈ pm_ws := List.mem_filter.mpr ⟨List.mem_append_right _ (List.mem_of_getElem? (i := 2) (by decide +kernel)), by decide +kernel⟩
theorem wd_298 : Cond.instanceMethod yX7_letterAt ∈ pm_ws := List.mem_filter.mpr ⟨List.mem_append_right _ (List.mem_of_getElem? (i := 298) (by decide +kernel)), by decide +kernel⟩
theorem wd_299 : Cond.selects RX7 yX7_letterAt yX7_letterAt ∈ pm_ws := List.mem_filter.mpr ⟨List.mem_append_right _ (List.mem_of_getElem? (i := 299) (by decide +kernel)), by decide +kernel⟩
theorem wd_297 : Cond.methodLink RX2 23 yX7_letterAt ∈ pm_ws := List.mem_filter.mpr ⟨List.mem_append_right _ (List.mem_of_getElem? (i := 297) (by decide +kernel)), by decide +kernel⟩
theorem wd_304 : Cond.code yX2_howManyNumbers cX2_howManyNumbers 1 (some .int) ∈ pm_ws := List.mem_filter.mpr ⟨List.mem_append_right _ (List.mem_of_getElem? (i := 304) (by decide +kernel)), by decide +kernel⟩
theorem wd_3 : Cond.initialized RX2 ∈ pm_ws := List.mem_filter.mpr ⟨List.mem_append_right _ (List.mem_of_getElem? (i := 3) (by decide +kernel)), by decide +kernel⟩
theorem wd_303 : Cond.instanceMethod yX2_howManyNumbers ∈ pm_ws := List.mem_filter.mpr ⟨List.mem_append_right _ (List.mem_of_getElem? (i := 303) (by decide +kernel)), by decide +kernel⟩
theorem wp_1 : Cond.selects RX2 yX2_howManyNumbers yX2_howManyNumbers ∈ pm_ws := List.mem_filter.mpr ⟨List.mem_append_left _ (List.mem_of_getElem? (i := 1) (by decide +kernel)), by decide +kernel⟩
theorem wd_301 : Cond.methodLink RX2 29 yX2_howManyNumbers ∈ pm_ws := List.mem_filter.mpr ⟨List.mem_append_right _ (List.mem_of_getElem? (i := 301) (by decide +kernel)), by decide +kernel⟩
theorem wd_308 : Cond.code yX2_takeNumber cX2_takeNumber 9 (some .boolean) ∈ pm_ws := List.mem_filter.mpr ⟨List.mem_append_right _ (List.mem_of_getElem? (i := 308) (by decide +kernel)), by decide +kernel⟩
theorem wd_307 : Cond.instanceMethod yX2_takeNumber ∈ pm_ws := List.mem_filter.mpr ⟨List.mem_append_right _ (List.mem_of_getElem? (i := 307) (by decide +kernel)), by decide +kernel⟩
theorem wp_2 : Cond.selects RX2 yX2_takeNumber yX2_takeNumber ∈ pm_ws := List.mem_filter.mpr ⟨List.mem_append_left _ (List.mem_of_getElem? (i := 2) (by decide +kernel)), by decide +kernel⟩
theorem wd_305 : Cond.methodLink RX2 33 yX2_takeNumber ∈ pm_ws := List.mem_filter.mpr ⟨List.mem_append_right _ (List.mem_of_getElem? (i := 305) (by decide +kernel)), by decide +kernel⟩
theorem wd_314 : Cond.code yX2_areNumbersTold cX2_areNumbersTold 2 (some .boolean) ∈ pm_ws := List.mem_filter.mpr ⟨List.mem_append_right _ (List.mem_of_getElem? (i := 314) (by decide +kernel)), by decide +kernel⟩
theorem wd_313 : Cond.instanceMethod yX2_areNumbersTold ∈ pm_ws := List.mem_filter.mpr ⟨List.mem_append_right _ (List.mem_of_getElem? (i := 313) (by decide +kernel)), by decide +kernel⟩
theorem wp_3 : Cond.selects RX2 yX2_areNumbersTold yX2_areNumbersTold ∈ pm_ws := List.mem_filter.mpr ⟨List.mem_append_left _ (List.mem_of_getElem? (i := 3) (by decide +kernel)), by decide +kernel⟩
theorem wd_311 : Cond.methodLink RX2 37 yX2_areNumbersTold ∈ pm_ws := List.mem_filter.mpr ⟨List.mem_append_right _ (List.mem_of_getElem? (i := 311) (by decide +kernel)), by decide +kernel⟩
theorem wd_309 : Cond.constantLong RX2 41 (9223372036854775807) ∈ pm_ws := List.mem_filter.mpr ⟨List.mem_append_right _ (List.mem_of_getElem? (i := 309) (by decide +kernel)), by decide +kernel⟩
theorem wd_310 : Cond.constantLong RX2 43 (10) ∈ pm_ws := List.mem_filter.mpr ⟨List.mem_append_right _ (List.mem_of_getElem? (i := 310) (by decide +kernel)), by decide +kernel⟩
theorem wd_317 : Cond.code yX8_isDrift cX8_isDrift 2 (some .boolean) ∈ pm_ws := List.mem_filter.mpr ⟨List.mem_append_right _ (List.mem_of_getElem? (i := 317) (by decide +kernel)), by decide +kernel⟩
theorem wd_316 : Cond.static yX8_isDrift ∈ pm_ws := List.mem_filter.mpr ⟨List.mem_append_right _ (List.mem_of_getElem? (i := 316) (by decide +kernel)), by decide +kernel⟩
theorem wn_315 : Cond.methodLinkNest RX2 45 yX8_isDrift "DoubtTime" ∈ pm_nw := List.mem_filter.mpr ⟨List.mem_of_getElem? (i := 315) (by decide +kernel), by decide +kernel⟩
theorem wd_321 : Cond.code yX8_isMaster cX8_isMaster 2 (some .boolean) ∈ pm_ws := List.mem_filter.mpr ⟨List.mem_append_right _ (List.mem_of_getElem? (i := 321) (by decide +kernel)), by decide +kernel⟩
theorem wd_320 : Cond.static yX8_isMaster ∈ pm_ws := List.mem_filter.mpr ⟨List.mem_append_right _ (List.mem_of_getElem? (i := 320) (by decide +kernel)), by decide +kernel⟩
theorem wn_319 : Cond.methodLinkNest RX2 49 yX8_isMaster "DoubtTime" ∈ pm_nw := List.mem_filter.mpr ⟨List.mem_of_getElem? (i := 319) (by decide +kernel), by decide +kernel⟩
theorem wd_325 : Cond.code yX8_isToldSpan cX8_isToldSpan 4 (some .boolean) ∈ pm_ws := List.mem_filter.mpr ⟨List.mem_append_right _ (List.mem_of_getElem? (i := 325) (by decide +kernel)), by decide +kernel⟩
theorem wd_324 : Cond.static yX8_isToldSpan ∈ pm_ws := List.mem_filter.mpr ⟨List.mem_append_right _ (List.mem_of_getElem? (i := 324) (by decide +kernel)), by decide +kernel⟩
theorem wn_323 : Cond.methodLinkNest RX2 52 yX8_isToldSpan "DoubtTime" ∈ pm_nw := List.mem_filter.mpr ⟨List.mem_of_getElem? (i := 323) (by decide +kernel), by decide +kernel⟩
theorem wd_329 : Cond.code yX8_isLeap cX8_isLeap 8 (some .boolean) ∈ pm_ws := List.mem_filter.mpr ⟨List.mem_append_right _ (List.mem_of_getElem? (i := 329) (by decide +kernel)), by decide +kernel⟩
theorem wd_328 : Cond.static yX8_isLeap ∈ pm_ws := List.mem_filter.mpr ⟨List.mem_append_right _ (List.mem_of_getElem? (i := 328) (by decide +kernel)), by decide +kernel⟩
theorem wn_327 : Cond.methodLinkNest RX2 56 yX8_isLeap "DoubtTime" ∈ pm_nw := List.mem_filter.mpr ⟨List.mem_of_getElem? (i := 327) (by decide +kernel), by decide +kernel⟩
theorem wd_192 : Cond.methodLink RX3 1 objectInit ∈ pm_ws := List.mem_filter.mpr ⟨List.mem_append_right _ (List.mem_of_getElem? (i := 192) (by decide +kernel)), by decide +kernel⟩
theorem wd_193 : Cond.fieldLink RX3 7 "DoubtTime$Leap" "at" "J" ∈ pm_ws := List.mem_filter.mpr ⟨List.mem_append_right _ (List.mem_of_getElem? (i := 193) (by decide +kernel)), by decide +kernel⟩
theorem wd_195 : Cond.fieldLink RX3 13 "DoubtTime$Leap" "ticks" "J" ∈ pm_ws := List.mem_filter.mpr ⟨List.mem_append_right _ (List.mem_of_getElem? (i := 195) (by decide +kernel)), by decide +kernel⟩
theorem wd_197 : Cond.fieldLink RX3 16 "DoubtTime$Leap" "window" "J" ∈ pm_ws := List.mem_filter.mpr ⟨List.mem_append_right _ (List.mem_of_getElem? (i := 197) (by decide +kernel)), by decide +kernel⟩
theorem wd_199 : Cond.fieldLink RX3 19 "DoubtTime$Leap" "kind" "J" ∈ pm_ws := List.mem_filter.mpr ⟨List.mem_append_right _ (List.mem_of_getElem? (i := 199) (by decide +kernel)), by decide +kernel⟩
theorem wd_287 : Cond.constantLong RX3 22 (1000) ∈ pm_ws := List.mem_filter.mpr ⟨List.mem_append_right _ (List.mem_of_getElem? (i := 287) (by decide +kernel)), by decide +kernel⟩
theorem wd_288 : Cond.constantLong RX3 24 (100) ∈ pm_ws := List.mem_filter.mpr ⟨List.mem_append_right _ (List.mem_of_getElem? (i := 288) (by decide +kernel)), by decide +kernel⟩
theorem wd_292 : Cond.code yX3_set cX3_set 9 none ∈ pm_ws := List.mem_filter.mpr ⟨List.mem_append_right _ (List.mem_of_getElem? (i := 292) (by decide +kernel)), by decide +kernel⟩
theorem wd_9 : Cond.initialized RX3 ∈ pm_ws := List.mem_filter.mpr ⟨List.mem_append_right _ (List.mem_of_getElem? (i := 9) (by decide +kernel)), by decide +kernel⟩
theorem wd_290 : Cond.instanceMethod yX3_set ∈ pm_ws := List.mem_filter.mpr ⟨List.mem_append_right _ (List.mem_of_getElem? (i := 290) (by decide +kernel)), by decide +kernel⟩
theorem wd_291 : Cond.selects RX3 yX3_set yX3_set ∈ pm_ws := List.mem_filter.mpr ⟨List.mem_append_right _ (List.mem_of_getElem? (i := 291) (by decide +kernel)), by decide +kernel⟩
theorem wd_289 : Cond.methodLink RX3 26 yX3_set ∈ pm_ws := List.mem_filter.mpr ⟨List.mem_append_right _ (List.mem_of_getElem? (i := 289) (by decide +kernel)), by decide +kernel⟩
theorem wd_625 : Cond.code yX3_shift cX3_shift 3 (some .long) ∈ pm_ws := List.mem_filter.mpr ⟨List.mem_append_right _ (List.mem_of_getElem? (i := 625) (by decide +kernel)), by decide +kernel⟩
theorem wd_624 : Cond.instanceMethod yX3_shift ∈ pm_ws := List.mem_filter.mpr ⟨List.mem_append_right _ (List.mem_of_getElem? (i := 624) (by decide +kernel)), by decide +kernel⟩
theorem wp_10 : Cond.selects RX3 yX3_shift yX3_shift ∈ pm_ws := List.mem_filter.mpr ⟨List.mem_append_left _ (List.mem_of_getElem? (i := 10) (by decide +kernel)), by decide +kernel⟩
theorem wd_622 : Cond.methodLink RX3 30 yX3_shift ∈ pm_ws := List.mem_filter.mpr ⟨List.mem_append_right _ (List.mem_of_getElem? (i := 622) (by decide +kernel)), by decide +kernel⟩
theorem wd_634 : Cond.methodLink RX3 34 Lib.MathLoose.max_long.x ∈ pm_ws := List.mem_filter.mpr ⟨List.mem_append_right _ (List.mem_of_getElem? (i := 634) (by decide +kernel)), by decide +kernel⟩
theorem wd_635 : Cond.constantLong RX3 40 (2) ∈ pm_ws := List.mem_filter.mpr ⟨List.mem_append_right _ (List.mem_of_getElem? (i := 635) (by decide +kernel)), by decide +kernel⟩
theorem wd_621 : Cond.code yX3_smear cX3_smear 3 (some .long) ∈ pm_ws := List.mem_filter.mpr ⟨List.mem_append_right _ (List.mem_of_getElem? (i := 621) (by decide +kernel)), by decide +kernel⟩
theorem wd_619 : Cond.instanceMethod yX3_smear ∈ pm_ws := List.mem_filter.mpr ⟨List.mem_append_right _ (List.mem_of_getElem? (i := 619) (by decide +kernel)), by decide +kernel⟩
theorem wd_620 : Cond.selects RX3 yX3_smear yX3_smear ∈ pm_ws := List.mem_filter.mpr ⟨List.mem_append_right _ (List.mem_of_getElem? (i := 620) (by decide +kernel)), by decide +kernel⟩
theorem wd_636 : Cond.methodLink RX3 42 yX3_smear ∈ pm_ws := List.mem_filter.mpr ⟨List.mem_append_right _ (List.mem_of_getElem? (i := 636) (by decide +kernel)), by decide +kernel⟩
theorem wd_72 : Cond.methodLink RX4 3 objectInit ∈ pm_ws := List.mem_filter.mpr ⟨List.mem_append_right _ (List.mem_of_getElem? (i := 72) (by decide +kernel)), by decide +kernel⟩
theorem wd_73 : Cond.fieldLink RX4 9 "DoubtTime$Masters" "low" "[J" ∈ pm_ws := List.mem_filter.mpr ⟨List.mem_append_right _ (List.mem_of_getElem? (i := 73) (by decide +kernel)), by decide +kernel⟩
theorem wd_74 : Cond.fieldLink RX4 15 "DoubtTime$Masters" "high" "[J" ∈ pm_ws := List.mem_filter.mpr ⟨List.mem_append_right _ (List.mem_of_getElem? (i := 74) (by decide +kernel)), by decide +kernel⟩
theorem wd_75 : Cond.fieldLink RX4 18 "DoubtTime$Masters" "toldAt" "[I" ∈ pm_ws := List.mem_filter.mpr ⟨List.mem_append_right _ (List.mem_of_getElem? (i := 75) (by decide +kernel)), by decide +kernel⟩
theorem wd_76 : Cond.fieldLink RX4 22 "DoubtTime$Masters" "told" "I" ∈ pm_ws := List.mem_filter.mpr ⟨List.mem_append_right _ (List.mem_of_getElem? (i := 76) (by decide +kernel)), by decide +kernel⟩
theorem wd_77 : Cond.fieldLink RX4 26 "DoubtTime$Masters" "struck" "I" ∈ pm_ws := List.mem_filter.mpr ⟨List.mem_append_right _ (List.mem_of_getElem? (i := 77) (by decide +kernel)), by decide +kernel⟩
theorem wd_79 : Cond.fieldLink RX4 29 "DoubtTime$Masters" "drift" "I" ∈ pm_ws := List.mem_filter.mpr ⟨List.mem_append_right _ (List.mem_of_getElem? (i := 79) (by decide +kernel)), by decide +kernel⟩
theorem wd_407 : Cond.methodLink RX4 32 arraycopyName ∈ pm_ws := List.mem_filter.mpr ⟨List.mem_append_right _ (List.mem_of_getElem? (i := 407) (by decide +kernel)), by decide +kernel⟩
theorem wd_385 : Cond.code yJ6_bitCount_0f7a4 cJ6_bitCount_0f7a4 1 (some .int) ∈ pm_ws := List.mem_filter.mpr ⟨List.mem_append_right _ (List.mem_of_getElem? (i := 385) (by decide +kernel)), by decide +kernel⟩
theorem wd_15 : Cond.initialized RJ6 ∈ pm_ws := List.mem_filter.mpr ⟨List.mem_append_right _ (List.mem_of_getElem? (i := 15) (by decide +kernel)), by decide +kernel⟩
theorem wd_384 : Cond.static yJ6_bitCount_0f7a4 ∈ pm_ws := List.mem_filter.mpr ⟨List.mem_append_right _ (List.mem_of_getElem? (i := 384) (by decide +kernel)), by decide +kernel⟩
theorem wd_383 : Cond.methodLink RX4 38 yJ6_bitCount_0f7a4 ∈ pm_ws := List.mem_filter.mpr ⟨List.mem_append_right _ (List.mem_of_getElem? (i := 383) (by decide +kernel)), by decide +kernel⟩
theorem wd_449 : Cond.code yX4_widening cX4_widening 3 (some .long) ∈ pm_ws := List.mem_filter.mpr ⟨List.mem_append_right _ (List.mem_of_getElem? (i := 449) (by decide +kernel)), by decide +kernel⟩
theorem wd_448 : Cond.instanceMethod yX4_widening ∈ pm_ws := List.mem_filter.mpr ⟨List.mem_append_right _ (List.mem_of_getElem? (i := 448) (by decide +kernel)), by decide +kernel⟩
theorem wp_6 : Cond.selects RX4 yX4_widening yX4_widening ∈ pm_ws := List.mem_filter.mpr ⟨List.mem_append_left _ (List.mem_of_getElem? (i := 6) (by decide +kernel)), by decide +kernel⟩
theorem wd_446 : Cond.methodLink RX4 44 yX4_widening ∈ pm_ws := List.mem_filter.mpr ⟨List.mem_append_right _ (List.mem_of_getElem? (i := 446) (by decide +kernel)), by decide +kernel⟩
theorem wd_450 : Cond.constantLong RX4 48 (1000000) ∈ pm_ws := List.mem_filter.mpr ⟨List.mem_append_right _ (List.mem_of_getElem? (i := 450) (by decide +kernel)), by decide +kernel⟩
theorem wd_480 : Cond.methodLink RX4 50 yX4_beginOf ∈ pm_ws := List.mem_filter.mpr ⟨List.mem_append_right _ (List.mem_of_getElem? (i := 480) (by decide +kernel)), by decide +kernel⟩
theorem wd_481 : Cond.methodLink RX4 54 yX4_endOf ∈ pm_ws := List.mem_filter.mpr ⟨List.mem_append_right _ (List.mem_of_getElem? (i := 481) (by decide +kernel)), by decide +kernel⟩
theorem wd_148 : Cond.methodLink RX5 3 objectInit ∈ pm_ws := List.mem_filter.mpr ⟨List.mem_append_right _ (List.mem_of_getElem? (i := 148) (by decide +kernel)), by decide +kernel⟩
theorem wd_149 : Cond.classLink RX5 9 RX6 ∈ pm_ws := List.mem_filter.mpr ⟨List.mem_append_right _ (List.mem_of_getElem? (i := 149) (by decide +kernel)), by decide +kernel⟩
theorem wd_152 : Cond.fieldLink RX5 11 "DoubtTime$Past" "states" "[LDoubtTime$State;" ∈ pm_ws := List.mem_filter.mpr ⟨List.mem_append_right _ (List.mem_of_getElem? (i := 152) (by decide +kernel)), by decide +kernel⟩
theorem wd_153 : Cond.fieldLink RX5 17 "DoubtTime$Past" "next" "I" ∈ pm_ws := List.mem_filter.mpr ⟨List.mem_append_right _ (List.mem_of_getElem? (i := 153) (by decide +kernel)), by decide +kernel⟩
theorem wd_154 : Cond.fieldLink RX5 21 "DoubtTime$Past" "size" "I" ∈ pm_ws := List.mem_filter.mpr ⟨List.mem_append_right _ (List.mem_of_getElem? (i := 154) (by decide +kernel)), by decide +kernel⟩
theorem wd_62 : Cond.instantiable RX6 3 ∈ pm_ws := List.mem_filter.mpr ⟨List.mem_append_right _ (List.mem_of_getElem? (i := 62) (by decide +kernel)), by decide +kernel⟩
theorem wd_4 : Cond.initialized RX6 ∈ pm_ws := List.mem_filter.mpr ⟨List.mem_append_right _ (List.mem_of_getElem? (i := 4) (by decide +kernel)), by decide +kernel⟩
theorem wd_65 : Cond.code yX6_init cX6_init 1 none ∈ pm_ws := List.mem_filter.mpr ⟨List.mem_append_right _ (List.mem_of_getElem? (i := 65) (by decide +kernel)), by decide +kernel⟩
theorem wd_64 : Cond.instanceMethod yX6_init ∈ pm_ws := List.mem_filter.mpr ⟨List.mem_append_right _ (List.mem_of_getElem? (i := 64) (by decide +kernel)), by decide +kernel⟩
theorem wn_151 : Cond.methodLinkNest RX5 24 yX6_init "DoubtTime" ∈ pm_nw := List.mem_filter.mpr ⟨List.mem_of_getElem? (i := 151) (by decide +kernel), by decide +kernel⟩
theorem wd_402 : Cond.code yX6_copyFrom cX6_copyFrom 2 none ∈ pm_ws := List.mem_filter.mpr ⟨List.mem_append_right _ (List.mem_of_getElem? (i := 402) (by decide +kernel)), by decide +kernel⟩
theorem wd_400 : Cond.instanceMethod yX6_copyFrom ∈ pm_ws := List.mem_filter.mpr ⟨List.mem_append_right _ (List.mem_of_getElem? (i := 400) (by decide +kernel)), by decide +kernel⟩
theorem wd_401 : Cond.selects RX6 yX6_copyFrom yX6_copyFrom ∈ pm_ws := List.mem_filter.mpr ⟨List.mem_append_right _ (List.mem_of_getElem? (i := 401) (by decide +kernel)), by decide +kernel⟩
theorem wd_399 : Cond.methodLink RX5 25 yX6_copyFrom ∈ pm_ws := List.mem_filter.mpr ⟨List.mem_append_right _ (List.mem_of_getElem? (i := 399) (by decide +kernel)), by decide +kernel⟩
theorem wd_415 : Cond.methodLink RX5 29 Lib.Math.min.name ∈ pm_ws := List.mem_filter.mpr ⟨List.mem_append_right _ (List.mem_of_getElem? (i := 415) (by decide +kernel)), by decide +kernel⟩
theorem wd_416 : Cond.static Lib.Math.min.name ∈ pm_ws := List.mem_filter.mpr ⟨List.mem_append_right _ (List.mem_of_getElem? (i := 416) (by decide +kernel)), by decide +kernel⟩
theorem wd_417 : Cond.code Lib.Math.min.name Lib.Math.min.code 2 (some .int) ∈ pm_ws := List.mem_filter.mpr ⟨List.mem_append_right _ (List.mem_of_getElem? (i := 417) (by decide +kernel)), by decide +kernel⟩
theorem wd_66 : Cond.methodLink RX6 1 objectInit ∈ pm_ws := List.mem_filter.mpr ⟨List.mem_append_right _ (List.mem_of_getElem? (i := 66) (by decide +kernel)), by decide +kernel⟩
theorem wd_67 : Cond.classLink RX6 7 RX4 ∈ pm_ws := List.mem_filter.mpr ⟨List.mem_append_right _ (List.mem_of_getElem? (i := 67) (by decide +kernel)), by decide +kernel⟩
theorem wd_68 : Cond.instantiable RX4 6 ∈ pm_ws := List.mem_filter.mpr ⟨List.mem_append_right _ (List.mem_of_getElem? (i := 68) (by decide +kernel)), by decide +kernel⟩
theorem wd_71 : Cond.code yX4_init cX4_init 1 none ∈ pm_ws := List.mem_filter.mpr ⟨List.mem_append_right _ (List.mem_of_getElem? (i := 71) (by decide +kernel)), by decide +kernel⟩
theorem wd_70 : Cond.instanceMethod yX4_init ∈ pm_ws := List.mem_filter.mpr ⟨List.mem_append_right _ (List.mem_of_getElem? (i := 70) (by decide +kernel)), by decide +kernel⟩
theorem wn_69 : Cond.methodLinkNest RX6 9 yX4_init "DoubtTime" ∈ pm_nw := List.mem_filter.mpr ⟨List.mem_of_getElem? (i := 69) (by decide +kernel), by decide +kernel⟩
theorem wd_130 : Cond.fieldLink RX6 10 "DoubtTime$State" "masters" "LDoubtTime$Masters;" ∈ pm_ws := List.mem_filter.mpr ⟨List.mem_append_right _ (List.mem_of_getElem? (i := 130) (by decide +kernel)), by decide +kernel⟩
theorem wd_95 : Cond.classLink RX6 16 RX1 ∈ pm_ws := List.mem_filter.mpr ⟨List.mem_append_right _ (List.mem_of_getElem? (i := 95) (by decide +kernel)), by decide +kernel⟩
theorem wd_96 : Cond.instantiable RX1 7 ∈ pm_ws := List.mem_filter.mpr ⟨List.mem_append_right _ (List.mem_of_getElem? (i := 96) (by decide +kernel)), by decide +kernel⟩
theorem wd_99 : Cond.code yX1_init cX1_init 1 none ∈ pm_ws := List.mem_filter.mpr ⟨List.mem_append_right _ (List.mem_of_getElem? (i := 99) (by decide +kernel)), by decide +kernel⟩
theorem wd_98 : Cond.instanceMethod yX1_init ∈ pm_ws := List.mem_filter.mpr ⟨List.mem_append_right _ (List.mem_of_getElem? (i := 98) (by decide +kernel)), by decide +kernel⟩
theorem wn_97 : Cond.methodLinkNest RX6 18 yX1_init "DoubtTime" ∈ pm_nw := List.mem_filter.mpr ⟨List.mem_of_getElem? (i := 97) (by decide +kernel), by decide +kernel⟩
theorem wd_132 : Cond.fieldLink RX6 19 "DoubtTime$State" "commits" "LDoubtTime$Commits;" ∈ pm_ws := List.mem_filter.mpr ⟨List.mem_append_right _ (List.mem_of_getElem? (i := 132) (by decide +kernel)), by decide +kernel⟩
theorem wd_134 : Cond.fieldLink RX6 23 "DoubtTime$State" "local" "I" ∈ pm_ws := List.mem_filter.mpr ⟨List.mem_append_right _ (List.mem_of_getElem? (i := 134) (by decide +kernel)), by decide +kernel⟩
theorem wd_278 : Cond.code yX4_clear cX4_clear 1 none ∈ pm_ws := List.mem_filter.mpr ⟨List.mem_append_right _ (List.mem_of_getElem? (i := 278) (by decide +kernel)), by decide +kernel⟩
theorem wd_276 : Cond.instanceMethod yX4_clear ∈ pm_ws := List.mem_filter.mpr ⟨List.mem_append_right _ (List.mem_of_getElem? (i := 276) (by decide +kernel)), by decide +kernel⟩
theorem wd_277 : Cond.selects RX4 yX4_clear yX4_clear ∈ pm_ws := List.mem_filter.mpr ⟨List.mem_append_right _ (List.mem_of_getElem? (i := 277) (by decide +kernel)), by decide +kernel⟩
theorem wd_275 : Cond.methodLink RX6 27 yX4_clear ∈ pm_ws := List.mem_filter.mpr ⟨List.mem_append_right _ (List.mem_of_getElem? (i := 275) (by decide +kernel)), by decide +kernel⟩
theorem wd_282 : Cond.code yX1_clear cX1_clear 1 none ∈ pm_ws := List.mem_filter.mpr ⟨List.mem_append_right _ (List.mem_of_getElem? (i := 282) (by decide +kernel)), by decide +kernel⟩
theorem wd_280 : Cond.instanceMethod yX1_clear ∈ pm_ws := List.mem_filter.mpr ⟨List.mem_append_right _ (List.mem_of_getElem? (i := 280) (by decide +kernel)), by decide +kernel⟩
theorem wd_281 : Cond.selects RX1 yX1_clear yX1_clear ∈ pm_ws := List.mem_filter.mpr ⟨List.mem_append_right _ (List.mem_of_getElem? (i := 281) (by decide +kernel)), by decide +kernel⟩
theorem wd_279 : Cond.methodLink RX6 30 yX1_clear ∈ pm_ws := List.mem_filter.mpr ⟨List.mem_append_right _ (List.mem_of_getElem? (i := 279) (by decide +kernel)), by decide +kernel⟩
theorem wd_406 : Cond.code yX4_copyFrom cX4_copyFrom 2 none ∈ pm_ws := List.mem_filter.mpr ⟨List.mem_append_right _ (List.mem_of_getElem? (i := 406) (by decide +kernel)), by decide +kernel⟩
theorem wd_404 : Cond.instanceMethod yX4_copyFrom ∈ pm_ws := List.mem_filter.mpr ⟨List.mem_append_right _ (List.mem_of_getElem? (i := 404) (by decide +kernel)), by decide +kernel⟩
theorem wd_405 : Cond.selects RX4 yX4_copyFrom yX4_copyFrom ∈ pm_ws := List.mem_filter.mpr ⟨List.mem_append_right _ (List.mem_of_getElem? (i := 405) (by decide +kernel)), by decide +kernel⟩
theorem wd_403 : Cond.methodLink RX6 31 yX4_copyFrom ∈ pm_ws := List.mem_filter.mpr ⟨List.mem_append_right _ (List.mem_of_getElem? (i := 403) (by decide +kernel)), by decide +kernel⟩
theorem wd_413 : Cond.code yX1_copyFrom cX1_copyFrom 2 none ∈ pm_ws := List.mem_filter.mpr ⟨List.mem_append_right _ (List.mem_of_getElem? (i := 413) (by decide +kernel)), by decide +kernel⟩
theorem wd_411 : Cond.instanceMethod yX1_copyFrom ∈ pm_ws := List.mem_filter.mpr ⟨List.mem_append_right _ (List.mem_of_getElem? (i := 411) (by decide +kernel)), by decide +kernel⟩
theorem wd_412 : Cond.selects RX1 yX1_copyFrom yX1_copyFrom ∈ pm_ws := List.mem_filter.mpr ⟨List.mem_append_right _ (List.mem_of_getElem? (i := 412) (by decide +kernel)), by decide +kernel⟩
theorem wd_410 : Cond.methodLink RX6 35 yX1_copyFrom ∈ pm_ws := List.mem_filter.mpr ⟨List.mem_append_right _ (List.mem_of_getElem? (i := 410) (by decide +kernel)), by decide +kernel⟩
theorem wd_31 : Cond.methodLink RX7 3 objectInit ∈ pm_ws := List.mem_filter.mpr ⟨List.mem_append_right _ (List.mem_of_getElem? (i := 31) (by decide +kernel)), by decide +kernel⟩
theorem wd_40 : Cond.arrayClass .char ∈ pm_ws := List.mem_filter.mpr ⟨List.mem_append_right _ (List.mem_of_getElem? (i := 40) (by decide +kernel)), by decide +kernel⟩
theorem wd_32 : Cond.fieldLink RX7 9 "DoubtTime$Text" "letters" "[C" ∈ pm_ws := List.mem_filter.mpr ⟨List.mem_append_right _ (List.mem_of_getElem? (i := 32) (by decide +kernel)), by decide +kernel⟩
theorem wd_33 : Cond.fieldLink RX7 15 "DoubtTime$Text" "size" "I" ∈ pm_ws := List.mem_filter.mpr ⟨List.mem_append_right _ (List.mem_of_getElem? (i := 33) (by decide +kernel)), by decide +kernel⟩
theorem wd_218 : Cond.code yJ0_length_8abf5 cJ0_length_8abf5 1 (some .int) ∈ pm_ws := List.mem_filter.mpr ⟨List.mem_append_right _ (List.mem_of_getElem? (i := 218) (by decide +kernel)), by decide +kernel⟩
theorem wd_10 : Cond.initialized RJ0 ∈ pm_ws := List.mem_filter.mpr ⟨List.mem_append_right _ (List.mem_of_getElem? (i := 10) (by decide +kernel)), by decide +kernel⟩
theorem wd_216 : Cond.instanceMethod yJ0_length_8abf5 ∈ pm_ws := List.mem_filter.mpr ⟨List.mem_append_right _ (List.mem_of_getElem? (i := 216) (by decide +kernel)), by decide +kernel⟩
theorem wd_217 : Cond.selects RJ0 yJ0_length_8abf5 yJ0_length_8abf5 ∈ pm_ws := List.mem_filter.mpr ⟨List.mem_append_right _ (List.mem_of_getElem? (i := 217) (by decide +kernel)), by decide +kernel⟩
theorem wd_215 : Cond.methodLink RX7 19 yJ0_length_8abf5 ∈ pm_ws := List.mem_filter.mpr ⟨List.mem_append_right _ (List.mem_of_getElem? (i := 215) (by decide +kernel)), by decide +kernel⟩
theorem wd_228 : Cond.code yJ0_charAt_5068e cJ0_charAt_5068e 2 (some .char) ∈ pm_ws := List.mem_filter.mpr ⟨List.mem_append_right _ (List.mem_of_getElem? (i := 228) (by decide +kernel)), by decide +kernel⟩
theorem wd_226 : Cond.instanceMethod yJ0_charAt_5068e ∈ pm_ws := List.mem_filter.mpr ⟨List.mem_append_right _ (List.mem_of_getElem? (i := 226) (by decide +kernel)), by decide +kernel⟩
theorem wd_227 : Cond.selects RJ0 yJ0_charAt_5068e yJ0_charAt_5068e ∈ pm_ws := List.mem_filter.mpr ⟨List.mem_append_right _ (List.mem_of_getElem? (i := 227) (by decide +kernel)), by decide +kernel⟩
theorem wd_225 : Cond.methodLink RX7 25 yJ0_charAt_5068e ∈ pm_ws := List.mem_filter.mpr ⟨List.mem_append_right _ (List.mem_of_getElem? (i := 225) (by decide +kernel)), by decide +kernel⟩
theorem wd_266 : Cond.code yX7_put cX7_put 2 none ∈ pm_ws := List.mem_filter.mpr ⟨List.mem_append_right _ (List.mem_of_getElem? (i := 266) (by decide +kernel)), by decide +kernel⟩
theorem wd_264 : Cond.instanceMethod yX7_put ∈ pm_ws := List.mem_filter.mpr ⟨List.mem_append_right _ (List.mem_of_getElem? (i := 264) (by decide +kernel)), by decide +kernel⟩
theorem wd_265 : Cond.selects RX7 yX7_put yX7_put ∈ pm_ws := List.mem_filter.mpr ⟨List.mem_append_right _ (List.mem_of_getElem? (i := 265) (by decide +kernel)), by decide +kernel⟩
theorem wd_263 : Cond.methodLink RX7 29 yX7_put ∈ pm_ws := List.mem_filter.mpr ⟨List.mem_append_right _ (List.mem_of_getElem? (i := 263) (by decide +kernel)), by decide +kernel⟩
theorem wd_23 : Cond.methodLink RX8 1 objectInit ∈ pm_ws := List.mem_filter.mpr ⟨List.mem_append_right _ (List.mem_of_getElem? (i := 23) (by decide +kernel)), by decide +kernel⟩
theorem wd_26 : Cond.classLink RX8 7 RX7 ∈ pm_ws := List.mem_filter.mpr ⟨List.mem_append_right _ (List.mem_of_getElem? (i := 26) (by decide +kernel)), by decide +kernel⟩
theorem wd_27 : Cond.instantiable RX7 2 ∈ pm_ws := List.mem_filter.mpr ⟨List.mem_append_right _ (List.mem_of_getElem? (i := 27) (by decide +kernel)), by decide +kernel⟩
theorem wd_30 : Cond.code yX7_init cX7_init 1 none ∈ pm_ws := List.mem_filter.mpr ⟨List.mem_append_right _ (List.mem_of_getElem? (i := 30) (by decide +kernel)), by decide +kernel⟩
theorem wd_29 : Cond.instanceMethod yX7_init ∈ pm_ws := List.mem_filter.mpr ⟨List.mem_append_right _ (List.mem_of_getElem? (i := 29) (by decide +kernel)), by decide +kernel⟩
theorem wn_28 : Cond.methodLinkNest RX8 9 yX7_init "DoubtTime" ∈ pm_nw := List.mem_filter.mpr ⟨List.mem_of_getElem? (i := 28) (by decide +kernel), by decide +kernel⟩
theorem wd_341 : Cond.fieldLink RX8 10 "DoubtTime" "text" "LDoubtTime$Text;" ∈ pm_ws := List.mem_filter.mpr ⟨List.mem_append_right _ (List.mem_of_getElem? (i := 341) (by decide +kernel)), by decide +kernel⟩
theorem wd_41 : Cond.classLink RX8 16 RX2 ∈ pm_ws := List.mem_filter.mpr ⟨List.mem_append_right _ (List.mem_of_getElem? (i := 41) (by decide +kernel)), by decide +kernel⟩
theorem wd_42 : Cond.instantiable RX2 3 ∈ pm_ws := List.mem_filter.mpr ⟨List.mem_append_right _ (List.mem_of_getElem? (i := 42) (by decide +kernel)), by decide +kernel⟩
theorem wd_45 : Cond.code yX2_init cX2_init 1 none ∈ pm_ws := List.mem_filter.mpr ⟨List.mem_append_right _ (List.mem_of_getElem? (i := 45) (by decide +kernel)), by decide +kernel⟩
theorem wd_44 : Cond.instanceMethod yX2_init ∈ pm_ws := List.mem_filter.mpr ⟨List.mem_append_right _ (List.mem_of_getElem? (i := 44) (by decide +kernel)), by decide +kernel⟩
theorem wn_43 : Cond.methodLinkNest RX8 18 yX2_init "DoubtTime" ∈ pm_nw := List.mem_filter.mpr ⟨List.mem_of_getElem? (i := 43) (by decide +kernel), by decide +kernel⟩
theorem wd_342 : Cond.fieldLink RX8 19 "DoubtTime" "item" "LDoubtTime$Item;" ∈ pm_ws := List.mem_filter.mpr ⟨List.mem_append_right _ (List.mem_of_getElem? (i := 342) (by decide +kernel)), by decide +kernel⟩
theorem wd_61 : Cond.classLink RX8 23 RX6 ∈ pm_ws := List.mem_filter.mpr ⟨List.mem_append_right _ (List.mem_of_getElem? (i := 61) (by decide +kernel)), by decide +kernel⟩
theorem wn_63 : Cond.methodLinkNest RX8 25 yX6_init "DoubtTime" ∈ pm_nw := List.mem_filter.mpr ⟨List.mem_of_getElem? (i := 63) (by decide +kernel), by decide +kernel⟩
theorem wd_343 : Cond.fieldLink RX8 26 "DoubtTime" "now" "LDoubtTime$State;" ∈ pm_ws := List.mem_filter.mpr ⟨List.mem_append_right _ (List.mem_of_getElem? (i := 343) (by decide +kernel)), by decide +kernel⟩
theorem wd_143 : Cond.classLink RX8 30 RX5 ∈ pm_ws := List.mem_filter.mpr ⟨List.mem_append_right _ (List.mem_of_getElem? (i := 143) (by decide +kernel)), by decide +kernel⟩
theorem wd_144 : Cond.instantiable RX5 3 ∈ pm_ws := List.mem_filter.mpr ⟨List.mem_append_right _ (List.mem_of_getElem? (i := 144) (by decide +kernel)), by decide +kernel⟩
theorem wd_7 : Cond.initialized RX5 ∈ pm_ws := List.mem_filter.mpr ⟨List.mem_append_right _ (List.mem_of_getElem? (i := 7) (by decide +kernel)), by decide +kernel⟩
theorem wd_147 : Cond.code yX5_init cX5_init 2 none ∈ pm_ws := List.mem_filter.mpr ⟨List.mem_append_right _ (List.mem_of_getElem? (i := 147) (by decide +kernel)), by decide +kernel⟩
theorem wd_146 : Cond.instanceMethod yX5_init ∈ pm_ws := List.mem_filter.mpr ⟨List.mem_append_right _ (List.mem_of_getElem? (i := 146) (by decide +kernel)), by decide +kernel⟩
theorem wd_145 : Cond.methodLink RX8 32 yX5_init ∈ pm_ws := List.mem_filter.mpr ⟨List.mem_append_right _ (List.mem_of_getElem? (i := 145) (by decide +kernel)), by decide +kernel⟩
theorem wd_344 : Cond.fieldLink RX8 33 "DoubtTime" "past" "LDoubtTime$Past;" ∈ pm_ws := List.mem_filter.mpr ⟨List.mem_append_right _ (List.mem_of_getElem? (i := 344) (by decide +kernel)), by decide +kernel⟩
theorem wd_163 : Cond.classLink RX8 37 RX0 ∈ pm_ws := List.mem_filter.mpr ⟨List.mem_append_right _ (List.mem_of_getElem? (i := 163) (by decide +kernel)), by decide +kernel⟩
theorem wd_164 : Cond.instantiable RX0 5 ∈ pm_ws := List.mem_filter.mpr ⟨List.mem_append_right _ (List.mem_of_getElem? (i := 164) (by decide +kernel)), by decide +kernel⟩
theorem wd_167 : Cond.code yX0_init cX0_init 1 none ∈ pm_ws := List.mem_filter.mpr ⟨List.mem_append_right _ (List.mem_of_getElem? (i := 167) (by decide +kernel)), by decide +kernel⟩
theorem wd_166 : Cond.instanceMethod yX0_init ∈ pm_ws := List.mem_filter.mpr ⟨List.mem_append_right _ (List.mem_of_getElem? (i := 166) (by decide +kernel)), by decide +kernel⟩
theorem wn_165 : Cond.methodLinkNest RX8 39 yX0_init "DoubtTime" ∈ pm_nw := List.mem_filter.mpr ⟨List.mem_of_getElem? (i := 165) (by decide +kernel), by decide +kernel⟩
theorem wd_345 : Cond.fieldLink RX8 40 "DoubtTime" "agreement" "LDoubtTime$Agreed;" ∈ pm_ws := List.mem_filter.mpr ⟨List.mem_append_right _ (List.mem_of_getElem? (i := 345) (by decide +kernel)), by decide +kernel⟩
theorem wd_187 : Cond.classLink RX8 44 RX3 ∈ pm_ws := List.mem_filter.mpr ⟨List.mem_append_right _ (List.mem_of_getElem? (i := 187) (by decide +kernel)), by decide +kernel⟩
theorem wd_188 : Cond.instantiable RX3 4 ∈ pm_ws := List.mem_filter.mpr ⟨List.mem_append_right _ (List.mem_of_getElem? (i := 188) (by decide +kernel)), by decide +kernel⟩
theorem wd_191 : Cond.code yX3_init cX3_init 1 none ∈ pm_ws := List.mem_filter.mpr ⟨List.mem_append_right _ (List.mem_of_getElem? (i := 191) (by decide +kernel)), by decide +kernel⟩
theorem wd_190 : Cond.instanceMethod yX3_init ∈ pm_ws := List.mem_filter.mpr ⟨List.mem_append_right _ (List.mem_of_getElem? (i := 190) (by decide +kernel)), by decide +kernel⟩
theorem wn_189 : Cond.methodLinkNest RX8 46 yX3_init "DoubtTime" ∈ pm_nw := List.mem_filter.mpr ⟨List.mem_of_getElem? (i := 189) (by decide +kernel), by decide +kernel⟩
theorem wd_346 : Cond.fieldLink RX8 47 "DoubtTime" "theLeap" "LDoubtTime$Leap;" ∈ pm_ws := List.mem_filter.mpr ⟨List.mem_append_right _ (List.mem_of_getElem? (i := 346) (by decide +kernel)), by decide +kernel⟩
theorem wd_214 : Cond.code yX7_putAll cX7_putAll 3 none ∈ pm_ws := List.mem_filter.mpr ⟨List.mem_append_right _ (List.mem_of_getElem? (i := 214) (by decide +kernel)), by decide +kernel⟩
theorem wd_212 : Cond.instanceMethod yX7_putAll ∈ pm_ws := List.mem_filter.mpr ⟨List.mem_append_right _ (List.mem_of_getElem? (i := 212) (by decide +kernel)), by decide +kernel⟩
theorem wd_213 : Cond.selects RX7 yX7_putAll yX7_putAll ∈ pm_ws := List.mem_filter.mpr ⟨List.mem_append_right _ (List.mem_of_getElem? (i := 213) (by decide +kernel)), by decide +kernel⟩
theorem wd_211 : Cond.methodLink RX8 53 yX7_putAll ∈ pm_ws := List.mem_filter.mpr ⟨List.mem_append_right _ (List.mem_of_getElem? (i := 211) (by decide +kernel)), by decide +kernel⟩
theorem wd_270 : Cond.code yX8_layItems cX8_layItems 3 none ∈ pm_ws := List.mem_filter.mpr ⟨List.mem_append_right _ (List.mem_of_getElem? (i := 270) (by decide +kernel)), by decide +kernel⟩
theorem wd_269 : Cond.instanceMethod yX8_layItems ∈ pm_ws := List.mem_filter.mpr ⟨List.mem_append_right _ (List.mem_of_getElem? (i := 269) (by decide +kernel)), by decide +kernel⟩
theorem wp_0 : Cond.selects RX8 yX8_layItems yX8_layItems ∈ pm_ws := List.mem_filter.mpr ⟨List.mem_append_left _ (List.mem_of_getElem? (i := 0) (by decide +kernel)), by decide +kernel⟩
theorem wd_267 : Cond.methodLink RX8 57 yX8_layItems ∈ pm_ws := List.mem_filter.mpr ⟨List.mem_append_right _ (List.mem_of_getElem? (i := 267) (by decide +kernel)), by decide +kernel⟩
theorem wn_34 : Cond.fieldLinkNest RX8 60 "DoubtTime$Text" "size" "I" "DoubtTime" ∈ pm_nw := List.mem_filter.mpr ⟨List.mem_of_getElem? (i := 34) (by decide +kernel), by decide +kernel⟩
theorem wd_365 : Cond.methodLink RX8 64 yX7_put ∈ pm_ws := List.mem_filter.mpr ⟨List.mem_append_right _ (List.mem_of_getElem? (i := 365) (by decide +kernel)), by decide +kernel⟩
theorem wd_296 : Cond.code yX2_takeFrom cX2_takeFrom 6 (some .boolean) ∈ pm_ws := List.mem_filter.mpr ⟨List.mem_append_right _ (List.mem_of_getElem? (i := 296) (by decide +kernel)), by decide +kernel⟩
theorem wd_294 : Cond.instanceMethod yX2_takeFrom ∈ pm_ws := List.mem_filter.mpr ⟨List.mem_append_right _ (List.mem_of_getElem? (i := 294) (by decide +kernel)), by decide +kernel⟩
theorem wd_295 : Cond.selects RX2 yX2_takeFrom yX2_takeFrom ∈ pm_ws := List.mem_filter.mpr ⟨List.mem_append_right _ (List.mem_of_getElem? (i := 295) (by decide +kernel)), by decide +kernel⟩
theorem wd_293 : Cond.methodLink RX8 68 yX2_takeFrom ∈ pm_ws := List.mem_filter.mpr ⟨List.mem_append_right _ (List.mem_of_getElem? (i := 293) (by decide +kernel)), by decide +kernel⟩
theorem wn_52 : Cond.fieldLinkNest RX8 72 "DoubtTime$Item" "behind" "I" "DoubtTime" ∈ pm_nw := List.mem_filter.mpr ⟨List.mem_of_getElem? (i := 52) (by decide +kernel), by decide +kernel⟩
theorem wd_378 : Cond.methodLink RX8 75 yX8_fault ∈ pm_ws := List.mem_filter.mpr ⟨List.mem_append_right _ (List.mem_of_getElem? (i := 378) (by decide +kernel)), by decide +kernel⟩
theorem wn_131 : Cond.fieldLinkNest RX8 79 "DoubtTime$State" "masters" "LDoubtTime$Masters;" "DoubtTime" ∈ pm_nw := List.mem_filter.mpr ⟨List.mem_of_getElem? (i := 131) (by decide +kernel), by decide +kernel⟩
theorem wd_382 : Cond.code yX4_howManyHeard cX4_howManyHeard 1 (some .int) ∈ pm_ws := List.mem_filter.mpr ⟨List.mem_append_right _ (List.mem_of_getElem? (i := 382) (by decide +kernel)), by decide +kernel⟩
theorem wd_380 : Cond.instanceMethod yX4_howManyHeard ∈ pm_ws := List.mem_filter.mpr ⟨List.mem_append_right _ (List.mem_of_getElem? (i := 380) (by decide +kernel)), by decide +kernel⟩
theorem wd_381 : Cond.selects RX4 yX4_howManyHeard yX4_howManyHeard ∈ pm_ws := List.mem_filter.mpr ⟨List.mem_append_right _ (List.mem_of_getElem? (i := 381) (by decide +kernel)), by decide +kernel⟩
theorem wd_379 : Cond.methodLink RX8 83 yX4_howManyHeard ∈ pm_ws := List.mem_filter.mpr ⟨List.mem_append_right _ (List.mem_of_getElem? (i := 379) (by decide +kernel)), by decide +kernel⟩
theorem wd_274 : Cond.code yX6_clear cX6_clear 1 none ∈ pm_ws := List.mem_filter.mpr ⟨List.mem_append_right _ (List.mem_of_getElem? (i := 274) (by decide +kernel)), by decide +kernel⟩
theorem wd_272 : Cond.instanceMethod yX6_clear ∈ pm_ws := List.mem_filter.mpr ⟨List.mem_append_right _ (List.mem_of_getElem? (i := 272) (by decide +kernel)), by decide +kernel⟩
theorem wd_273 : Cond.selects RX6 yX6_clear yX6_clear ∈ pm_ws := List.mem_filter.mpr ⟨List.mem_append_right _ (List.mem_of_getElem? (i := 273) (by decide +kernel)), by decide +kernel⟩
theorem wd_271 : Cond.methodLink RX8 88 yX6_clear ∈ pm_ws := List.mem_filter.mpr ⟨List.mem_append_right _ (List.mem_of_getElem? (i := 271) (by decide +kernel)), by decide +kernel⟩
theorem wn_155 : Cond.fieldLinkNest RX8 91 "DoubtTime$Past" "size" "I" "DoubtTime" ∈ pm_nw := List.mem_filter.mpr ⟨List.mem_of_getElem? (i := 155) (by decide +kernel), by decide +kernel⟩
theorem wd_286 : Cond.code yX3_clear cX3_clear 1 none ∈ pm_ws := List.mem_filter.mpr ⟨List.mem_append_right _ (List.mem_of_getElem? (i := 286) (by decide +kernel)), by decide +kernel⟩
theorem wd_284 : Cond.instanceMethod yX3_clear ∈ pm_ws := List.mem_filter.mpr ⟨List.mem_append_right _ (List.mem_of_getElem? (i := 284) (by decide +kernel)), by decide +kernel⟩
theorem wd_285 : Cond.selects RX3 yX3_clear yX3_clear ∈ pm_ws := List.mem_filter.mpr ⟨List.mem_append_right _ (List.mem_of_getElem? (i := 285) (by decide +kernel)), by decide +kernel⟩
theorem wd_283 : Cond.methodLink RX8 92 yX3_clear ∈ pm_ws := List.mem_filter.mpr ⟨List.mem_append_right _ (List.mem_of_getElem? (i := 283) (by decide +kernel)), by decide +kernel⟩
theorem wd_335 : Cond.code yX8_layItem cX8_layItem 2 none ∈ pm_ws := List.mem_filter.mpr ⟨List.mem_append_right _ (List.mem_of_getElem? (i := 335) (by decide +kernel)), by decide +kernel⟩
theorem wd_334 : Cond.instanceMethod yX8_layItem ∈ pm_ws := List.mem_filter.mpr ⟨List.mem_append_right _ (List.mem_of_getElem? (i := 334) (by decide +kernel)), by decide +kernel⟩
theorem wp_4 : Cond.selects RX8 yX8_layItem yX8_layItem ∈ pm_ws := List.mem_filter.mpr ⟨List.mem_append_left _ (List.mem_of_getElem? (i := 4) (by decide +kernel)), by decide +kernel⟩
theorem wd_332 : Cond.methodLink RX8 93 yX8_layItem ∈ pm_ws := List.mem_filter.mpr ⟨List.mem_append_right _ (List.mem_of_getElem? (i := 332) (by decide +kernel)), by decide +kernel⟩
theorem wn_48 : Cond.fieldLinkNest RX8 96 "DoubtTime$Item" "numbers" "[J" "DoubtTime" ∈ pm_nw := List.mem_filter.mpr ⟨List.mem_of_getElem? (i := 48) (by decide +kernel), by decide +kernel⟩
theorem wn_50 : Cond.fieldLinkNest RX8 100 "DoubtTime$Item" "kind" "C" "DoubtTime" ∈ pm_nw := List.mem_filter.mpr ⟨List.mem_of_getElem? (i := 50) (by decide +kernel), by decide +kernel⟩
theorem wn_80 : Cond.fieldLinkNest RX8 104 "DoubtTime$Masters" "drift" "I" "DoubtTime" ∈ pm_nw := List.mem_filter.mpr ⟨List.mem_of_getElem? (i := 80) (by decide +kernel), by decide +kernel⟩
theorem wd_339 : Cond.code yX4_hear cX4_hear 7 none ∈ pm_ws := List.mem_filter.mpr ⟨List.mem_append_right _ (List.mem_of_getElem? (i := 339) (by decide +kernel)), by decide +kernel⟩
theorem wd_337 : Cond.instanceMethod yX4_hear ∈ pm_ws := List.mem_filter.mpr ⟨List.mem_append_right _ (List.mem_of_getElem? (i := 337) (by decide +kernel)), by decide +kernel⟩
theorem wd_338 : Cond.selects RX4 yX4_hear yX4_hear ∈ pm_ws := List.mem_filter.mpr ⟨List.mem_append_right _ (List.mem_of_getElem? (i := 338) (by decide +kernel)), by decide +kernel⟩
theorem wd_336 : Cond.methodLink RX8 107 yX4_hear ∈ pm_ws := List.mem_filter.mpr ⟨List.mem_append_right _ (List.mem_of_getElem? (i := 336) (by decide +kernel)), by decide +kernel⟩
theorem wd_340 : Cond.methodLink RX8 111 yX3_set ∈ pm_ws := List.mem_filter.mpr ⟨List.mem_append_right _ (List.mem_of_getElem? (i := 340) (by decide +kernel)), by decide +kernel⟩
theorem wd_393 : Cond.methodLink RX8 115 yX8_isMaster ∈ pm_ws := List.mem_filter.mpr ⟨List.mem_append_right _ (List.mem_of_getElem? (i := 393) (by decide +kernel)), by decide +kernel⟩
theorem wd_394 : Cond.methodLink RX8 119 yX8_isToldSpan ∈ pm_ws := List.mem_filter.mpr ⟨List.mem_append_right _ (List.mem_of_getElem? (i := 394) (by decide +kernel)), by decide +kernel⟩
theorem wd_398 : Cond.code yX5_keep cX5_keep 2 none ∈ pm_ws := List.mem_filter.mpr ⟨List.mem_append_right _ (List.mem_of_getElem? (i := 398) (by decide +kernel)), by decide +kernel⟩
theorem wd_396 : Cond.instanceMethod yX5_keep ∈ pm_ws := List.mem_filter.mpr ⟨List.mem_append_right _ (List.mem_of_getElem? (i := 396) (by decide +kernel)), by decide +kernel⟩
theorem wd_397 : Cond.selects RX5 yX5_keep yX5_keep ∈ pm_ws := List.mem_filter.mpr ⟨List.mem_append_right _ (List.mem_of_getElem? (i := 397) (by decide +kernel)), by decide +kernel⟩
theorem wd_395 : Cond.methodLink RX8 123 yX5_keep ∈ pm_ws := List.mem_filter.mpr ⟨List.mem_append_right _ (List.mem_of_getElem? (i := 395) (by decide +kernel)), by decide +kernel⟩
theorem wn_135 : Cond.fieldLinkNest RX8 127 "DoubtTime$State" "local" "I" "DoubtTime" ∈ pm_nw := List.mem_filter.mpr ⟨List.mem_of_getElem? (i := 135) (by decide +kernel), by decide +kernel⟩
theorem wn_78 : Cond.fieldLinkNest RX8 130 "DoubtTime$Masters" "struck" "I" "DoubtTime" ∈ pm_nw := List.mem_filter.mpr ⟨List.mem_of_getElem? (i := 78) (by decide +kernel), by decide +kernel⟩
theorem wd_426 : Cond.methodLink RX8 133 yX8_liars ∈ pm_ws := List.mem_filter.mpr ⟨List.mem_append_right _ (List.mem_of_getElem? (i := 426) (by decide +kernel)), by decide +kernel⟩
theorem wd_482 : Cond.methodLink RX8 136 yJ6_bitCount_0f7a4 ∈ pm_ws := List.mem_filter.mpr ⟨List.mem_append_right _ (List.mem_of_getElem? (i := 482) (by decide +kernel)), by decide +kernel⟩
theorem wd_487 : Cond.methodLink RX8 142 yX8_isDrift ∈ pm_ws := List.mem_filter.mpr ⟨List.mem_append_right _ (List.mem_of_getElem? (i := 487) (by decide +kernel)), by decide +kernel⟩
theorem wn_133 : Cond.fieldLinkNest RX8 145 "DoubtTime$State" "commits" "LDoubtTime$Commits;" "DoubtTime" ∈ pm_nw := List.mem_filter.mpr ⟨List.mem_of_getElem? (i := 133) (by decide +kernel), by decide +kernel⟩
theorem wn_114 : Cond.fieldLinkNest RX8 149 "DoubtTime$Commits" "done" "I" "DoubtTime" ∈ pm_nw := List.mem_filter.mpr ⟨List.mem_of_getElem? (i := 114) (by decide +kernel), by decide +kernel⟩
theorem wd_495 : Cond.code yX8_finishCommits cX8_finishCommits 1 none ∈ pm_ws := List.mem_filter.mpr ⟨List.mem_append_right _ (List.mem_of_getElem? (i := 495) (by decide +kernel)), by decide +kernel⟩
theorem wd_494 : Cond.instanceMethod yX8_finishCommits ∈ pm_ws := List.mem_filter.mpr ⟨List.mem_append_right _ (List.mem_of_getElem? (i := 494) (by decide +kernel)), by decide +kernel⟩
theorem wp_9 : Cond.selects RX8 yX8_finishCommits yX8_finishCommits ∈ pm_ws := List.mem_filter.mpr ⟨List.mem_append_left _ (List.mem_of_getElem? (i := 9) (by decide +kernel)), by decide +kernel⟩
theorem wd_492 : Cond.methodLink RX8 154 yX8_finishCommits ∈ pm_ws := List.mem_filter.mpr ⟨List.mem_append_right _ (List.mem_of_getElem? (i := 492) (by decide +kernel)), by decide +kernel⟩
theorem wd_499 : Cond.code yX1_howManyOpen cX1_howManyOpen 1 (some .int) ∈ pm_ws := List.mem_filter.mpr ⟨List.mem_append_right _ (List.mem_of_getElem? (i := 499) (by decide +kernel)), by decide +kernel⟩
theorem wd_497 : Cond.instanceMethod yX1_howManyOpen ∈ pm_ws := List.mem_filter.mpr ⟨List.mem_append_right _ (List.mem_of_getElem? (i := 497) (by decide +kernel)), by decide +kernel⟩
theorem wd_498 : Cond.selects RX1 yX1_howManyOpen yX1_howManyOpen ∈ pm_ws := List.mem_filter.mpr ⟨List.mem_append_right _ (List.mem_of_getElem? (i := 498) (by decide +kernel)), by decide +kernel⟩
theorem wd_496 : Cond.methodLink RX8 157 yX1_howManyOpen ∈ pm_ws := List.mem_filter.mpr ⟨List.mem_append_right _ (List.mem_of_getElem? (i := 496) (by decide +kernel)), by decide +kernel⟩
theorem wd_433 : Cond.code yX8_lookAround cX8_lookAround 1 none ∈ pm_ws := List.mem_filter.mpr ⟨List.mem_append_right _ (List.mem_of_getElem? (i := 433) (by decide +kernel)), by decide +kernel⟩
theorem wd_432 : Cond.instanceMethod yX8_lookAround ∈ pm_ws := List.mem_filter.mpr ⟨List.mem_append_right _ (List.mem_of_getElem? (i := 432) (by decide +kernel)), by decide +kernel⟩
theorem wp_5 : Cond.selects RX8 yX8_lookAround yX8_lookAround ∈ pm_ws := List.mem_filter.mpr ⟨List.mem_append_left _ (List.mem_of_getElem? (i := 5) (by decide +kernel)), by decide +kernel⟩
theorem wd_430 : Cond.methodLink RX8 160 yX8_lookAround ∈ pm_ws := List.mem_filter.mpr ⟨List.mem_append_right _ (List.mem_of_getElem? (i := 430) (by decide +kernel)), by decide +kernel⟩
theorem wd_503 : Cond.code yX0_isGood cX0_isGood 1 (some .boolean) ∈ pm_ws := List.mem_filter.mpr ⟨List.mem_append_right _ (List.mem_of_getElem? (i := 503) (by decide +kernel)), by decide +kernel⟩
theorem wd_501 : Cond.instanceMethod yX0_isGood ∈ pm_ws := List.mem_filter.mpr ⟨List.mem_append_right _ (List.mem_of_getElem? (i := 501) (by decide +kernel)), by decide +kernel⟩
theorem wd_502 : Cond.selects RX0 yX0_isGood yX0_isGood ∈ pm_ws := List.mem_filter.mpr ⟨List.mem_append_right _ (List.mem_of_getElem? (i := 502) (by decide +kernel)), by decide +kernel⟩
theorem wd_500 : Cond.methodLink RX8 163 yX0_isGood ∈ pm_ws := List.mem_filter.mpr ⟨List.mem_append_right _ (List.mem_of_getElem? (i := 500) (by decide +kernel)), by decide +kernel⟩
theorem wn_175 : Cond.fieldLinkNest RX8 167 "DoubtTime$Agreed" "begin" "J" "DoubtTime" ∈ pm_nw := List.mem_filter.mpr ⟨List.mem_of_getElem? (i := 175) (by decide +kernel), by decide +kernel⟩
theorem wd_507 : Cond.code yX1_finishBelow cX1_finishBelow 4 none ∈ pm_ws := List.mem_filter.mpr ⟨List.mem_append_right _ (List.mem_of_getElem? (i := 507) (by decide +kernel)), by decide +kernel⟩
theorem wd_505 : Cond.instanceMethod yX1_finishBelow ∈ pm_ws := List.mem_filter.mpr ⟨List.mem_append_right _ (List.mem_of_getElem? (i := 505) (by decide +kernel)), by decide +kernel⟩
theorem wd_506 : Cond.selects RX1 yX1_finishBelow yX1_finishBelow ∈ pm_ws := List.mem_filter.mpr ⟨List.mem_append_right _ (List.mem_of_getElem? (i := 506) (by decide +kernel)), by decide +kernel⟩
theorem wd_504 : Cond.methodLink RX8 171 yX1_finishBelow ∈ pm_ws := List.mem_filter.mpr ⟨List.mem_append_right _ (List.mem_of_getElem? (i := 504) (by decide +kernel)), by decide +kernel⟩
theorem wd_515 : Cond.code yX5_giveBack cX5_giveBack 2 none ∈ pm_ws := List.mem_filter.mpr ⟨List.mem_append_right _ (List.mem_of_getElem? (i := 515) (by decide +kernel)), by decide +kernel⟩
theorem wd_513 : Cond.instanceMethod yX5_giveBack ∈ pm_ws := List.mem_filter.mpr ⟨List.mem_append_right _ (List.mem_of_getElem? (i := 513) (by decide +kernel)), by decide +kernel⟩
theorem wd_514 : Cond.selects RX5 yX5_giveBack yX5_giveBack ∈ pm_ws := List.mem_filter.mpr ⟨List.mem_append_right _ (List.mem_of_getElem? (i := 514) (by decide +kernel)), by decide +kernel⟩
theorem wd_512 : Cond.methodLink RX8 175 yX5_giveBack ∈ pm_ws := List.mem_filter.mpr ⟨List.mem_append_right _ (List.mem_of_getElem? (i := 512) (by decide +kernel)), by decide +kernel⟩
theorem wd_520 : Cond.constantLong RX8 178 (-2000000000000) ∈ pm_ws := List.mem_filter.mpr ⟨List.mem_append_right _ (List.mem_of_getElem? (i := 520) (by decide +kernel)), by decide +kernel⟩
theorem wd_524 : Cond.code yX4_hasTold cX4_hasTold 2 (some .boolean) ∈ pm_ws := List.mem_filter.mpr ⟨List.mem_append_right _ (List.mem_of_getElem? (i := 524) (by decide +kernel)), by decide +kernel⟩
theorem wd_522 : Cond.instanceMethod yX4_hasTold ∈ pm_ws := List.mem_filter.mpr ⟨List.mem_append_right _ (List.mem_of_getElem? (i := 522) (by decide +kernel)), by decide +kernel⟩
theorem wd_523 : Cond.selects RX4 yX4_hasTold yX4_hasTold ∈ pm_ws := List.mem_filter.mpr ⟨List.mem_append_right _ (List.mem_of_getElem? (i := 523) (by decide +kernel)), by decide +kernel⟩
theorem wd_521 : Cond.methodLink RX8 180 yX4_hasTold ∈ pm_ws := List.mem_filter.mpr ⟨List.mem_append_right _ (List.mem_of_getElem? (i := 521) (by decide +kernel)), by decide +kernel⟩
theorem wd_525 : Cond.constantLong RX8 184 (-2000000000001) ∈ pm_ws := List.mem_filter.mpr ⟨List.mem_append_right _ (List.mem_of_getElem? (i := 525) (by decide +kernel)), by decide +kernel⟩
theorem wd_526 : Cond.methodLink RX8 186 yX4_beginOf ∈ pm_ws := List.mem_filter.mpr ⟨List.mem_append_right _ (List.mem_of_getElem? (i := 526) (by decide +kernel)), by decide +kernel⟩
theorem wd_527 : Cond.methodLink RX8 190 yX4_endOf ∈ pm_ws := List.mem_filter.mpr ⟨List.mem_append_right _ (List.mem_of_getElem? (i := 527) (by decide +kernel)), by decide +kernel⟩
theorem wn_172 : Cond.fieldLinkNest RX8 193 "DoubtTime$Agreed" "heard" "I" "DoubtTime" ∈ pm_nw := List.mem_filter.mpr ⟨List.mem_of_getElem? (i := 172) (by decide +kernel), by decide +kernel⟩
theorem wd_466 : Cond.code yX0_endOfRow cX0_endOfRow 4 (some .long) ∈ pm_ws := List.mem_filter.mpr ⟨List.mem_append_right _ (List.mem_of_getElem? (i := 466) (by decide +kernel)), by decide +kernel⟩
theorem wd_464 : Cond.instanceMethod yX0_endOfRow ∈ pm_ws := List.mem_filter.mpr ⟨List.mem_append_right _ (List.mem_of_getElem? (i := 464) (by decide +kernel)), by decide +kernel⟩
theorem wd_465 : Cond.selects RX0 yX0_endOfRow yX0_endOfRow ∈ pm_ws := List.mem_filter.mpr ⟨List.mem_append_right _ (List.mem_of_getElem? (i := 465) (by decide +kernel)), by decide +kernel⟩
theorem wd_463 : Cond.methodLink RX8 196 yX0_endOfRow ∈ pm_ws := List.mem_filter.mpr ⟨List.mem_append_right _ (List.mem_of_getElem? (i := 463) (by decide +kernel)), by decide +kernel⟩
theorem wd_542 : Cond.code yX8_isAsked cX8_isAsked 2 (some .boolean) ∈ pm_ws := List.mem_filter.mpr ⟨List.mem_append_right _ (List.mem_of_getElem? (i := 542) (by decide +kernel)), by decide +kernel⟩
theorem wd_541 : Cond.static yX8_isAsked ∈ pm_ws := List.mem_filter.mpr ⟨List.mem_append_right _ (List.mem_of_getElem? (i := 541) (by decide +kernel)), by decide +kernel⟩
theorem wd_540 : Cond.methodLink RX8 200 yX8_isAsked ∈ pm_ws := List.mem_filter.mpr ⟨List.mem_append_right _ (List.mem_of_getElem? (i := 540) (by decide +kernel)), by decide +kernel⟩
theorem wd_544 : Cond.methodLink RX8 203 yX0_howManyHold ∈ pm_ws := List.mem_filter.mpr ⟨List.mem_append_right _ (List.mem_of_getElem? (i := 544) (by decide +kernel)), by decide +kernel⟩
theorem wd_475 : Cond.methodLink RX8 207 yX4_isHeard ∈ pm_ws := List.mem_filter.mpr ⟨List.mem_append_right _ (List.mem_of_getElem? (i := 475) (by decide +kernel)), by decide +kernel⟩
theorem wd_479 : Cond.code yX4_meets cX4_meets 7 (some .boolean) ∈ pm_ws := List.mem_filter.mpr ⟨List.mem_append_right _ (List.mem_of_getElem? (i := 479) (by decide +kernel)), by decide +kernel⟩
theorem wd_477 : Cond.instanceMethod yX4_meets ∈ pm_ws := List.mem_filter.mpr ⟨List.mem_append_right _ (List.mem_of_getElem? (i := 477) (by decide +kernel)), by decide +kernel⟩
theorem wd_478 : Cond.selects RX4 yX4_meets yX4_meets ∈ pm_ws := List.mem_filter.mpr ⟨List.mem_append_right _ (List.mem_of_getElem? (i := 478) (by decide +kernel)), by decide +kernel⟩
theorem wd_476 : Cond.methodLink RX8 210 yX4_meets ∈ pm_ws := List.mem_filter.mpr ⟨List.mem_append_right _ (List.mem_of_getElem? (i := 476) (by decide +kernel)), by decide +kernel⟩
theorem wd_437 : Cond.code yX0_look cX0_look 4 none ∈ pm_ws := List.mem_filter.mpr ⟨List.mem_append_right _ (List.mem_of_getElem? (i := 437) (by decide +kernel)), by decide +kernel⟩
theorem wd_435 : Cond.instanceMethod yX0_look ∈ pm_ws := List.mem_filter.mpr ⟨List.mem_append_right _ (List.mem_of_getElem? (i := 435) (by decide +kernel)), by decide +kernel⟩
theorem wd_436 : Cond.selects RX0 yX0_look yX0_look ∈ pm_ws := List.mem_filter.mpr ⟨List.mem_append_right _ (List.mem_of_getElem? (i := 436) (by decide +kernel)), by decide +kernel⟩
theorem wd_434 : Cond.methodLink RX8 214 yX0_look ∈ pm_ws := List.mem_filter.mpr ⟨List.mem_append_right _ (List.mem_of_getElem? (i := 434) (by decide +kernel)), by decide +kernel⟩
theorem wd_552 : Cond.code yX8_isKey cX8_isKey 1 (some .boolean) ∈ pm_ws := List.mem_filter.mpr ⟨List.mem_append_right _ (List.mem_of_getElem? (i := 552) (by decide +kernel)), by decide +kernel⟩
theorem wd_551 : Cond.static yX8_isKey ∈ pm_ws := List.mem_filter.mpr ⟨List.mem_append_right _ (List.mem_of_getElem? (i := 551) (by decide +kernel)), by decide +kernel⟩
theorem wd_550 : Cond.methodLink RX8 218 yX8_isKey ∈ pm_ws := List.mem_filter.mpr ⟨List.mem_append_right _ (List.mem_of_getElem? (i := 550) (by decide +kernel)), by decide +kernel⟩
theorem wd_553 : Cond.constant RX8 221 (999999) ∈ pm_ws := List.mem_filter.mpr ⟨List.mem_append_right _ (List.mem_of_getElem? (i := 553) (by decide +kernel)), by decide +kernel⟩
theorem wn_112 : Cond.fieldLinkNest RX8 222 "DoubtTime$Commits" "size" "I" "DoubtTime" ∈ pm_nw := List.mem_filter.mpr ⟨List.mem_of_getElem? (i := 112) (by decide +kernel), by decide +kernel⟩
theorem wd_557 : Cond.code yX1_make cX1_make 6 none ∈ pm_ws := List.mem_filter.mpr ⟨List.mem_append_right _ (List.mem_of_getElem? (i := 557) (by decide +kernel)), by decide +kernel⟩
theorem wd_555 : Cond.instanceMethod yX1_make ∈ pm_ws := List.mem_filter.mpr ⟨List.mem_append_right _ (List.mem_of_getElem? (i := 555) (by decide +kernel)), by decide +kernel⟩
theorem wd_556 : Cond.selects RX1 yX1_make yX1_make ∈ pm_ws := List.mem_filter.mpr ⟨List.mem_append_right _ (List.mem_of_getElem? (i := 556) (by decide +kernel)), by decide +kernel⟩
theorem wd_554 : Cond.methodLink RX8 223 yX1_make ∈ pm_ws := List.mem_filter.mpr ⟨List.mem_append_right _ (List.mem_of_getElem? (i := 554) (by decide +kernel)), by decide +kernel⟩
theorem wd_572 : Cond.code yX1_has cX1_has 2 (some .boolean) ∈ pm_ws := List.mem_filter.mpr ⟨List.mem_append_right _ (List.mem_of_getElem? (i := 572) (by decide +kernel)), by decide +kernel⟩
theorem wd_570 : Cond.instanceMethod yX1_has ∈ pm_ws := List.mem_filter.mpr ⟨List.mem_append_right _ (List.mem_of_getElem? (i := 570) (by decide +kernel)), by decide +kernel⟩
theorem wd_571 : Cond.selects RX1 yX1_has yX1_has ∈ pm_ws := List.mem_filter.mpr ⟨List.mem_append_right _ (List.mem_of_getElem? (i := 571) (by decide +kernel)), by decide +kernel⟩
theorem wd_569 : Cond.methodLink RX8 227 yX1_has ∈ pm_ws := List.mem_filter.mpr ⟨List.mem_append_right _ (List.mem_of_getElem? (i := 569) (by decide +kernel)), by decide +kernel⟩
theorem wd_573 : Cond.constantLong RX8 230 (-1) ∈ pm_ws := List.mem_filter.mpr ⟨List.mem_append_right _ (List.mem_of_getElem? (i := 573) (by decide +kernel)), by decide +kernel⟩
theorem wn_102 : Cond.fieldLinkNest RX8 232 "DoubtTime$Commits" "key" "[I" "DoubtTime" ∈ pm_nw := List.mem_filter.mpr ⟨List.mem_of_getElem? (i := 102) (by decide +kernel), by decide +kernel⟩
theorem wn_104 : Cond.fieldLinkNest RX8 236 "DoubtTime$Commits" "value" "[I" "DoubtTime" ∈ pm_nw := List.mem_filter.mpr ⟨List.mem_of_getElem? (i := 104) (by decide +kernel), by decide +kernel⟩
theorem wn_106 : Cond.fieldLinkNest RX8 239 "DoubtTime$Commits" "stamp" "[J" "DoubtTime" ∈ pm_nw := List.mem_filter.mpr ⟨List.mem_of_getElem? (i := 106) (by decide +kernel), by decide +kernel⟩
theorem wn_108 : Cond.fieldLinkNest RX8 242 "DoubtTime$Commits" "madeAt" "[I" "DoubtTime" ∈ pm_nw := List.mem_filter.mpr ⟨List.mem_of_getElem? (i := 108) (by decide +kernel), by decide +kernel⟩
theorem wd_577 : Cond.code yX1_isOpen cX1_isOpen 2 (some .boolean) ∈ pm_ws := List.mem_filter.mpr ⟨List.mem_append_right _ (List.mem_of_getElem? (i := 577) (by decide +kernel)), by decide +kernel⟩
theorem wd_575 : Cond.instanceMethod yX1_isOpen ∈ pm_ws := List.mem_filter.mpr ⟨List.mem_append_right _ (List.mem_of_getElem? (i := 575) (by decide +kernel)), by decide +kernel⟩
theorem wd_576 : Cond.selects RX1 yX1_isOpen yX1_isOpen ∈ pm_ws := List.mem_filter.mpr ⟨List.mem_append_right _ (List.mem_of_getElem? (i := 576) (by decide +kernel)), by decide +kernel⟩
theorem wd_574 : Cond.methodLink RX8 245 yX1_isOpen ∈ pm_ws := List.mem_filter.mpr ⟨List.mem_append_right _ (List.mem_of_getElem? (i := 574) (by decide +kernel)), by decide +kernel⟩
theorem wd_578 : Cond.constantLong RX8 248 (-4) ∈ pm_ws := List.mem_filter.mpr ⟨List.mem_append_right _ (List.mem_of_getElem? (i := 578) (by decide +kernel)), by decide +kernel⟩
theorem wn_110 : Cond.fieldLinkNest RX8 250 "DoubtTime$Commits" "doneAt" "[I" "DoubtTime" ∈ pm_nw := List.mem_filter.mpr ⟨List.mem_of_getElem? (i := 110) (by decide +kernel), by decide +kernel⟩
theorem wd_590 : Cond.code yX1_leastOpenStamp cX1_leastOpenStamp 1 (some .long) ∈ pm_ws := List.mem_filter.mpr ⟨List.mem_append_right _ (List.mem_of_getElem? (i := 590) (by decide +kernel)), by decide +kernel⟩
theorem wd_588 : Cond.instanceMethod yX1_leastOpenStamp ∈ pm_ws := List.mem_filter.mpr ⟨List.mem_append_right _ (List.mem_of_getElem? (i := 588) (by decide +kernel)), by decide +kernel⟩
theorem wd_589 : Cond.selects RX1 yX1_leastOpenStamp yX1_leastOpenStamp ∈ pm_ws := List.mem_filter.mpr ⟨List.mem_append_right _ (List.mem_of_getElem? (i := 589) (by decide +kernel)), by decide +kernel⟩
theorem wd_587 : Cond.methodLink RX8 253 yX1_leastOpenStamp ∈ pm_ws := List.mem_filter.mpr ⟨List.mem_append_right _ (List.mem_of_getElem? (i := 587) (by decide +kernel)), by decide +kernel⟩
theorem wd_591 : Cond.methodLink RX8 256 yX1_latestStamp ∈ pm_ws := List.mem_filter.mpr ⟨List.mem_append_right _ (List.mem_of_getElem? (i := 591) (by decide +kernel)), by decide +kernel⟩
theorem wd_592 : Cond.methodLink RX8 259 Lib.MathLoose.max_long.x ∈ pm_ws := List.mem_filter.mpr ⟨List.mem_append_right _ (List.mem_of_getElem? (i := 592) (by decide +kernel)), by decide +kernel⟩
theorem wd_597 : Cond.methodLink RX8 265 yX8_safe ∈ pm_ws := List.mem_filter.mpr ⟨List.mem_append_right _ (List.mem_of_getElem? (i := 597) (by decide +kernel)), by decide +kernel⟩
theorem wd_601 : Cond.code yX1_valueAsOf cX1_valueAsOf 6 (some .int) ∈ pm_ws := List.mem_filter.mpr ⟨List.mem_append_right _ (List.mem_of_getElem? (i := 601) (by decide +kernel)), by decide +kernel⟩
theorem wd_599 : Cond.instanceMethod yX1_valueAsOf ∈ pm_ws := List.mem_filter.mpr ⟨List.mem_append_right _ (List.mem_of_getElem? (i := 599) (by decide +kernel)), by decide +kernel⟩
theorem wd_600 : Cond.selects RX1 yX1_valueAsOf yX1_valueAsOf ∈ pm_ws := List.mem_filter.mpr ⟨List.mem_append_right _ (List.mem_of_getElem? (i := 600) (by decide +kernel)), by decide +kernel⟩
theorem wd_598 : Cond.methodLink RX8 268 yX1_valueAsOf ∈ pm_ws := List.mem_filter.mpr ⟨List.mem_append_right _ (List.mem_of_getElem? (i := 598) (by decide +kernel)), by decide +kernel⟩
theorem wd_609 : Cond.code yX1_howManyStamped cX1_howManyStamped 9 (some .int) ∈ pm_ws := List.mem_filter.mpr ⟨List.mem_append_right _ (List.mem_of_getElem? (i := 609) (by decide +kernel)), by decide +kernel⟩
theorem wd_607 : Cond.instanceMethod yX1_howManyStamped ∈ pm_ws := List.mem_filter.mpr ⟨List.mem_append_right _ (List.mem_of_getElem? (i := 607) (by decide +kernel)), by decide +kernel⟩
theorem wd_608 : Cond.selects RX1 yX1_howManyStamped yX1_howManyStamped ∈ pm_ws := List.mem_filter.mpr ⟨List.mem_append_right _ (List.mem_of_getElem? (i := 608) (by decide +kernel)), by decide +kernel⟩
theorem wd_606 : Cond.methodLink RX8 272 yX1_howManyStamped ∈ pm_ws := List.mem_filter.mpr ⟨List.mem_append_right _ (List.mem_of_getElem? (i := 606) (by decide +kernel)), by decide +kernel⟩
theorem wn_194 : Cond.fieldLinkNest RX8 276 "DoubtTime$Leap" "at" "J" "DoubtTime" ∈ pm_nw := List.mem_filter.mpr ⟨List.mem_of_getElem? (i := 194) (by decide +kernel), by decide +kernel⟩
theorem wn_196 : Cond.fieldLinkNest RX8 279 "DoubtTime$Leap" "ticks" "J" "DoubtTime" ∈ pm_nw := List.mem_filter.mpr ⟨List.mem_of_getElem? (i := 196) (by decide +kernel), by decide +kernel⟩
theorem wn_198 : Cond.fieldLinkNest RX8 282 "DoubtTime$Leap" "window" "J" "DoubtTime" ∈ pm_nw := List.mem_filter.mpr ⟨List.mem_of_getElem? (i := 198) (by decide +kernel), by decide +kernel⟩
theorem wn_200 : Cond.fieldLinkNest RX8 285 "DoubtTime$Leap" "kind" "J" "DoubtTime" ∈ pm_nw := List.mem_filter.mpr ⟨List.mem_of_getElem? (i := 200) (by decide +kernel), by decide +kernel⟩
theorem wd_618 : Cond.methodLink RX8 287 yX3_smear ∈ pm_ws := List.mem_filter.mpr ⟨List.mem_append_right _ (List.mem_of_getElem? (i := 618) (by decide +kernel)), by decide +kernel⟩
theorem wd_633 : Cond.code yX3_leastSmearedTo cX3_leastSmearedTo 10 (some .long) ∈ pm_ws := List.mem_filter.mpr ⟨List.mem_append_right _ (List.mem_of_getElem? (i := 633) (by decide +kernel)), by decide +kernel⟩
theorem wd_631 : Cond.instanceMethod yX3_leastSmearedTo ∈ pm_ws := List.mem_filter.mpr ⟨List.mem_append_right _ (List.mem_of_getElem? (i := 631) (by decide +kernel)), by decide +kernel⟩
theorem wd_632 : Cond.selects RX3 yX3_leastSmearedTo yX3_leastSmearedTo ∈ pm_ws := List.mem_filter.mpr ⟨List.mem_append_right _ (List.mem_of_getElem? (i := 632) (by decide +kernel)), by decide +kernel⟩
theorem wd_630 : Cond.methodLink RX8 291 yX3_leastSmearedTo ∈ pm_ws := List.mem_filter.mpr ⟨List.mem_append_right _ (List.mem_of_getElem? (i := 630) (by decide +kernel)), by decide +kernel⟩
theorem wd_322 : Cond.constantLong RX8 294 (6) ∈ pm_ws := List.mem_filter.mpr ⟨List.mem_append_right _ (List.mem_of_getElem? (i := 322) (by decide +kernel)), by decide +kernel⟩
theorem wd_318 : Cond.constantLong RX8 296 (999999) ∈ pm_ws := List.mem_filter.mpr ⟨List.mem_append_right _ (List.mem_of_getElem? (i := 318) (by decide +kernel)), by decide +kernel⟩
theorem wd_326 : Cond.constantLong RX8 298 (1000000000000) ∈ pm_ws := List.mem_filter.mpr ⟨List.mem_append_right _ (List.mem_of_getElem? (i := 326) (by decide +kernel)), by decide +kernel⟩
theorem wd_543 : Cond.constantLong RX8 300 (2000000000000) ∈ pm_ws := List.mem_filter.mpr ⟨List.mem_append_right _ (List.mem_of_getElem? (i := 543) (by decide +kernel)), by decide +kernel⟩
theorem wd_330 : Cond.constantLong RX8 302 (1000) ∈ pm_ws := List.mem_filter.mpr ⟨List.mem_append_right _ (List.mem_of_getElem? (i := 330) (by decide +kernel)), by decide +kernel⟩
theorem wd_331 : Cond.constantLong RX8 304 (1000000000) ∈ pm_ws := List.mem_filter.mpr ⟨List.mem_append_right _ (List.mem_of_getElem? (i := 331) (by decide +kernel)), by decide +kernel⟩
theorem wd_646 : Cond.methodLink RX9 1 objectInit ∈ pm_ws := List.mem_filter.mpr ⟨List.mem_append_right _ (List.mem_of_getElem? (i := 646) (by decide +kernel)), by decide +kernel⟩
theorem wd_673 : Cond.fieldLink RX9 7 "DoubtTimeModel" "now" "[J" ∈ pm_ws := List.mem_filter.mpr ⟨List.mem_append_right _ (List.mem_of_getElem? (i := 673) (by decide +kernel)), by decide +kernel⟩
theorem wd_674 : Cond.fieldLink RX9 13 "DoubtTimeModel" "past" "[J" ∈ pm_ws := List.mem_filter.mpr ⟨List.mem_append_right _ (List.mem_of_getElem? (i := 674) (by decide +kernel)), by decide +kernel⟩
theorem wd_676 : Cond.fieldLink RX9 16 "DoubtTimeModel" "text" "[I" ∈ pm_ws := List.mem_filter.mpr ⟨List.mem_append_right _ (List.mem_of_getElem? (i := 676) (by decide +kernel)), by decide +kernel⟩
theorem wd_679 : Cond.fieldLink RX9 20 "DoubtTimeModel" "made" "[J" ∈ pm_ws := List.mem_filter.mpr ⟨List.mem_append_right _ (List.mem_of_getElem? (i := 679) (by decide +kernel)), by decide +kernel⟩
theorem wd_680 : Cond.fieldLink RX9 23 "DoubtTimeModel" "leapRead" "[J" ∈ pm_ws := List.mem_filter.mpr ⟨List.mem_append_right _ (List.mem_of_getElem? (i := 680) (by decide +kernel)), by decide +kernel⟩
theorem wd_681 : Cond.fieldLink RX9 26 "DoubtTimeModel" "leapNow" "[J" ∈ pm_ws := List.mem_filter.mpr ⟨List.mem_append_right _ (List.mem_of_getElem? (i := 681) (by decide +kernel)), by decide +kernel⟩
theorem wd_682 : Cond.fieldLink RX9 29 "DoubtTimeModel" "low" "[J" ∈ pm_ws := List.mem_filter.mpr ⟨List.mem_append_right _ (List.mem_of_getElem? (i := 682) (by decide +kernel)), by decide +kernel⟩
theorem wd_683 : Cond.fieldLink RX9 32 "DoubtTimeModel" "high" "[J" ∈ pm_ws := List.mem_filter.mpr ⟨List.mem_append_right _ (List.mem_of_getElem? (i := 683) (by decide +kernel)), by decide +kernel⟩
theorem wd_650 : Cond.code yX9_begin cX9_begin 2 none ∈ pm_ws := List.mem_filter.mpr ⟨List.mem_append_right _ (List.mem_of_getElem? (i := 650) (by decide +kernel)), by decide +kernel⟩
theorem wd_649 : Cond.instanceMethod yX9_begin ∈ pm_ws := List.mem_filter.mpr ⟨List.mem_append_right _ (List.mem_of_getElem? (i := 649) (by decide +kernel)), by decide +kernel⟩
theorem wp_11 : Cond.selects RX9 yX9_begin yX9_begin ∈ pm_ws := List.mem_filter.mpr ⟨List.mem_append_left _ (List.mem_of_getElem? (i := 11) (by decide +kernel)), by decide +kernel⟩
theorem wd_647 : Cond.methodLink RX9 35 yX9_begin ∈ pm_ws := List.mem_filter.mpr ⟨List.mem_append_right _ (List.mem_of_getElem? (i := 647) (by decide +kernel)), by decide +kernel⟩
theorem wd_657 : Cond.constantLong RX9 38 (990) ∈ pm_ws := List.mem_filter.mpr ⟨List.mem_append_right _ (List.mem_of_getElem? (i := 657) (by decide +kernel)), by decide +kernel⟩
theorem wd_658 : Cond.constantLong RX9 40 (1010) ∈ pm_ws := List.mem_filter.mpr ⟨List.mem_append_right _ (List.mem_of_getElem? (i := 658) (by decide +kernel)), by decide +kernel⟩
theorem wd_662 : Cond.code yX9_putMaster cX9_putMaster 6 none ∈ pm_ws := List.mem_filter.mpr ⟨List.mem_append_right _ (List.mem_of_getElem? (i := 662) (by decide +kernel)), by decide +kernel⟩
theorem wd_661 : Cond.instanceMethod yX9_putMaster ∈ pm_ws := List.mem_filter.mpr ⟨List.mem_append_right _ (List.mem_of_getElem? (i := 661) (by decide +kernel)), by decide +kernel⟩
theorem wp_13 : Cond.selects RX9 yX9_putMaster yX9_putMaster ∈ pm_ws := List.mem_filter.mpr ⟨List.mem_append_left _ (List.mem_of_getElem? (i := 13) (by decide +kernel)), by decide +kernel⟩
theorem wd_659 : Cond.methodLink RX9 42 yX9_putMaster ∈ pm_ws := List.mem_filter.mpr ⟨List.mem_append_right _ (List.mem_of_getElem? (i := 659) (by decide +kernel)), by decide +kernel⟩
theorem wd_651 : Cond.constantLong RX9 46 (1000) ∈ pm_ws := List.mem_filter.mpr ⟨List.mem_append_right _ (List.mem_of_getElem? (i := 651) (by decide +kernel)), by decide +kernel⟩
theorem wd_663 : Cond.constantLong RX9 48 (1030) ∈ pm_ws := List.mem_filter.mpr ⟨List.mem_append_right _ (List.mem_of_getElem? (i := 663) (by decide +kernel)), by decide +kernel⟩
theorem wd_664 : Cond.constantLong RX9 50 (995) ∈ pm_ws := List.mem_filter.mpr ⟨List.mem_append_right _ (List.mem_of_getElem? (i := 664) (by decide +kernel)), by decide +kernel⟩
theorem wd_665 : Cond.constantLong RX9 52 (1005) ∈ pm_ws := List.mem_filter.mpr ⟨List.mem_append_right _ (List.mem_of_getElem? (i := 665) (by decide +kernel)), by decide +kernel⟩
theorem wd_666 : Cond.constantLong RX9 54 (2000) ∈ pm_ws := List.mem_filter.mpr ⟨List.mem_append_right _ (List.mem_of_getElem? (i := 666) (by decide +kernel)), by decide +kernel⟩
theorem wd_667 : Cond.constantLong RX9 56 (2010) ∈ pm_ws := List.mem_filter.mpr ⟨List.mem_append_right _ (List.mem_of_getElem? (i := 667) (by decide +kernel)), by decide +kernel⟩
theorem wd_668 : Cond.constantLong RX9 58 (1500) ∈ pm_ws := List.mem_filter.mpr ⟨List.mem_append_right _ (List.mem_of_getElem? (i := 668) (by decide +kernel)), by decide +kernel⟩
theorem wd_652 : Cond.constantLong RX9 60 (100) ∈ pm_ws := List.mem_filter.mpr ⟨List.mem_append_right _ (List.mem_of_getElem? (i := 652) (by decide +kernel)), by decide +kernel⟩
theorem wd_656 : Cond.code yX9_putLeap cX9_putLeap 9 none ∈ pm_ws := List.mem_filter.mpr ⟨List.mem_append_right _ (List.mem_of_getElem? (i := 656) (by decide +kernel)), by decide +kernel⟩
theorem wd_655 : Cond.instanceMethod yX9_putLeap ∈ pm_ws := List.mem_filter.mpr ⟨List.mem_append_right _ (List.mem_of_getElem? (i := 655) (by decide +kernel)), by decide +kernel⟩
theorem wp_12 : Cond.selects RX9 yX9_putLeap yX9_putLeap ∈ pm_ws := List.mem_filter.mpr ⟨List.mem_append_left _ (List.mem_of_getElem? (i := 12) (by decide +kernel)), by decide +kernel⟩
theorem wd_653 : Cond.methodLink RX9 62 yX9_putLeap ∈ pm_ws := List.mem_filter.mpr ⟨List.mem_append_right _ (List.mem_of_getElem? (i := 653) (by decide +kernel)), by decide +kernel⟩
theorem wd_672 : Cond.code yX9_take cX9_take 2 none ∈ pm_ws := List.mem_filter.mpr ⟨List.mem_append_right _ (List.mem_of_getElem? (i := 672) (by decide +kernel)), by decide +kernel⟩
theorem wd_671 : Cond.instanceMethod yX9_take ∈ pm_ws := List.mem_filter.mpr ⟨List.mem_append_right _ (List.mem_of_getElem? (i := 671) (by decide +kernel)), by decide +kernel⟩
theorem wp_14 : Cond.selects RX9 yX9_take yX9_take ∈ pm_ws := List.mem_filter.mpr ⟨List.mem_append_left _ (List.mem_of_getElem? (i := 14) (by decide +kernel)), by decide +kernel⟩
theorem wd_669 : Cond.methodLink RX9 66 yX9_take ∈ pm_ws := List.mem_filter.mpr ⟨List.mem_append_right _ (List.mem_of_getElem? (i := 669) (by decide +kernel)), by decide +kernel⟩
theorem wd_675 : Cond.fieldLink RX9 69 "DoubtTimeModel" "changes" "I" ∈ pm_ws := List.mem_filter.mpr ⟨List.mem_append_right _ (List.mem_of_getElem? (i := 675) (by decide +kernel)), by decide +kernel⟩
theorem wd_678 : Cond.fieldLink RX9 73 "DoubtTimeModel" "at" "I" ∈ pm_ws := List.mem_filter.mpr ⟨List.mem_append_right _ (List.mem_of_getElem? (i := 678) (by decide +kernel)), by decide +kernel⟩
theorem wd_677 : Cond.fieldLink RX9 76 "DoubtTimeModel" "letters" "I" ∈ pm_ws := List.mem_filter.mpr ⟨List.mem_append_right _ (List.mem_of_getElem? (i := 677) (by decide +kernel)), by decide +kernel⟩
theorem wd_748 : Cond.constantLong RX9 79 (48) ∈ pm_ws := List.mem_filter.mpr ⟨List.mem_append_right _ (List.mem_of_getElem? (i := 748) (by decide +kernel)), by decide +kernel⟩
theorem wd_749 : Cond.constantLong RX9 81 (57) ∈ pm_ws := List.mem_filter.mpr ⟨List.mem_append_right _ (List.mem_of_getElem? (i := 749) (by decide +kernel)), by decide +kernel⟩
theorem wd_727 : Cond.code yX9_within cX9_within 6 (some .boolean) ∈ pm_ws := List.mem_filter.mpr ⟨List.mem_append_right _ (List.mem_of_getElem? (i := 727) (by decide +kernel)), by decide +kernel⟩
theorem wd_726 : Cond.static yX9_within ∈ pm_ws := List.mem_filter.mpr ⟨List.mem_append_right _ (List.mem_of_getElem? (i := 726) (by decide +kernel)), by decide +kernel⟩
theorem wd_725 : Cond.methodLink RX9 83 yX9_within ∈ pm_ws := List.mem_filter.mpr ⟨List.mem_append_right _ (List.mem_of_getElem? (i := 725) (by decide +kernel)), by decide +kernel⟩
theorem wd_750 : Cond.constantLong RX9 87 (9223372036854775807) ∈ pm_ws := List.mem_filter.mpr ⟨List.mem_append_right _ (List.mem_of_getElem? (i := 750) (by decide +kernel)), by decide +kernel⟩
theorem wd_751 : Cond.constantLong RX9 89 (10) ∈ pm_ws := List.mem_filter.mpr ⟨List.mem_append_right _ (List.mem_of_getElem? (i := 751) (by decide +kernel)), by decide +kernel⟩
theorem wd_752 : Cond.constantLong RX9 91 (-1) ∈ pm_ws := List.mem_filter.mpr ⟨List.mem_append_right _ (List.mem_of_getElem? (i := 752) (by decide +kernel)), by decide +kernel⟩
theorem wd_747 : Cond.code yX9_takeNumber cX9_takeNumber 7 (some .long) ∈ pm_ws := List.mem_filter.mpr ⟨List.mem_append_right _ (List.mem_of_getElem? (i := 747) (by decide +kernel)), by decide +kernel⟩
theorem wd_746 : Cond.instanceMethod yX9_takeNumber ∈ pm_ws := List.mem_filter.mpr ⟨List.mem_append_right _ (List.mem_of_getElem? (i := 746) (by decide +kernel)), by decide +kernel⟩
theorem wp_17 : Cond.selects RX9 yX9_takeNumber yX9_takeNumber ∈ pm_ws := List.mem_filter.mpr ⟨List.mem_append_left _ (List.mem_of_getElem? (i := 17) (by decide +kernel)), by decide +kernel⟩
theorem wd_744 : Cond.methodLink RX9 93 yX9_takeNumber ∈ pm_ws := List.mem_filter.mpr ⟨List.mem_append_right _ (List.mem_of_getElem? (i := 744) (by decide +kernel)), by decide +kernel⟩
theorem wd_761 : Cond.code yX9_takeSign cX9_takeSign 3 (some .boolean) ∈ pm_ws := List.mem_filter.mpr ⟨List.mem_append_right _ (List.mem_of_getElem? (i := 761) (by decide +kernel)), by decide +kernel⟩
theorem wd_760 : Cond.instanceMethod yX9_takeSign ∈ pm_ws := List.mem_filter.mpr ⟨List.mem_append_right _ (List.mem_of_getElem? (i := 760) (by decide +kernel)), by decide +kernel⟩
theorem wp_19 : Cond.selects RX9 yX9_takeSign yX9_takeSign ∈ pm_ws := List.mem_filter.mpr ⟨List.mem_append_left _ (List.mem_of_getElem? (i := 19) (by decide +kernel)), by decide +kernel⟩
theorem wd_758 : Cond.methodLink RX9 97 yX9_takeSign ∈ pm_ws := List.mem_filter.mpr ⟨List.mem_append_right _ (List.mem_of_getElem? (i := 758) (by decide +kernel)), by decide +kernel⟩
theorem wd_762 : Cond.constantLong RX9 101 (5) ∈ pm_ws := List.mem_filter.mpr ⟨List.mem_append_right _ (List.mem_of_getElem? (i := 762) (by decide +kernel)), by decide +kernel⟩
theorem wd_763 : Cond.constantLong RX9 103 (1000000000000) ∈ pm_ws := List.mem_filter.mpr ⟨List.mem_append_right _ (List.mem_of_getElem? (i := 763) (by decide +kernel)), by decide +kernel⟩
theorem wd_768 : Cond.constantLong RX9 105 (1000000000) ∈ pm_ws := List.mem_filter.mpr ⟨List.mem_append_right _ (List.mem_of_getElem? (i := 768) (by decide +kernel)), by decide +kernel⟩
theorem wd_753 : Cond.constantLong RX9 107 (999999) ∈ pm_ws := List.mem_filter.mpr ⟨List.mem_append_right _ (List.mem_of_getElem? (i := 753) (by decide +kernel)), by decide +kernel⟩
theorem wd_757 : Cond.code yX9_readMaster cX9_readMaster 9 (some .boolean) ∈ pm_ws := List.mem_filter.mpr ⟨List.mem_append_right _ (List.mem_of_getElem? (i := 757) (by decide +kernel)), by decide +kernel⟩
theorem wd_756 : Cond.instanceMethod yX9_readMaster ∈ pm_ws := List.mem_filter.mpr ⟨List.mem_append_right _ (List.mem_of_getElem? (i := 756) (by decide +kernel)), by decide +kernel⟩
theorem wp_18 : Cond.selects RX9 yX9_readMaster yX9_readMaster ∈ pm_ws := List.mem_filter.mpr ⟨List.mem_append_left _ (List.mem_of_getElem? (i := 18) (by decide +kernel)), by decide +kernel⟩
theorem wd_754 : Cond.methodLink RX9 109 yX9_readMaster ∈ pm_ws := List.mem_filter.mpr ⟨List.mem_append_right _ (List.mem_of_getElem? (i := 754) (by decide +kernel)), by decide +kernel⟩
theorem wd_767 : Cond.code yX9_readLeap cX9_readLeap 12 (some .boolean) ∈ pm_ws := List.mem_filter.mpr ⟨List.mem_append_right _ (List.mem_of_getElem? (i := 767) (by decide +kernel)), by decide +kernel⟩
theorem wd_766 : Cond.instanceMethod yX9_readLeap ∈ pm_ws := List.mem_filter.mpr ⟨List.mem_append_right _ (List.mem_of_getElem? (i := 766) (by decide +kernel)), by decide +kernel⟩
theorem wp_20 : Cond.selects RX9 yX9_readLeap yX9_readLeap ∈ pm_ws := List.mem_filter.mpr ⟨List.mem_append_left _ (List.mem_of_getElem? (i := 20) (by decide +kernel)), by decide +kernel⟩
theorem wd_764 : Cond.methodLink RX9 113 yX9_readLeap ∈ pm_ws := List.mem_filter.mpr ⟨List.mem_append_right _ (List.mem_of_getElem? (i := 764) (by decide +kernel)), by decide +kernel⟩
theorem wd_743 : Cond.code yX9_readItem cX9_readItem 5 (some .boolean) ∈ pm_ws := List.mem_filter.mpr ⟨List.mem_append_right _ (List.mem_of_getElem? (i := 743) (by decide +kernel)), by decide +kernel⟩
theorem wd_742 : Cond.instanceMethod yX9_readItem ∈ pm_ws := List.mem_filter.mpr ⟨List.mem_append_right _ (List.mem_of_getElem? (i := 742) (by decide +kernel)), by decide +kernel⟩
theorem wp_16 : Cond.selects RX9 yX9_readItem yX9_readItem ∈ pm_ws := List.mem_filter.mpr ⟨List.mem_append_left _ (List.mem_of_getElem? (i := 16) (by decide +kernel)), by decide +kernel⟩
theorem wd_740 : Cond.methodLink RX9 116 yX9_readItem ∈ pm_ws := List.mem_filter.mpr ⟨List.mem_append_right _ (List.mem_of_getElem? (i := 740) (by decide +kernel)), by decide +kernel⟩
theorem wd_723 : Cond.constantLong RX9 119 (32) ∈ pm_ws := List.mem_filter.mpr ⟨List.mem_append_right _ (List.mem_of_getElem? (i := 723) (by decide +kernel)), by decide +kernel⟩
theorem wd_724 : Cond.constantLong RX9 121 (126) ∈ pm_ws := List.mem_filter.mpr ⟨List.mem_append_right _ (List.mem_of_getElem? (i := 724) (by decide +kernel)), by decide +kernel⟩
theorem wd_739 : Cond.code yX9_readText cX9_readText 2 (some .int) ∈ pm_ws := List.mem_filter.mpr ⟨List.mem_append_right _ (List.mem_of_getElem? (i := 739) (by decide +kernel)), by decide +kernel⟩
theorem wd_738 : Cond.instanceMethod yX9_readText ∈ pm_ws := List.mem_filter.mpr ⟨List.mem_append_right _ (List.mem_of_getElem? (i := 738) (by decide +kernel)), by decide +kernel⟩
theorem wp_15 : Cond.selects RX9 yX9_readText yX9_readText ∈ pm_ws := List.mem_filter.mpr ⟨List.mem_append_left _ (List.mem_of_getElem? (i := 15) (by decide +kernel)), by decide +kernel⟩
theorem wd_736 : Cond.methodLink RX9 123 yX9_readText ∈ pm_ws := List.mem_filter.mpr ⟨List.mem_append_right _ (List.mem_of_getElem? (i := 736) (by decide +kernel)), by decide +kernel⟩
theorem wd_776 : Cond.code yX9_heardMany cX9_heardMany 3 (some .int) ∈ pm_ws := List.mem_filter.mpr ⟨List.mem_append_right _ (List.mem_of_getElem? (i := 776) (by decide +kernel)), by decide +kernel⟩
theorem wd_775 : Cond.instanceMethod yX9_heardMany ∈ pm_ws := List.mem_filter.mpr ⟨List.mem_append_right _ (List.mem_of_getElem? (i := 775) (by decide +kernel)), by decide +kernel⟩
theorem wp_21 : Cond.selects RX9 yX9_heardMany yX9_heardMany ∈ pm_ws := List.mem_filter.mpr ⟨List.mem_append_left _ (List.mem_of_getElem? (i := 21) (by decide +kernel)), by decide +kernel⟩
theorem wd_773 : Cond.methodLink RX9 127 yX9_heardMany ∈ pm_ws := List.mem_filter.mpr ⟨List.mem_append_right _ (List.mem_of_getElem? (i := 773) (by decide +kernel)), by decide +kernel⟩
theorem wd_784 : Cond.code yX9_isStruck cX9_isStruck 2 (some .boolean) ∈ pm_ws := List.mem_filter.mpr ⟨List.mem_append_right _ (List.mem_of_getElem? (i := 784) (by decide +kernel)), by decide +kernel⟩
theorem wd_783 : Cond.instanceMethod yX9_isStruck ∈ pm_ws := List.mem_filter.mpr ⟨List.mem_append_right _ (List.mem_of_getElem? (i := 783) (by decide +kernel)), by decide +kernel⟩
theorem wp_23 : Cond.selects RX9 yX9_isStruck yX9_isStruck ∈ pm_ws := List.mem_filter.mpr ⟨List.mem_append_left _ (List.mem_of_getElem? (i := 23) (by decide +kernel)), by decide +kernel⟩
theorem wd_781 : Cond.methodLink RX9 130 yX9_isStruck ∈ pm_ws := List.mem_filter.mpr ⟨List.mem_append_right _ (List.mem_of_getElem? (i := 781) (by decide +kernel)), by decide +kernel⟩
theorem wd_780 : Cond.code yX9_isHeard cX9_isHeard 2 (some .boolean) ∈ pm_ws := List.mem_filter.mpr ⟨List.mem_append_right _ (List.mem_of_getElem? (i := 780) (by decide +kernel)), by decide +kernel⟩
theorem wd_779 : Cond.instanceMethod yX9_isHeard ∈ pm_ws := List.mem_filter.mpr ⟨List.mem_append_right _ (List.mem_of_getElem? (i := 779) (by decide +kernel)), by decide +kernel⟩
theorem wp_22 : Cond.selects RX9 yX9_isHeard yX9_isHeard ∈ pm_ws := List.mem_filter.mpr ⟨List.mem_append_left _ (List.mem_of_getElem? (i := 22) (by decide +kernel)), by decide +kernel⟩
theorem wd_777 : Cond.methodLink RX9 133 yX9_isHeard ∈ pm_ws := List.mem_filter.mpr ⟨List.mem_append_right _ (List.mem_of_getElem? (i := 777) (by decide +kernel)), by decide +kernel⟩
theorem wd_795 : Cond.code yX9_isMaster cX9_isMaster 1 (some .boolean) ∈ pm_ws := List.mem_filter.mpr ⟨List.mem_append_right _ (List.mem_of_getElem? (i := 795) (by decide +kernel)), by decide +kernel⟩
theorem wd_794 : Cond.static yX9_isMaster ∈ pm_ws := List.mem_filter.mpr ⟨List.mem_append_right _ (List.mem_of_getElem? (i := 794) (by decide +kernel)), by decide +kernel⟩
theorem wd_793 : Cond.methodLink RX9 136 yX9_isMaster ∈ pm_ws := List.mem_filter.mpr ⟨List.mem_append_right _ (List.mem_of_getElem? (i := 793) (by decide +kernel)), by decide +kernel⟩
theorem wd_799 : Cond.code yX9_note cX9_note 2 none ∈ pm_ws := List.mem_filter.mpr ⟨List.mem_append_right _ (List.mem_of_getElem? (i := 799) (by decide +kernel)), by decide +kernel⟩
theorem wd_798 : Cond.instanceMethod yX9_note ∈ pm_ws := List.mem_filter.mpr ⟨List.mem_append_right _ (List.mem_of_getElem? (i := 798) (by decide +kernel)), by decide +kernel⟩
theorem wp_24 : Cond.selects RX9 yX9_note yX9_note ∈ pm_ws := List.mem_filter.mpr ⟨List.mem_append_left _ (List.mem_of_getElem? (i := 24) (by decide +kernel)), by decide +kernel⟩
theorem wd_796 : Cond.methodLink RX9 139 yX9_note ∈ pm_ws := List.mem_filter.mpr ⟨List.mem_append_right _ (List.mem_of_getElem? (i := 796) (by decide +kernel)), by decide +kernel⟩
theorem wd_811 : Cond.code yX9_liarsNow cX9_liarsNow 4 (some .int) ∈ pm_ws := List.mem_filter.mpr ⟨List.mem_append_right _ (List.mem_of_getElem? (i := 811) (by decide +kernel)), by decide +kernel⟩
theorem wd_810 : Cond.instanceMethod yX9_liarsNow ∈ pm_ws := List.mem_filter.mpr ⟨List.mem_append_right _ (List.mem_of_getElem? (i := 810) (by decide +kernel)), by decide +kernel⟩
theorem wp_25 : Cond.selects RX9 yX9_liarsNow yX9_liarsNow ∈ pm_ws := List.mem_filter.mpr ⟨List.mem_append_left _ (List.mem_of_getElem? (i := 25) (by decide +kernel)), by decide +kernel⟩
theorem wd_808 : Cond.methodLink RX9 142 yX9_liarsNow ∈ pm_ws := List.mem_filter.mpr ⟨List.mem_append_right _ (List.mem_of_getElem? (i := 808) (by decide +kernel)), by decide +kernel⟩
theorem wd_831 : Cond.code yX9_ones cX9_ones 3 (some .int) ∈ pm_ws := List.mem_filter.mpr ⟨List.mem_append_right _ (List.mem_of_getElem? (i := 831) (by decide +kernel)), by decide +kernel⟩
theorem wd_830 : Cond.static yX9_ones ∈ pm_ws := List.mem_filter.mpr ⟨List.mem_append_right _ (List.mem_of_getElem? (i := 830) (by decide +kernel)), by decide +kernel⟩
theorem wd_829 : Cond.methodLink RX9 145 yX9_ones ∈ pm_ws := List.mem_filter.mpr ⟨List.mem_append_right _ (List.mem_of_getElem? (i := 829) (by decide +kernel)), by decide +kernel⟩
theorem wd_840 : Cond.constantLong RX9 149 (5000) ∈ pm_ws := List.mem_filter.mpr ⟨List.mem_append_right _ (List.mem_of_getElem? (i := 840) (by decide +kernel)), by decide +kernel⟩
theorem wd_844 : Cond.code yX9_closeOpen cX9_closeOpen 5 (some .int) ∈ pm_ws := List.mem_filter.mpr ⟨List.mem_append_right _ (List.mem_of_getElem? (i := 844) (by decide +kernel)), by decide +kernel⟩
theorem wd_843 : Cond.instanceMethod yX9_closeOpen ∈ pm_ws := List.mem_filter.mpr ⟨List.mem_append_right _ (List.mem_of_getElem? (i := 843) (by decide +kernel)), by decide +kernel⟩
theorem wp_30 : Cond.selects RX9 yX9_closeOpen yX9_closeOpen ∈ pm_ws := List.mem_filter.mpr ⟨List.mem_append_left _ (List.mem_of_getElem? (i := 30) (by decide +kernel)), by decide +kernel⟩
theorem wd_841 : Cond.methodLink RX9 151 yX9_closeOpen ∈ pm_ws := List.mem_filter.mpr ⟨List.mem_append_right _ (List.mem_of_getElem? (i := 841) (by decide +kernel)), by decide +kernel⟩
theorem wd_848 : Cond.code yX9_openMany cX9_openMany 3 (some .int) ∈ pm_ws := List.mem_filter.mpr ⟨List.mem_append_right _ (List.mem_of_getElem? (i := 848) (by decide +kernel)), by decide +kernel⟩
theorem wd_847 : Cond.instanceMethod yX9_openMany ∈ pm_ws := List.mem_filter.mpr ⟨List.mem_append_right _ (List.mem_of_getElem? (i := 847) (by decide +kernel)), by decide +kernel⟩
theorem wp_31 : Cond.selects RX9 yX9_openMany yX9_openMany ∈ pm_ws := List.mem_filter.mpr ⟨List.mem_append_left _ (List.mem_of_getElem? (i := 31) (by decide +kernel)), by decide +kernel⟩
theorem wd_845 : Cond.methodLink RX9 154 yX9_openMany ∈ pm_ws := List.mem_filter.mpr ⟨List.mem_append_right _ (List.mem_of_getElem? (i := 845) (by decide +kernel)), by decide +kernel⟩
theorem wd_815 : Cond.code yX9_find cX9_find 6 none ∈ pm_ws := List.mem_filter.mpr ⟨List.mem_append_right _ (List.mem_of_getElem? (i := 815) (by decide +kernel)), by decide +kernel⟩
theorem wd_814 : Cond.instanceMethod yX9_find ∈ pm_ws := List.mem_filter.mpr ⟨List.mem_append_right _ (List.mem_of_getElem? (i := 814) (by decide +kernel)), by decide +kernel⟩
theorem wp_26 : Cond.selects RX9 yX9_find yX9_find ∈ pm_ws := List.mem_filter.mpr ⟨List.mem_append_left _ (List.mem_of_getElem? (i := 26) (by decide +kernel)), by decide +kernel⟩
theorem wd_812 : Cond.methodLink RX9 157 yX9_find ∈ pm_ws := List.mem_filter.mpr ⟨List.mem_append_right _ (List.mem_of_getElem? (i := 812) (by decide +kernel)), by decide +kernel⟩
theorem wd_849 : Cond.constantLong RX9 161 (-4) ∈ pm_ws := List.mem_filter.mpr ⟨List.mem_append_right _ (List.mem_of_getElem? (i := 849) (by decide +kernel)), by decide +kernel⟩
theorem wd_853 : Cond.code yX9_isGood cX9_isGood 1 (some .boolean) ∈ pm_ws := List.mem_filter.mpr ⟨List.mem_append_right _ (List.mem_of_getElem? (i := 853) (by decide +kernel)), by decide +kernel⟩
theorem wd_852 : Cond.instanceMethod yX9_isGood ∈ pm_ws := List.mem_filter.mpr ⟨List.mem_append_right _ (List.mem_of_getElem? (i := 852) (by decide +kernel)), by decide +kernel⟩
theorem wp_32 : Cond.selects RX9 yX9_isGood yX9_isGood ∈ pm_ws := List.mem_filter.mpr ⟨List.mem_append_left _ (List.mem_of_getElem? (i := 32) (by decide +kernel)), by decide +kernel⟩
theorem wd_850 : Cond.methodLink RX9 163 yX9_isGood ∈ pm_ws := List.mem_filter.mpr ⟨List.mem_append_right _ (List.mem_of_getElem? (i := 850) (by decide +kernel)), by decide +kernel⟩
theorem wd_686 : Cond.fieldLink RX9 166 "DoubtTimeModel" "rowBegin" "J" ∈ pm_ws := List.mem_filter.mpr ⟨List.mem_append_right _ (List.mem_of_getElem? (i := 686) (by decide +kernel)), by decide +kernel⟩
theorem wd_820 : Cond.constantLong RX9 170 (1000000) ∈ pm_ws := List.mem_filter.mpr ⟨List.mem_append_right _ (List.mem_of_getElem? (i := 820) (by decide +kernel)), by decide +kernel⟩
theorem wd_684 : Cond.fieldLink RX9 172 "DoubtTimeModel" "spans" "I" ∈ pm_ws := List.mem_filter.mpr ⟨List.mem_append_right _ (List.mem_of_getElem? (i := 684) (by decide +kernel)), by decide +kernel⟩
theorem wd_819 : Cond.code yX9_spanOf cX9_spanOf 10 (some .long) ∈ pm_ws := List.mem_filter.mpr ⟨List.mem_append_right _ (List.mem_of_getElem? (i := 819) (by decide +kernel)), by decide +kernel⟩
theorem wd_818 : Cond.instanceMethod yX9_spanOf ∈ pm_ws := List.mem_filter.mpr ⟨List.mem_append_right _ (List.mem_of_getElem? (i := 818) (by decide +kernel)), by decide +kernel⟩
theorem wp_27 : Cond.selects RX9 yX9_spanOf yX9_spanOf ∈ pm_ws := List.mem_filter.mpr ⟨List.mem_append_left _ (List.mem_of_getElem? (i := 27) (by decide +kernel)), by decide +kernel⟩
theorem wd_816 : Cond.methodLink RX9 175 yX9_spanOf ∈ pm_ws := List.mem_filter.mpr ⟨List.mem_append_right _ (List.mem_of_getElem? (i := 816) (by decide +kernel)), by decide +kernel⟩
theorem wd_685 : Cond.fieldLink RX9 179 "DoubtTimeModel" "most" "I" ∈ pm_ws := List.mem_filter.mpr ⟨List.mem_append_right _ (List.mem_of_getElem? (i := 685) (by decide +kernel)), by decide +kernel⟩
theorem wd_824 : Cond.code yX9_manyAt cX9_manyAt 5 (some .int) ∈ pm_ws := List.mem_filter.mpr ⟨List.mem_append_right _ (List.mem_of_getElem? (i := 824) (by decide +kernel)), by decide +kernel⟩
theorem wd_823 : Cond.instanceMethod yX9_manyAt ∈ pm_ws := List.mem_filter.mpr ⟨List.mem_append_right _ (List.mem_of_getElem? (i := 823) (by decide +kernel)), by decide +kernel⟩
theorem wp_28 : Cond.selects RX9 yX9_manyAt yX9_manyAt ∈ pm_ws := List.mem_filter.mpr ⟨List.mem_append_left _ (List.mem_of_getElem? (i := 28) (by decide +kernel)), by decide +kernel⟩
theorem wd_821 : Cond.methodLink RX9 182 yX9_manyAt ∈ pm_ws := List.mem_filter.mpr ⟨List.mem_append_right _ (List.mem_of_getElem? (i := 821) (by decide +kernel)), by decide +kernel⟩
theorem wd_828 : Cond.code yX9_sameTo cX9_sameTo 8 (some .long) ∈ pm_ws := List.mem_filter.mpr ⟨List.mem_append_right _ (List.mem_of_getElem? (i := 828) (by decide +kernel)), by decide +kernel⟩
theorem wd_827 : Cond.instanceMethod yX9_sameTo ∈ pm_ws := List.mem_filter.mpr ⟨List.mem_append_right _ (List.mem_of_getElem? (i := 827) (by decide +kernel)), by decide +kernel⟩
theorem wp_29 : Cond.selects RX9 yX9_sameTo yX9_sameTo ∈ pm_ws := List.mem_filter.mpr ⟨List.mem_append_left _ (List.mem_of_getElem? (i := 29) (by decide +kernel)), by decide +kernel⟩
theorem wd_825 : Cond.methodLink RX9 186 yX9_sameTo ∈ pm_ws := List.mem_filter.mpr ⟨List.mem_append_right _ (List.mem_of_getElem? (i := 825) (by decide +kernel)), by decide +kernel⟩
theorem wd_687 : Cond.fieldLink RX9 190 "DoubtTimeModel" "rowEnd" "J" ∈ pm_ws := List.mem_filter.mpr ⟨List.mem_append_right _ (List.mem_of_getElem? (i := 687) (by decide +kernel)), by decide +kernel⟩
theorem wd_858 : Cond.constantLong RX9 193 (-2000000000000) ∈ pm_ws := List.mem_filter.mpr ⟨List.mem_append_right _ (List.mem_of_getElem? (i := 858) (by decide +kernel)), by decide +kernel⟩
theorem wd_859 : Cond.constantLong RX9 195 (-2000000000001) ∈ pm_ws := List.mem_filter.mpr ⟨List.mem_append_right _ (List.mem_of_getElem? (i := 859) (by decide +kernel)), by decide +kernel⟩
theorem wd_872 : Cond.constantLong RX9 197 (2000000000000) ∈ pm_ws := List.mem_filter.mpr ⟨List.mem_append_right _ (List.mem_of_getElem? (i := 872) (by decide +kernel)), by decide +kernel⟩
theorem wd_881 : Cond.constantLong RX9 199 (16) ∈ pm_ws := List.mem_filter.mpr ⟨List.mem_append_right _ (List.mem_of_getElem? (i := 881) (by decide +kernel)), by decide +kernel⟩
theorem wd_885 : Cond.code yX9_latest cX9_latest 1 (some .long) ∈ pm_ws := List.mem_filter.mpr ⟨List.mem_append_right _ (List.mem_of_getElem? (i := 885) (by decide +kernel)), by decide +kernel⟩
theorem wd_884 : Cond.instanceMethod yX9_latest ∈ pm_ws := List.mem_filter.mpr ⟨List.mem_append_right _ (List.mem_of_getElem? (i := 884) (by decide +kernel)), by decide +kernel⟩
theorem wp_33 : Cond.selects RX9 yX9_latest yX9_latest ∈ pm_ws := List.mem_filter.mpr ⟨List.mem_append_left _ (List.mem_of_getElem? (i := 33) (by decide +kernel)), by decide +kernel⟩
theorem wd_882 : Cond.methodLink RX9 201 yX9_latest ∈ pm_ws := List.mem_filter.mpr ⟨List.mem_append_right _ (List.mem_of_getElem? (i := 882) (by decide +kernel)), by decide +kernel⟩
theorem wd_893 : Cond.code yX9_isCommit cX9_isCommit 2 (some .boolean) ∈ pm_ws := List.mem_filter.mpr ⟨List.mem_append_right _ (List.mem_of_getElem? (i := 893) (by decide +kernel)), by decide +kernel⟩
theorem wd_892 : Cond.instanceMethod yX9_isCommit ∈ pm_ws := List.mem_filter.mpr ⟨List.mem_append_right _ (List.mem_of_getElem? (i := 892) (by decide +kernel)), by decide +kernel⟩
theorem wp_34 : Cond.selects RX9 yX9_isCommit yX9_isCommit ∈ pm_ws := List.mem_filter.mpr ⟨List.mem_append_left _ (List.mem_of_getElem? (i := 34) (by decide +kernel)), by decide +kernel⟩
theorem wd_890 : Cond.methodLink RX9 204 yX9_isCommit ∈ pm_ws := List.mem_filter.mpr ⟨List.mem_append_right _ (List.mem_of_getElem? (i := 890) (by decide +kernel)), by decide +kernel⟩
theorem wd_894 : Cond.constantLong RX9 207 (4) ∈ pm_ws := List.mem_filter.mpr ⟨List.mem_append_right _ (List.mem_of_getElem? (i := 894) (by decide +kernel)), by decide +kernel⟩
theorem wd_907 : Cond.constantLong RX9 209 (8000000000000) ∈ pm_ws := List.mem_filter.mpr ⟨List.mem_append_right _ (List.mem_of_getElem? (i := 907) (by decide +kernel)), by decide +kernel⟩
theorem wd_906 : Cond.code yX9_safeNow cX9_safeNow 5 (some .long) ∈ pm_ws := List.mem_filter.mpr ⟨List.mem_append_right _ (List.mem_of_getElem? (i := 906) (by decide +kernel)), by decide +kernel⟩
theorem wd_905 : Cond.instanceMethod yX9_safeNow ∈ pm_ws := List.mem_filter.mpr ⟨List.mem_append_right _ (List.mem_of_getElem? (i := 905) (by decide +kernel)), by decide +kernel⟩
theorem wp_35 : Cond.selects RX9 yX9_safeNow yX9_safeNow ∈ pm_ws := List.mem_filter.mpr ⟨List.mem_append_left _ (List.mem_of_getElem? (i := 35) (by decide +kernel)), by decide +kernel⟩
theorem wd_903 : Cond.methodLink RX9 211 yX9_safeNow ∈ pm_ws := List.mem_filter.mpr ⟨List.mem_append_right _ (List.mem_of_getElem? (i := 903) (by decide +kernel)), by decide +kernel⟩
theorem wd_920 : Cond.constantLong RX9 214 (3) ∈ pm_ws := List.mem_filter.mpr ⟨List.mem_append_right _ (List.mem_of_getElem? (i := 920) (by decide +kernel)), by decide +kernel⟩
theorem wd_928 : Cond.code yX9_smear cX9_smear 7 (some .long) ∈ pm_ws := List.mem_filter.mpr ⟨List.mem_append_right _ (List.mem_of_getElem? (i := 928) (by decide +kernel)), by decide +kernel⟩
theorem wd_927 : Cond.instanceMethod yX9_smear ∈ pm_ws := List.mem_filter.mpr ⟨List.mem_append_right _ (List.mem_of_getElem? (i := 927) (by decide +kernel)), by decide +kernel⟩
theorem wp_36 : Cond.selects RX9 yX9_smear yX9_smear ∈ pm_ws := List.mem_filter.mpr ⟨List.mem_append_left _ (List.mem_of_getElem? (i := 36) (by decide +kernel)), by decide +kernel⟩
theorem wd_925 : Cond.methodLink RX9 216 yX9_smear ∈ pm_ws := List.mem_filter.mpr ⟨List.mem_append_right _ (List.mem_of_getElem? (i := 925) (by decide +kernel)), by decide +kernel⟩
theorem wd_933 : Cond.constantLong RX9 219 (2) ∈ pm_ws := List.mem_filter.mpr ⟨List.mem_append_right _ (List.mem_of_getElem? (i := 933) (by decide +kernel)), by decide +kernel⟩
theorem wd_386 : Cond.constant RJ6 265 (1431655765) ∈ pm_ws := List.mem_filter.mpr ⟨List.mem_append_right _ (List.mem_of_getElem? (i := 386) (by decide +kernel)), by decide +kernel⟩
theorem wd_387 : Cond.constant RJ6 266 (858993459) ∈ pm_ws := List.mem_filter.mpr ⟨List.mem_append_right _ (List.mem_of_getElem? (i := 387) (by decide +kernel)), by decide +kernel⟩
theorem wd_388 : Cond.constant RJ6 267 (252645135) ∈ pm_ws := List.mem_filter.mpr ⟨List.mem_append_right _ (List.mem_of_getElem? (i := 388) (by decide +kernel)), by decide +kernel⟩
theorem wd_939 : Cond.fieldLink RJ0 9 "java/lang/String" "value" "[B" ∈ pm_ws := List.mem_filter.mpr ⟨List.mem_append_right _ (List.mem_of_getElem? (i := 939) (by decide +kernel)), by decide +kernel⟩
theorem wd_222 : Cond.code yJ0_coder_7d493 cJ0_coder_7d493 1 (some .byte) ∈ pm_ws := List.mem_filter.mpr ⟨List.mem_append_right _ (List.mem_of_getElem? (i := 222) (by decide +kernel)), by decide +kernel⟩
theorem wd_220 : Cond.instanceMethod yJ0_coder_7d493 ∈ pm_ws := List.mem_filter.mpr ⟨List.mem_append_right _ (List.mem_of_getElem? (i := 220) (by decide +kernel)), by decide +kernel⟩
theorem wd_221 : Cond.selects RJ0 yJ0_coder_7d493 yJ0_coder_7d493 ∈ pm_ws := List.mem_filter.mpr ⟨List.mem_append_right _ (List.mem_of_getElem? (i := 221) (by decide +kernel)), by decide +kernel⟩
theorem wd_219 : Cond.methodLink RJ0 335 yJ0_coder_7d493 ∈ pm_ws := List.mem_filter.mpr ⟨List.mem_append_right _ (List.mem_of_getElem? (i := 219) (by decide +kernel)), by decide +kernel⟩
theorem wd_232 : Cond.code yJ0_isLatin1_aae02 cJ0_isLatin1_aae02 1 (some .boolean) ∈ pm_ws := List.mem_filter.mpr ⟨List.mem_append_right _ (List.mem_of_getElem? (i := 232) (by decide +kernel)), by decide +kernel⟩
theorem wd_230 : Cond.instanceMethod yJ0_isLatin1_aae02 ∈ pm_ws := List.mem_filter.mpr ⟨List.mem_append_right _ (List.mem_of_getElem? (i := 230) (by decide +kernel)), by decide +kernel⟩
theorem wd_231 : Cond.selects RJ0 yJ0_isLatin1_aae02 yJ0_isLatin1_aae02 ∈ pm_ws := List.mem_filter.mpr ⟨List.mem_append_right _ (List.mem_of_getElem? (i := 231) (by decide +kernel)), by decide +kernel⟩
theorem wd_229 : Cond.methodLink RJ0 492 yJ0_isLatin1_aae02 ∈ pm_ws := List.mem_filter.mpr ⟨List.mem_append_right _ (List.mem_of_getElem? (i := 229) (by decide +kernel)), by decide +kernel⟩
theorem wd_235 : Cond.code yJ1_charAt_3b067 cJ1_charAt_3b067 2 (some .char) ∈ pm_ws := List.mem_filter.mpr ⟨List.mem_append_right _ (List.mem_of_getElem? (i := 235) (by decide +kernel)), by decide +kernel⟩
theorem wd_11 : Cond.initialized RJ1 ∈ pm_ws := List.mem_filter.mpr ⟨List.mem_append_right _ (List.mem_of_getElem? (i := 11) (by decide +kernel)), by decide +kernel⟩
theorem wd_234 : Cond.static yJ1_charAt_3b067 ∈ pm_ws := List.mem_filter.mpr ⟨List.mem_append_right _ (List.mem_of_getElem? (i := 234) (by decide +kernel)), by decide +kernel⟩
theorem wd_233 : Cond.methodLink RJ0 495 yJ1_charAt_3b067 ∈ pm_ws := List.mem_filter.mpr ⟨List.mem_append_right _ (List.mem_of_getElem? (i := 233) (by decide +kernel)), by decide +kernel⟩
theorem wd_223 : Cond.fieldLink RJ0 38 "java/lang/String" "COMPACT_STRINGS" "Z" ∈ pm_ws := List.mem_filter.mpr ⟨List.mem_append_right _ (List.mem_of_getElem? (i := 223) (by decide +kernel)), by decide +kernel⟩
theorem wd_940 : Cond.fieldLink RJ0 15 "java/lang/String" "coder" "B" ∈ pm_ws := List.mem_filter.mpr ⟨List.mem_append_right _ (List.mem_of_getElem? (i := 940) (by decide +kernel)), by decide +kernel⟩
theorem wd_239 : Cond.fieldLink RJ0 1053 "jdk/internal/util/Preconditions" "SIOOBE_FORMATTER" "Ljava/util/function/BiFunction;" ∈ pm_ws := List.mem_filter.mpr ⟨List.mem_append_right _ (List.mem_of_getElem? (i := 239) (by decide +kernel)), by decide +kernel⟩
theorem wd_243 : Cond.code yJ3_checkIndex_8e157 cJ3_checkIndex_8e157 3 (some .int) ∈ pm_ws := List.mem_filter.mpr ⟨List.mem_append_right _ (List.mem_of_getElem? (i := 243) (by decide +kernel)), by decide +kernel⟩
theorem wd_12 : Cond.initialized RJ3 ∈ pm_ws := List.mem_filter.mpr ⟨List.mem_append_right _ (List.mem_of_getElem? (i := 12) (by decide +kernel)), by decide +kernel⟩
theorem wd_242 : Cond.static yJ3_checkIndex_8e157 ∈ pm_ws := List.mem_filter.mpr ⟨List.mem_append_right _ (List.mem_of_getElem? (i := 242) (by decide +kernel)), by decide +kernel⟩
theorem wd_241 : Cond.methodLink RJ0 1059 yJ3_checkIndex_8e157 ∈ pm_ws := List.mem_filter.mpr ⟨List.mem_append_right _ (List.mem_of_getElem? (i := 241) (by decide +kernel)), by decide +kernel⟩
theorem wd_238 : Cond.code yJ0_checkIndex_df160 cJ0_checkIndex_df160 2 none ∈ pm_ws := List.mem_filter.mpr ⟨List.mem_append_right _ (List.mem_of_getElem? (i := 238) (by decide +kernel)), by decide +kernel⟩
theorem wd_237 : Cond.static yJ0_checkIndex_df160 ∈ pm_ws := List.mem_filter.mpr ⟨List.mem_append_right _ (List.mem_of_getElem? (i := 237) (by decide +kernel)), by decide +kernel⟩
theorem wd_236 : Cond.methodLink RJ1 9 yJ0_checkIndex_df160 ∈ pm_ws := List.mem_filter.mpr ⟨List.mem_append_right _ (List.mem_of_getElem? (i := 236) (by decide +kernel)), by decide +kernel⟩
theorem ci_0 : ∀ w ∈ u_ws RX0 TX0 5, w ∈ pm_ws := by decide +kernel
theorem cl_0 : pm_Cl 0 RX0 TX0 5 tyX0 := ⟨rfl, ci_0, tyX0_ok, nmX0⟩
theorem ci_1 : ∀ w ∈ u_ws RX1 TX1 7, w ∈ pm_ws := by decide +kernel
theorem cl_1 : pm_Cl 1 RX1 TX1 7 tyX1 := ⟨rfl, ci_1, tyX1_ok, nmX1⟩
theorem ci_2 : ∀ w ∈ u_ws RX2 TX2 3, w ∈ pm_ws := by decide +kernel
theorem cl_2 : pm_Cl 2 RX2 TX2 3 tyX2 := ⟨rfl, ci_2, tyX2_ok, nmX2⟩
theorem ci_3 : ∀ w ∈ u_ws RX3 TX3 4, w ∈ pm_ws := by decide +kernel
theorem cl_3 : pm_Cl 3 RX3 TX3 4 tyX3 := ⟨rfl, ci_3, tyX3_ok, nmX3⟩
theorem ci_4 : ∀ w ∈ u_ws RX4 TX4 6, w ∈ pm_ws := by decide +kernel
theorem cl_4 : pm_Cl 4 RX4 TX4 6 tyX4 := ⟨rfl, ci_4, tyX4_ok, nmX4⟩
theorem ci_5 : ∀ w ∈ u_ws RX5 TX5 3, w ∈ pm_ws := by decide +kernel
theorem cl_5 : pm_Cl 5 RX5 TX5 3 tyX5 := ⟨rfl, ci_5, tyX5_ok, nmX5⟩
theorem ci_6 : ∀ w ∈ u_ws RX6 TX6 3, w ∈ pm_ws := by decide +kernel
theorem cl_6 : pm_Cl 6 RX6 TX6 3 tyX6 := ⟨rfl, ci_6, tyX6_ok, nmX6⟩
theorem ci_7 : ∀ w ∈ u_ws RX7 TX7 2, w ∈ pm_ws := by decide +kernel
theorem cl_7 : pm_Cl 7 RX7 TX7 2 tyX7 := ⟨rfl, ci_7, tyX7_ok, nmX7⟩
theorem ci_8 : ∀ w ∈ u_ws RX8 TX8 6, w ∈ pm_ws := by decide +kernel
theorem cl_8 : pm_Cl 8 RX8 TX8 6 tyX8 := ⟨rfl, ci_8, tyX8_ok, nmX8⟩
theorem ci_9 : ∀ w ∈ u_ws RX9 TX9 15, w ∈ pm_ws := by decide +kernel
theorem cl_9 : pm_Cl 9 RX9 TX9 15 tyX9 := ⟨rfl, ci_9, tyX9_ok, nmX9⟩
theorem ce_X8_init : pm_Ce 52 0 := ⟨wd_22, wd_1, ⟨by decide +kernel, by decide +kernel, by decide +kernel⟩, by decide +kernel, by decide⟩
theorem ce_X9_init : pm_Ce 88 0 := ⟨wd_645, wd_14, ⟨by decide +kernel, by decide +kernel, by decide +kernel⟩, by decide +kernel, by decide⟩
theorem ce_X8_write : pm_Ce 53 1 := ⟨wd_364, wd_1, ⟨by decide +kernel, by decide +kernel, by decide +kernel⟩, by decide +kernel, by decide⟩
theorem ce_X9_write : pm_Ce 100 1 := ⟨wd_722, wd_14, ⟨by decide +kernel, by decide +kernel, by decide +kernel⟩, by decide +kernel, by decide⟩
theorem ce_X8_wipe : pm_Ce 54 0 := ⟨wd_369, wd_1, ⟨by decide +kernel, by decide +kernel, by decide +kernel⟩, by decide +kernel, by decide⟩
theorem ce_X9_wipe : pm_Ce 101 0 := ⟨wd_731, wd_14, ⟨by decide +kernel, by decide +kernel, by decide +kernel⟩, by decide +kernel, by decide⟩
theorem ce_X8_fault : pm_Ce 55 0 := ⟨wd_373, wd_1, ⟨by decide +kernel, by decide +kernel, by decide +kernel⟩, by decide +kernel, by decide⟩
theorem ce_X9_fault : pm_Ce 102 0 := ⟨wd_735, wd_14, ⟨by decide +kernel, by decide +kernel, by decide +kernel⟩, by decide +kernel, by decide⟩
theorem ce_X8_lay : pm_Ce 56 0 := ⟨wd_377, wd_1, ⟨by decide +kernel, by decide +kernel, by decide +kernel⟩, by decide +kernel, by decide⟩
theorem ce_X9_lay : pm_Ce 103 0 := ⟨wd_772, wd_14, ⟨by decide +kernel, by decide +kernel, by decide +kernel⟩, by decide +kernel, by decide⟩
theorem ce_X8_tell : pm_Ce 59 3 := ⟨wd_392, wd_1, ⟨by decide +kernel, by decide +kernel, by decide +kernel⟩, by decide +kernel, by decide⟩
theorem ce_X9_tell : pm_Ce 110 3 := ⟨wd_792, wd_14, ⟨by decide +kernel, by decide +kernel, by decide +kernel⟩, by decide +kernel, by decide⟩
theorem ce_X8_strike : pm_Ce 60 2 := ⟨wd_421, wd_1, ⟨by decide +kernel, by decide +kernel, by decide +kernel⟩, by decide +kernel, by decide⟩
theorem ce_X9_strike : pm_Ce 111 2 := ⟨wd_803, wd_14, ⟨by decide +kernel, by decide +kernel, by decide +kernel⟩, by decide +kernel, by decide⟩
theorem ce_X8_strikeLiars : pm_Ce 61 0 := ⟨wd_425, wd_1, ⟨by decide +kernel, by decide +kernel, by decide +kernel⟩, by decide +kernel, by decide⟩
theorem ce_X9_strikeLiars : pm_Ce 112 0 := ⟨wd_807, wd_14, ⟨by decide +kernel, by decide +kernel, by decide +kernel⟩, by decide +kernel, by decide⟩
theorem ce_X8_drift : pm_Ce 62 1 := ⟨wd_486, wd_1, ⟨by decide +kernel, by decide +kernel, by decide +kernel⟩, by decide +kernel, by decide⟩
theorem ce_X9_drift : pm_Ce 113 1 := ⟨wd_835, wd_14, ⟨by decide +kernel, by decide +kernel, by decide +kernel⟩, by decide +kernel, by decide⟩
theorem ce_X8_go : pm_Ce 63 1 := ⟨wd_491, wd_1, ⟨by decide +kernel, by decide +kernel, by decide +kernel⟩, by decide +kernel, by decide⟩
theorem ce_X9_go : pm_Ce 114 1 := ⟨wd_839, wd_14, ⟨by decide +kernel, by decide +kernel, by decide +kernel⟩, by decide +kernel, by decide⟩
theorem ce_X8_undo : pm_Ce 65 0 := ⟨wd_511, wd_1, ⟨by decide +kernel, by decide +kernel, by decide +kernel⟩, by decide +kernel, by decide⟩
theorem ce_X9_undo : pm_Ce 105 0 := ⟨wd_788, wd_14, ⟨by decide +kernel, by decide +kernel, by decide +kernel⟩, by decide +kernel, by decide⟩
theorem ce_X8_span : pm_Ce 66 2 := ⟨wd_519, wd_1, ⟨by decide +kernel, by decide +kernel, by decide +kernel⟩, by decide +kernel, by decide⟩
theorem ce_X9_span : pm_Ce 121 2 := ⟨wd_857, wd_14, ⟨by decide +kernel, by decide +kernel, by decide +kernel⟩, by decide +kernel, by decide⟩
theorem ce_X8_agreed : pm_Ce 67 1 := ⟨wd_531, wd_1, ⟨by decide +kernel, by decide +kernel, by decide +kernel⟩, by decide +kernel, by decide⟩
theorem ce_X9_agreed : pm_Ce 122 1 := ⟨wd_863, wd_14, ⟨by decide +kernel, by decide +kernel, by decide +kernel⟩, by decide +kernel, by decide⟩
theorem ce_X8_good : pm_Ce 68 0 := ⟨wd_535, wd_1, ⟨by decide +kernel, by decide +kernel, by decide +kernel⟩, by decide +kernel, by decide⟩
theorem ce_X9_good : pm_Ce 123 0 := ⟨wd_867, wd_14, ⟨by decide +kernel, by decide +kernel, by decide +kernel⟩, by decide +kernel, by decide⟩
theorem ce_X8_in : pm_Ce 69 1 := ⟨wd_539, wd_1, ⟨by decide +kernel, by decide +kernel, by decide +kernel⟩, by decide +kernel, by decide⟩
theorem ce_X9_in : pm_Ce 124 1 := ⟨wd_871, wd_14, ⟨by decide +kernel, by decide +kernel, by decide +kernel⟩, by decide +kernel, by decide⟩
theorem ce_X8_liars : pm_Ce 70 0 := ⟨wd_429, wd_1, ⟨by decide +kernel, by decide +kernel, by decide +kernel⟩, by decide +kernel, by decide⟩
theorem ce_X9_liars : pm_Ce 126 0 := ⟨wd_876, wd_14, ⟨by decide +kernel, by decide +kernel, by decide +kernel⟩, by decide +kernel, by decide⟩
theorem ce_X8_commit : pm_Ce 72 2 := ⟨wd_549, wd_1, ⟨by decide +kernel, by decide +kernel, by decide +kernel⟩, by decide +kernel, by decide⟩
theorem ce_X9_commit : pm_Ce 130 2 := ⟨wd_880, wd_14, ⟨by decide +kernel, by decide +kernel, by decide +kernel⟩, by decide +kernel, by decide⟩
theorem ce_X8_commitOf : pm_Ce 73 2 := ⟨wd_568, wd_1, ⟨by decide +kernel, by decide +kernel, by decide +kernel⟩, by decide +kernel, by decide⟩
theorem ce_X9_commitOf : pm_Ce 132 2 := ⟨wd_889, wd_14, ⟨by decide +kernel, by decide +kernel, by decide +kernel⟩, by decide +kernel, by decide⟩
theorem ce_X8_waiting : pm_Ce 74 1 := ⟨wd_582, wd_1, ⟨by decide +kernel, by decide +kernel, by decide +kernel⟩, by decide +kernel, by decide⟩
theorem ce_X9_waiting : pm_Ce 133 1 := ⟨wd_898, wd_14, ⟨by decide +kernel, by decide +kernel, by decide +kernel⟩, by decide +kernel, by decide⟩
theorem ce_X8_safe : pm_Ce 75 0 := ⟨wd_586, wd_1, ⟨by decide +kernel, by decide +kernel, by decide +kernel⟩, by decide +kernel, by decide⟩
theorem ce_X9_safe : pm_Ce 135 0 := ⟨wd_902, wd_14, ⟨by decide +kernel, by decide +kernel, by decide +kernel⟩, by decide +kernel, by decide⟩
theorem ce_X8_read : pm_Ce 76 2 := ⟨wd_596, wd_1, ⟨by decide +kernel, by decide +kernel, by decide +kernel⟩, by decide +kernel, by decide⟩
theorem ce_X9_read : pm_Ce 136 2 := ⟨wd_911, wd_14, ⟨by decide +kernel, by decide +kernel, by decide +kernel⟩, by decide +kernel, by decide⟩
theorem ce_X8_between : pm_Ce 77 3 := ⟨wd_605, wd_1, ⟨by decide +kernel, by decide +kernel, by decide +kernel⟩, by decide +kernel, by decide⟩
theorem ce_X9_between : pm_Ce 137 3 := ⟨wd_915, wd_14, ⟨by decide +kernel, by decide +kernel, by decide +kernel⟩, by decide +kernel, by decide⟩
theorem ce_X8_leap : pm_Ce 78 1 := ⟨wd_613, wd_1, ⟨by decide +kernel, by decide +kernel, by decide +kernel⟩, by decide +kernel, by decide⟩
theorem ce_X9_leap : pm_Ce 138 1 := ⟨wd_919, wd_14, ⟨by decide +kernel, by decide +kernel, by decide +kernel⟩, by decide +kernel, by decide⟩
theorem ce_X8_smeared : pm_Ce 79 1 := ⟨wd_617, wd_1, ⟨by decide +kernel, by decide +kernel, by decide +kernel⟩, by decide +kernel, by decide⟩
theorem ce_X9_smeared : pm_Ce 140 1 := ⟨wd_924, wd_14, ⟨by decide +kernel, by decide +kernel, by decide +kernel⟩, by decide +kernel, by decide⟩
theorem ce_X8_back : pm_Ce 80 1 := ⟨wd_629, wd_1, ⟨by decide +kernel, by decide +kernel, by decide +kernel⟩, by decide +kernel, by decide⟩
theorem ce_X9_back : pm_Ce 141 1 := ⟨wd_932, wd_14, ⟨by decide +kernel, by decide +kernel, by decide +kernel⟩, by decide +kernel, by decide⟩
theorem ce_X8_count : pm_Ce 81 1 := ⟨wd_640, wd_1, ⟨by decide +kernel, by decide +kernel, by decide +kernel⟩, by decide +kernel, by decide⟩
theorem ce_X9_count : pm_Ce 142 1 := ⟨wd_937, wd_14, ⟨by decide +kernel, by decide +kernel, by decide +kernel⟩, by decide +kernel, by decide⟩
theorem ce_X4_isHeard : pm_Ce 36 1 := ⟨wd_441, wd_5, ⟨by decide +kernel, by decide +kernel, by decide +kernel⟩, by decide +kernel, by decide⟩
theorem ce_X4_beginOf : pm_Ce 38 2 := ⟨wd_445, wd_5, ⟨by decide +kernel, by decide +kernel, by decide +kernel⟩, by decide +kernel, by decide⟩
theorem ce_X4_endOf : pm_Ce 39 2 := ⟨wd_454, wd_5, ⟨by decide +kernel, by decide +kernel, by decide +kernel⟩, by decide +kernel, by decide⟩
theorem ce_X0_findBegin : pm_Ce 3 0 := ⟨wd_458, wd_8, ⟨by decide +kernel, by decide +kernel, by decide +kernel⟩, by decide +kernel, by decide⟩
theorem ce_X0_howManyHold : pm_Ce 6 1 := ⟨wd_462, wd_8, ⟨by decide +kernel, by decide +kernel, by decide +kernel⟩, by decide +kernel, by decide⟩
theorem ce_X0_leastEndOver : pm_Ce 5 1 := ⟨wd_470, wd_8, ⟨by decide +kernel, by decide +kernel, by decide +kernel⟩, by decide +kernel, by decide⟩
theorem ce_X1_latestStamp : pm_Ce 16 0 := ⟨wd_561, wd_6, ⟨by decide +kernel, by decide +kernel, by decide +kernel⟩, by decide +kernel, by decide⟩
theorem ce_X7_letterAt : pm_Ce 51 1 := ⟨wd_300, wd_2, ⟨by decide +kernel, by decide +kernel, by decide +kernel⟩, by decide +kernel, by decide⟩
theorem ce_X2_howManyNumbers : pm_Ce 22 0 := ⟨wd_304, wd_3, ⟨by decide +kernel, by decide +kernel, by decide +kernel⟩, by decide +kernel, by decide⟩
theorem ce_X2_takeNumber : pm_Ce 23 3 := ⟨wd_308, wd_3, ⟨by decide +kernel, by decide +kernel, by decide +kernel⟩, by decide +kernel, by decide⟩
theorem ce_X2_areNumbersTold : pm_Ce 24 0 := ⟨wd_314, wd_3, ⟨by decide +kernel, by decide +kernel, by decide +kernel⟩, by decide +kernel, by decide⟩
theorem ce_X8_isDrift : pm_Ce 84 1 := ⟨wd_317, wd_1, ⟨by decide +kernel, by decide +kernel, by decide +kernel⟩, by decide +kernel, by decide⟩
theorem ce_X8_isMaster : pm_Ce 82 1 := ⟨wd_321, wd_1, ⟨by decide +kernel, by decide +kernel, by decide +kernel⟩, by decide +kernel, by decide⟩
theorem ce_X8_isToldSpan : pm_Ce 85 2 := ⟨wd_325, wd_1, ⟨by decide +kernel, by decide +kernel, by decide +kernel⟩, by decide +kernel, by decide⟩
theorem ce_X8_isLeap : pm_Ce 87 4 := ⟨wd_329, wd_1, ⟨by decide +kernel, by decide +kernel, by decide +kernel⟩, by decide +kernel, by decide⟩
theorem ce_X3_set : pm_Ce 27 4 := ⟨wd_292, wd_9, ⟨by decide +kernel, by decide +kernel, by decide +kernel⟩, by decide +kernel, by decide⟩
theorem ce_X3_shift : pm_Ce 29 1 := ⟨wd_625, wd_9, ⟨by decide +kernel, by decide +kernel, by decide +kernel⟩, by decide +kernel, by decide⟩
theorem ce_X3_smear : pm_Ce 28 1 := ⟨wd_621, wd_9, ⟨by decide +kernel, by decide +kernel, by decide +kernel⟩, by decide +kernel, by decide⟩
theorem ce_J6_bitCount_0f7a4 : pm_Ce 143 1 := ⟨wd_385, wd_15, ⟨by decide +kernel, by decide +kernel, by decide +kernel⟩, by decide +kernel, by decide⟩
theorem ce_X4_widening : pm_Ce 40 1 := ⟨wd_449, wd_5, ⟨by decide +kernel, by decide +kernel, by decide +kernel⟩, by decide +kernel, by decide⟩
theorem ce_X6_init : pm_Ce 45 0 := ⟨wd_65, wd_4, ⟨by decide +kernel, by decide +kernel, by decide +kernel⟩, by decide +kernel, by decide⟩
theorem ce_X6_copyFrom : pm_Ce 47 1 := ⟨wd_402, wd_4, ⟨by decide +kernel, by decide +kernel, by decide +kernel⟩, by decide +kernel, by decide⟩
theorem ce_X4_init : pm_Ce 31 0 := ⟨wd_71, wd_5, ⟨by decide +kernel, by decide +kernel, by decide +kernel⟩, by decide +kernel, by decide⟩
theorem ce_X1_init : pm_Ce 8 0 := ⟨wd_99, wd_6, ⟨by decide +kernel, by decide +kernel, by decide +kernel⟩, by decide +kernel, by decide⟩
theorem ce_X4_clear : pm_Ce 32 0 := ⟨wd_278, wd_5, ⟨by decide +kernel, by decide +kernel, by decide +kernel⟩, by decide +kernel, by decide⟩
theorem ce_X1_clear : pm_Ce 9 0 := ⟨wd_282, wd_6, ⟨by decide +kernel, by decide +kernel, by decide +kernel⟩, by decide +kernel, by decide⟩
theorem ce_X4_copyFrom : pm_Ce 33 1 := ⟨wd_406, wd_5, ⟨by decide +kernel, by decide +kernel, by decide +kernel⟩, by decide +kernel, by decide⟩
theorem ce_X1_copyFrom : pm_Ce 10 1 := ⟨wd_413, wd_6, ⟨by decide +kernel, by decide +kernel, by decide +kernel⟩, by decide +kernel, by decide⟩
theorem ce_J0_length_8abf5 : pm_Ce 144 0 := ⟨wd_218, wd_10, ⟨by decide +kernel, by decide +kernel, by decide +kernel⟩, by decide +kernel, by decide⟩
theorem ce_J0_charAt_5068e : pm_Ce 145 1 := ⟨wd_228, wd_10, ⟨by decide +kernel, by decide +kernel, by decide +kernel⟩, by decide +kernel, by decide⟩
theorem ce_X7_put : pm_Ce 49 1 := ⟨wd_266, wd_2, ⟨by decide +kernel, by decide +kernel, by decide +kernel⟩, by decide +kernel, by decide⟩
theorem ce_X7_init : pm_Ce 48 0 := ⟨wd_30, wd_2, ⟨by decide +kernel, by decide +kernel, by decide +kernel⟩, by decide +kernel, by decide⟩
theorem ce_X2_init : pm_Ce 20 0 := ⟨wd_45, wd_3, ⟨by decide +kernel, by decide +kernel, by decide +kernel⟩, by decide +kernel, by decide⟩
theorem ce_X5_init : pm_Ce 42 0 := ⟨wd_147, wd_7, ⟨by decide +kernel, by decide +kernel, by decide +kernel⟩, by decide +kernel, by decide⟩
theorem ce_X0_init : pm_Ce 1 0 := ⟨wd_167, wd_8, ⟨by decide +kernel, by decide +kernel, by decide +kernel⟩, by decide +kernel, by decide⟩
theorem ce_X3_init : pm_Ce 25 0 := ⟨wd_191, wd_9, ⟨by decide +kernel, by decide +kernel, by decide +kernel⟩, by decide +kernel, by decide⟩
theorem ce_X7_putAll : pm_Ce 50 1 := ⟨wd_214, wd_2, ⟨by decide +kernel, by decide +kernel, by decide +kernel⟩, by decide +kernel, by decide⟩
theorem ce_X8_layItems : pm_Ce 57 0 := ⟨wd_270, wd_1, ⟨by decide +kernel, by decide +kernel, by decide +kernel⟩, by decide +kernel, by decide⟩
theorem ce_X2_takeFrom : pm_Ce 21 2 := ⟨wd_296, wd_3, ⟨by decide +kernel, by decide +kernel, by decide +kernel⟩, by decide +kernel, by decide⟩
theorem ce_X4_howManyHeard : pm_Ce 37 0 := ⟨wd_382, wd_5, ⟨by decide +kernel, by decide +kernel, by decide +kernel⟩, by decide +kernel, by decide⟩
theorem ce_X6_clear : pm_Ce 46 0 := ⟨wd_274, wd_4, ⟨by decide +kernel, by decide +kernel, by decide +kernel⟩, by decide +kernel, by decide⟩
theorem ce_X3_clear : pm_Ce 26 0 := ⟨wd_286, wd_9, ⟨by decide +kernel, by decide +kernel, by decide +kernel⟩, by decide +kernel, by decide⟩
theorem ce_X8_layItem : pm_Ce 58 0 := ⟨wd_335, wd_1, ⟨by decide +kernel, by decide +kernel, by decide +kernel⟩, by decide +kernel, by decide⟩
theorem ce_X4_hear : pm_Ce 34 4 := ⟨wd_339, wd_5, ⟨by decide +kernel, by decide +kernel, by decide +kernel⟩, by decide +kernel, by decide⟩
theorem ce_X5_keep : pm_Ce 43 1 := ⟨wd_398, wd_7, ⟨by decide +kernel, by decide +kernel, by decide +kernel⟩, by decide +kernel, by decide⟩
theorem ce_X8_finishCommits : pm_Ce 64 0 := ⟨wd_495, wd_1, ⟨by decide +kernel, by decide +kernel, by decide +kernel⟩, by decide +kernel, by decide⟩
theorem ce_X1_howManyOpen : pm_Ce 13 0 := ⟨wd_499, wd_6, ⟨by decide +kernel, by decide +kernel, by decide +kernel⟩, by decide +kernel, by decide⟩
theorem ce_X8_lookAround : pm_Ce 71 0 := ⟨wd_433, wd_1, ⟨by decide +kernel, by decide +kernel, by decide +kernel⟩, by decide +kernel, by decide⟩
theorem ce_X0_isGood : pm_Ce 7 0 := ⟨wd_503, wd_8, ⟨by decide +kernel, by decide +kernel, by decide +kernel⟩, by decide +kernel, by decide⟩
theorem ce_X1_finishBelow : pm_Ce 15 2 := ⟨wd_507, wd_6, ⟨by decide +kernel, by decide +kernel, by decide +kernel⟩, by decide +kernel, by decide⟩
theorem ce_X5_giveBack : pm_Ce 44 1 := ⟨wd_515, wd_7, ⟨by decide +kernel, by decide +kernel, by decide +kernel⟩, by decide +kernel, by decide⟩
theorem ce_X4_hasTold : pm_Ce 35 1 := ⟨wd_524, wd_5, ⟨by decide +kernel, by decide +kernel, by decide +kernel⟩, by decide +kernel, by decide⟩
theorem ce_X0_endOfRow : pm_Ce 4 0 := ⟨wd_466, wd_8, ⟨by decide +kernel, by decide +kernel, by decide +kernel⟩, by decide +kernel, by decide⟩
theorem ce_X8_isAsked : pm_Ce 86 1 := ⟨wd_542, wd_1, ⟨by decide +kernel, by decide +kernel, by decide +kernel⟩, by decide +kernel, by decide⟩
theorem ce_X4_meets : pm_Ce 41 4 := ⟨wd_479, wd_5, ⟨by decide +kernel, by decide +kernel, by decide +kernel⟩, by decide +kernel, by decide⟩
theorem ce_X0_look : pm_Ce 2 2 := ⟨wd_437, wd_8, ⟨by decide +kernel, by decide +kernel, by decide +kernel⟩, by decide +kernel, by decide⟩
theorem ce_X8_isKey : pm_Ce 83 1 := ⟨wd_552, wd_1, ⟨by decide +kernel, by decide +kernel, by decide +kernel⟩, by decide +kernel, by decide⟩
theorem ce_X1_make : pm_Ce 14 4 := ⟨wd_557, wd_6, ⟨by decide +kernel, by decide +kernel, by decide +kernel⟩, by decide +kernel, by decide⟩
theorem ce_X1_has : pm_Ce 11 1 := ⟨wd_572, wd_6, ⟨by decide +kernel, by decide +kernel, by decide +kernel⟩, by decide +kernel, by decide⟩
theorem ce_X1_isOpen : pm_Ce 12 1 := ⟨wd_577, wd_6, ⟨by decide +kernel, by decide +kernel, by decide +kernel⟩, by decide +kernel, by decide⟩
theorem ce_X1_leastOpenStamp : pm_Ce 17 0 := ⟨wd_590, wd_6, ⟨by decide +kernel, by decide +kernel, by decide +kernel⟩, by decide +kernel, by decide⟩
theorem ce_X1_valueAsOf : pm_Ce 18 2 := ⟨wd_601, wd_6, ⟨by decide +kernel, by decide +kernel, by decide +kernel⟩, by decide +kernel, by decide⟩
theorem ce_X1_howManyStamped : pm_Ce 19 3 := ⟨wd_609, wd_6, ⟨by decide +kernel, by decide +kernel, by decide +kernel⟩, by decide +kernel, by decide⟩
theorem ce_X3_leastSmearedTo : pm_Ce 30 1 := ⟨wd_633, wd_9, ⟨by decide +kernel, by decide +kernel, by decide +kernel⟩, by decide +kernel, by decide⟩
theorem ce_X9_begin : pm_Ce 90 0 := ⟨wd_650, wd_14, ⟨by decide +kernel, by decide +kernel, by decide +kernel⟩, by decide +kernel, by decide⟩
theorem ce_X9_putMaster : pm_Ce 91 3 := ⟨wd_662, wd_14, ⟨by decide +kernel, by decide +kernel, by decide +kernel⟩, by decide +kernel, by decide⟩
theorem ce_X9_putLeap : pm_Ce 92 4 := ⟨wd_656, wd_14, ⟨by decide +kernel, by decide +kernel, by decide +kernel⟩, by decide +kernel, by decide⟩
theorem ce_X9_take : pm_Ce 93 0 := ⟨wd_672, wd_14, ⟨by decide +kernel, by decide +kernel, by decide +kernel⟩, by decide +kernel, by decide⟩
theorem ce_X9_within : pm_Ce 89 3 := ⟨wd_727, wd_14, ⟨by decide +kernel, by decide +kernel, by decide +kernel⟩, by decide +kernel, by decide⟩
theorem ce_X9_takeNumber : pm_Ce 94 0 := ⟨wd_747, wd_14, ⟨by decide +kernel, by decide +kernel, by decide +kernel⟩, by decide +kernel, by decide⟩
theorem ce_X9_takeSign : pm_Ce 95 1 := ⟨wd_761, wd_14, ⟨by decide +kernel, by decide +kernel, by decide +kernel⟩, by decide +kernel, by decide⟩
theorem ce_X9_readMaster : pm_Ce 96 0 := ⟨wd_757, wd_14, ⟨by decide +kernel, by decide +kernel, by decide +kernel⟩, by decide +kernel, by decide⟩
theorem ce_X9_readLeap : pm_Ce 97 0 := ⟨wd_767, wd_14, ⟨by decide +kernel, by decide +kernel, by decide +kernel⟩, by decide +kernel, by decide⟩
theorem ce_X9_readItem : pm_Ce 98 0 := ⟨wd_743, wd_14, ⟨by decide +kernel, by decide +kernel, by decide +kernel⟩, by decide +kernel, by decide⟩
theorem ce_X9_readText : pm_Ce 99 0 := ⟨wd_739, wd_14, ⟨by decide +kernel, by decide +kernel, by decide +kernel⟩, by decide +kernel, by decide⟩
theorem ce_X9_heardMany : pm_Ce 109 0 := ⟨wd_776, wd_14, ⟨by decide +kernel, by decide +kernel, by decide +kernel⟩, by decide +kernel, by decide⟩
theorem ce_X9_isStruck : pm_Ce 107 1 := ⟨wd_784, wd_14, ⟨by decide +kernel, by decide +kernel, by decide +kernel⟩, by decide +kernel, by decide⟩
theorem ce_X9_isHeard : pm_Ce 108 1 := ⟨wd_780, wd_14, ⟨by decide +kernel, by decide +kernel, by decide +kernel⟩, by decide +kernel, by decide⟩
theorem ce_X9_isMaster : pm_Ce 106 1 := ⟨wd_795, wd_14, ⟨by decide +kernel, by decide +kernel, by decide +kernel⟩, by decide +kernel, by decide⟩
theorem ce_X9_note : pm_Ce 104 0 := ⟨wd_799, wd_14, ⟨by decide +kernel, by decide +kernel, by decide +kernel⟩, by decide +kernel, by decide⟩
theorem ce_X9_liarsNow : pm_Ce 125 0 := ⟨wd_811, wd_14, ⟨by decide +kernel, by decide +kernel, by decide +kernel⟩, by decide +kernel, by decide⟩
theorem ce_X9_ones : pm_Ce 127 1 := ⟨wd_831, wd_14, ⟨by decide +kernel, by decide +kernel, by decide +kernel⟩, by decide +kernel, by decide⟩
theorem ce_X9_closeOpen : pm_Ce 115 0 := ⟨wd_844, wd_14, ⟨by decide +kernel, by decide +kernel, by decide +kernel⟩, by decide +kernel, by decide⟩
theorem ce_X9_openMany : pm_Ce 128 0 := ⟨wd_848, wd_14, ⟨by decide +kernel, by decide +kernel, by decide +kernel⟩, by decide +kernel, by decide⟩
theorem ce_X9_find : pm_Ce 119 1 := ⟨wd_815, wd_14, ⟨by decide +kernel, by decide +kernel, by decide +kernel⟩, by decide +kernel, by decide⟩
theorem ce_X9_isGood : pm_Ce 120 0 := ⟨wd_853, wd_14, ⟨by decide +kernel, by decide +kernel, by decide +kernel⟩, by decide +kernel, by decide⟩
theorem ce_X9_spanOf : pm_Ce 116 3 := ⟨wd_819, wd_14, ⟨by decide +kernel, by decide +kernel, by decide +kernel⟩, by decide +kernel, by decide⟩
theorem ce_X9_manyAt : pm_Ce 117 1 := ⟨wd_824, wd_14, ⟨by decide +kernel, by decide +kernel, by decide +kernel⟩, by decide +kernel, by decide⟩
theorem ce_X9_sameTo : pm_Ce 118 1 := ⟨wd_828, wd_14, ⟨by decide +kernel, by decide +kernel, by decide +kernel⟩, by decide +kernel, by decide⟩
theorem ce_X9_latest : pm_Ce 129 0 := ⟨wd_885, wd_14, ⟨by decide +kernel, by decide +kernel, by decide +kernel⟩, by decide +kernel, by decide⟩
theorem ce_X9_isCommit : pm_Ce 131 1 := ⟨wd_893, wd_14, ⟨by decide +kernel, by decide +kernel, by decide +kernel⟩, by decide +kernel, by decide⟩
theorem ce_X9_safeNow : pm_Ce 134 0 := ⟨wd_906, wd_14, ⟨by decide +kernel, by decide +kernel, by decide +kernel⟩, by decide +kernel, by decide⟩
theorem ce_X9_smear : pm_Ce 139 1 := ⟨wd_928, wd_14, ⟨by decide +kernel, by decide +kernel, by decide +kernel⟩, by decide +kernel, by decide⟩
theorem ce_J0_coder_7d493 : pm_Ce 146 0 := ⟨wd_222, wd_10, ⟨by decide +kernel, by decide +kernel, by decide +kernel⟩, by decide +kernel, by decide⟩
theorem ce_J0_isLatin1_aae02 : pm_Ce 147 0 := ⟨wd_232, wd_10, ⟨by decide +kernel, by decide +kernel, by decide +kernel⟩, by decide +kernel, by decide⟩
theorem ce_J1_charAt_3b067 : pm_Ce 149 2 := ⟨wd_235, wd_11, ⟨by decide +kernel, by decide +kernel, by decide +kernel⟩, by decide +kernel, by decide⟩
theorem ce_J3_checkIndex_8e157 : pm_Ce 150 3 := ⟨wd_243, wd_12, ⟨by decide +kernel, by decide +kernel, by decide +kernel⟩, by decide +kernel, by decide⟩
theorem ce_J0_checkIndex_df160 : pm_Ce 148 2 := ⟨wd_238, wd_10, ⟨by decide +kernel, by decide +kernel, by decide +kernel⟩, by decide +kernel, by decide⟩

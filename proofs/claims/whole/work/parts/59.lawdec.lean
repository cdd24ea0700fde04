theorem d_law_108 : decode code 108 = .ok (.aload_n 1, 1) := by decide +kernel
theorem a_law_109 : ArgAt 109 1 := ⟨by decide +kernel, by decide +kernel, by decide +kernel, by decide +kernel, by decide +kernel⟩
theorem a_law_115 : ArgAt 115 2 := ⟨by decide +kernel, by decide +kernel, by decide +kernel, by decide +kernel, by decide +kernel⟩
theorem a_law_121 : ArgAt 121 3 := ⟨by decide +kernel, by decide +kernel, by decide +kernel, by decide +kernel, by decide +kernel⟩
theorem a_law_127 : ArgAt 127 4 := ⟨by decide +kernel, by decide +kernel, by decide +kernel, by decide +kernel, by decide +kernel⟩
theorem d_law_133 : decode code 133 = .ok (.aload_n 3, 1) := by decide +kernel
theorem d_law_134 : decode code 134 = .ok (.invokestatic 49, 3) := by decide +kernel
theorem d_law_137 : decode code 137 = .ok (.istore 5, 2) := by decide +kernel
theorem d_law_139 : decode code 139 = .ok (.aload_n 2, 1) := by decide +kernel
theorem a_law_140 : ArgAt 140 1 := ⟨by decide +kernel, by decide +kernel, by decide +kernel, by decide +kernel, by decide +kernel⟩
theorem a_law_146 : ArgAt 146 2 := ⟨by decide +kernel, by decide +kernel, by decide +kernel, by decide +kernel, by decide +kernel⟩
theorem a_law_152 : ArgAt 152 3 := ⟨by decide +kernel, by decide +kernel, by decide +kernel, by decide +kernel, by decide +kernel⟩
theorem a_law_158 : ArgAt 158 4 := ⟨by decide +kernel, by decide +kernel, by decide +kernel, by decide +kernel, by decide +kernel⟩
theorem d_law_164 : decode code 164 = .ok (.invokevirtual 54, 3) := by decide +kernel
theorem t_law_167 : TailAt 167 640 := ⟨by decide +kernel, by decide +kernel, by decide +kernel, by decide +kernel, by decide +kernel, by decide +kernel, by decide +kernel, by decide +kernel, by decide +kernel, by decide +kernel, by decide +kernel, by decide +kernel, by decide +kernel, by decide +kernel, by decide +kernel, by decide⟩
theorem d_law_200 : decode code 200 = .ok (.aload_n 1, 1) := by decide +kernel
theorem a_law_201 : ArgAt 201 1 := ⟨by decide +kernel, by decide +kernel, by decide +kernel, by decide +kernel, by decide +kernel⟩
theorem d_law_207 : decode code 207 = .ok (.aload_n 3, 1) := by decide +kernel
theorem d_law_208 : decode code 208 = .ok (.invokestatic 59, 3) := by decide +kernel
theorem d_law_211 : decode code 211 = .ok (.istore 5, 2) := by decide +kernel
theorem d_law_213 : decode code 213 = .ok (.aload_n 2, 1) := by decide +kernel
theorem a_law_214 : ArgAt 214 1 := ⟨by decide +kernel, by decide +kernel, by decide +kernel, by decide +kernel, by decide +kernel⟩
theorem d_law_220 : decode code 220 = .ok (.invokevirtual 62, 3) := by decide +kernel
theorem t_law_223 : TailAt 223 584 := ⟨by decide +kernel, by decide +kernel, by decide +kernel, by decide +kernel, by decide +kernel, by decide +kernel, by decide +kernel, by decide +kernel, by decide +kernel, by decide +kernel, by decide +kernel, by decide +kernel, by decide +kernel, by decide +kernel, by decide +kernel, by decide⟩
theorem d_law_256 : decode code 256 = .ok (.aload_n 1, 1) := by decide +kernel
theorem a_law_257 : ArgAt 257 1 := ⟨by decide +kernel, by decide +kernel, by decide +kernel, by decide +kernel, by decide +kernel⟩
theorem a_law_263 : ArgAt 263 2 := ⟨by decide +kernel, by decide +kernel, by decide +kernel, by decide +kernel, by decide +kernel⟩
theorem a_law_269 : ArgAt 269 3 := ⟨by decide +kernel, by decide +kernel, by decide +kernel, by decide +kernel, by decide +kernel⟩
theorem a_law_275 : ArgAt 275 4 := ⟨by decide +kernel, by decide +kernel, by decide +kernel, by decide +kernel, by decide +kernel⟩
theorem a_law_281 : ArgAt 281 5 := ⟨by decide +kernel, by decide +kernel, by decide +kernel, by decide +kernel, by decide +kernel⟩
theorem d_law_287 : decode code 287 = .ok (.aload_n 3, 1) := by decide +kernel
theorem d_law_288 : decode code 288 = .ok (.invokestatic 63, 3) := by decide +kernel
theorem d_law_291 : decode code 291 = .ok (.istore 5, 2) := by decide +kernel
theorem d_law_293 : decode code 293 = .ok (.aload_n 2, 1) := by decide +kernel
theorem a_law_294 : ArgAt 294 1 := ⟨by decide +kernel, by decide +kernel, by decide +kernel, by decide +kernel, by decide +kernel⟩
theorem a_law_300 : ArgAt 300 2 := ⟨by decide +kernel, by decide +kernel, by decide +kernel, by decide +kernel, by decide +kernel⟩
theorem a_law_306 : ArgAt 306 3 := ⟨by decide +kernel, by decide +kernel, by decide +kernel, by decide +kernel, by decide +kernel⟩
theorem a_law_312 : ArgAt 312 4 := ⟨by decide +kernel, by decide +kernel, by decide +kernel, by decide +kernel, by decide +kernel⟩
theorem a_law_318 : ArgAt 318 5 := ⟨by decide +kernel, by decide +kernel, by decide +kernel, by decide +kernel, by decide +kernel⟩
theorem d_law_324 : decode code 324 = .ok (.invokevirtual 66, 3) := by decide +kernel
theorem t_law_327 : TailAt 327 480 := ⟨by decide +kernel, by decide +kernel, by decide +kernel, by decide +kernel, by decide +kernel, by decide +kernel, by decide +kernel, by decide +kernel, by decide +kernel, by decide +kernel, by decide +kernel, by decide +kernel, by decide +kernel, by decide +kernel, by decide +kernel, by decide⟩
theorem d_law_484 : decode code 484 = .ok (.aload_n 1, 1) := by decide +kernel
theorem a_law_485 : ArgAt 485 1 := ⟨by decide +kernel, by decide +kernel, by decide +kernel, by decide +kernel, by decide +kernel⟩
theorem a_law_491 : ArgAt 491 2 := ⟨by decide +kernel, by decide +kernel, by decide +kernel, by decide +kernel, by decide +kernel⟩
theorem d_law_497 : decode code 497 = .ok (.aload_n 3, 1) := by decide +kernel
theorem d_law_498 : decode code 498 = .ok (.invokestatic 86, 3) := by decide +kernel
theorem d_law_501 : decode code 501 = .ok (.istore 5, 2) := by decide +kernel
theorem d_law_503 : decode code 503 = .ok (.aload_n 2, 1) := by decide +kernel
theorem a_law_504 : ArgAt 504 1 := ⟨by decide +kernel, by decide +kernel, by decide +kernel, by decide +kernel, by decide +kernel⟩
theorem a_law_510 : ArgAt 510 2 := ⟨by decide +kernel, by decide +kernel, by decide +kernel, by decide +kernel, by decide +kernel⟩
theorem d_law_516 : decode code 516 = .ok (.invokevirtual 89, 3) := by decide +kernel
theorem t_law_519 : TailAt 519 288 := ⟨by decide +kernel, by decide +kernel, by decide +kernel, by decide +kernel, by decide +kernel, by decide +kernel, by decide +kernel, by decide +kernel, by decide +kernel, by decide +kernel, by decide +kernel, by decide +kernel, by decide +kernel, by decide +kernel, by decide +kernel, by decide⟩
theorem d_law_552 : decode code 552 = .ok (.aload_n 1, 1) := by decide +kernel
theorem a_law_553 : ArgAt 553 1 := ⟨by decide +kernel, by decide +kernel, by decide +kernel, by decide +kernel, by decide +kernel⟩
theorem a_law_559 : ArgAt 559 2 := ⟨by decide +kernel, by decide +kernel, by decide +kernel, by decide +kernel, by decide +kernel⟩
theorem d_law_565 : decode code 565 = .ok (.aload_n 3, 1) := by decide +kernel
theorem d_law_566 : decode code 566 = .ok (.invokestatic 90, 3) := by decide +kernel
theorem d_law_569 : decode code 569 = .ok (.istore 5, 2) := by decide +kernel
theorem d_law_571 : decode code 571 = .ok (.aload_n 2, 1) := by decide +kernel
theorem a_law_572 : ArgAt 572 1 := ⟨by decide +kernel, by decide +kernel, by decide +kernel, by decide +kernel, by decide +kernel⟩
theorem a_law_578 : ArgAt 578 2 := ⟨by decide +kernel, by decide +kernel, by decide +kernel, by decide +kernel, by decide +kernel⟩
theorem d_law_584 : decode code 584 = .ok (.invokevirtual 92, 3) := by decide +kernel
theorem t_law_587 : TailAt 587 220 := ⟨by decide +kernel, by decide +kernel, by decide +kernel, by decide +kernel, by decide +kernel, by decide +kernel, by decide +kernel, by decide +kernel, by decide +kernel, by decide +kernel, by decide +kernel, by decide +kernel, by decide +kernel, by decide +kernel, by decide +kernel, by decide⟩
theorem d_law_620 : decode code 620 = .ok (.aload_n 1, 1) := by decide +kernel
theorem a_law_621 : ArgAt 621 1 := ⟨by decide +kernel, by decide +kernel, by decide +kernel, by decide +kernel, by decide +kernel⟩
theorem a_law_627 : ArgAt 627 2 := ⟨by decide +kernel, by decide +kernel, by decide +kernel, by decide +kernel, by decide +kernel⟩
theorem d_law_633 : decode code 633 = .ok (.aload_n 3, 1) := by decide +kernel
theorem d_law_634 : decode code 634 = .ok (.invokestatic 93, 3) := by decide +kernel
theorem d_law_637 : decode code 637 = .ok (.istore 5, 2) := by decide +kernel
theorem d_law_639 : decode code 639 = .ok (.aload_n 2, 1) := by decide +kernel
theorem a_law_640 : ArgAt 640 1 := ⟨by decide +kernel, by decide +kernel, by decide +kernel, by decide +kernel, by decide +kernel⟩
theorem a_law_646 : ArgAt 646 2 := ⟨by decide +kernel, by decide +kernel, by decide +kernel, by decide +kernel, by decide +kernel⟩
theorem d_law_652 : decode code 652 = .ok (.invokevirtual 95, 3) := by decide +kernel
theorem t_law_655 : TailAt 655 152 := ⟨by decide +kernel, by decide +kernel, by decide +kernel, by decide +kernel, by decide +kernel, by decide +kernel, by decide +kernel, by decide +kernel, by decide +kernel, by decide +kernel, by decide +kernel, by decide +kernel, by decide +kernel, by decide +kernel, by decide +kernel, by decide⟩
theorem d_law_688 : decode code 688 = .ok (.aload_n 1, 1) := by decide +kernel
theorem a_law_689 : ArgAt 689 1 := ⟨by decide +kernel, by decide +kernel, by decide +kernel, by decide +kernel, by decide +kernel⟩
theorem d_law_695 : decode code 695 = .ok (.aload_n 3, 1) := by decide +kernel
theorem d_law_696 : decode code 696 = .ok (.invokestatic 96, 3) := by decide +kernel
theorem d_law_699 : decode code 699 = .ok (.istore 5, 2) := by decide +kernel
theorem d_law_701 : decode code 701 = .ok (.aload_n 2, 1) := by decide +kernel
theorem a_law_702 : ArgAt 702 1 := ⟨by decide +kernel, by decide +kernel, by decide +kernel, by decide +kernel, by decide +kernel⟩
theorem d_law_708 : decode code 708 = .ok (.invokevirtual 98, 3) := by decide +kernel
theorem t_law_711 : TailAt 711 96 := ⟨by decide +kernel, by decide +kernel, by decide +kernel, by decide +kernel, by decide +kernel, by decide +kernel, by decide +kernel, by decide +kernel, by decide +kernel, by decide +kernel, by decide +kernel, by decide +kernel, by decide +kernel, by decide +kernel, by decide +kernel, by decide⟩
theorem d_law_744 : decode code 744 = .ok (.aload_n 1, 1) := by decide +kernel
theorem a_law_745 : ArgAt 745 1 := ⟨by decide +kernel, by decide +kernel, by decide +kernel, by decide +kernel, by decide +kernel⟩
theorem a_law_751 : ArgAt 751 2 := ⟨by decide +kernel, by decide +kernel, by decide +kernel, by decide +kernel, by decide +kernel⟩
theorem d_law_757 : decode code 757 = .ok (.aload_n 3, 1) := by decide +kernel
theorem d_law_758 : decode code 758 = .ok (.invokestatic 99, 3) := by decide +kernel
theorem d_law_761 : decode code 761 = .ok (.istore 5, 2) := by decide +kernel
theorem d_law_763 : decode code 763 = .ok (.aload_n 2, 1) := by decide +kernel
theorem a_law_764 : ArgAt 764 1 := ⟨by decide +kernel, by decide +kernel, by decide +kernel, by decide +kernel, by decide +kernel⟩
theorem a_law_770 : ArgAt 770 2 := ⟨by decide +kernel, by decide +kernel, by decide +kernel, by decide +kernel, by decide +kernel⟩
theorem d_law_776 : decode code 776 = .ok (.invokevirtual 101, 3) := by decide +kernel
theorem t_law_779 : TailAt 779 28 := ⟨by decide +kernel, by decide +kernel, by decide +kernel, by decide +kernel, by decide +kernel, by decide +kernel, by decide +kernel, by decide +kernel, by decide +kernel, by decide +kernel, by decide +kernel, by decide +kernel, by decide +kernel, by decide +kernel, by decide +kernel, by decide⟩
theorem d_law_360 : decode code 360 = .ok (.aload_n 1, 1) := by decide +kernel
theorem a_law_361 : ArgAt 361 1 := ⟨by decide +kernel, by decide +kernel, by decide +kernel, by decide +kernel, by decide +kernel⟩
theorem a_law_367 : ArgAt 367 2 := ⟨by decide +kernel, by decide +kernel, by decide +kernel, by decide +kernel, by decide +kernel⟩
theorem a_law_373 : ArgAt 373 3 := ⟨by decide +kernel, by decide +kernel, by decide +kernel, by decide +kernel, by decide +kernel⟩
theorem d_law_379 : decode code 379 = .ok (.invokevirtual 67, 3) := by decide +kernel
theorem d_law_382 : decode code 382 = .ok (.aload_n 2, 1) := by decide +kernel
theorem a_law_383 : ArgAt 383 1 := ⟨by decide +kernel, by decide +kernel, by decide +kernel, by decide +kernel, by decide +kernel⟩
theorem a_law_389 : ArgAt 389 2 := ⟨by decide +kernel, by decide +kernel, by decide +kernel, by decide +kernel, by decide +kernel⟩
theorem a_law_395 : ArgAt 395 3 := ⟨by decide +kernel, by decide +kernel, by decide +kernel, by decide +kernel, by decide +kernel⟩
theorem d_law_401 : decode code 401 = .ok (.invokevirtual 71, 3) := by decide +kernel
theorem d_law_404 : decode code 404 = .ok (.if_icmp .eq 433, 3) := by decide +kernel
theorem d_law_409 : decode code 409 = .ok (.aload_n 1, 1) := by decide +kernel
theorem a_law_410 : ArgAt 410 1 := ⟨by decide +kernel, by decide +kernel, by decide +kernel, by decide +kernel, by decide +kernel⟩
theorem d_law_416 : decode code 416 = .ok (.invokevirtual 72, 3) := by decide +kernel
theorem d_law_419 : decode code 419 = .ok (.aload_n 2, 1) := by decide +kernel
theorem a_law_420 : ArgAt 420 1 := ⟨by decide +kernel, by decide +kernel, by decide +kernel, by decide +kernel, by decide +kernel⟩
theorem d_law_426 : decode code 426 = .ok (.invokevirtual 76, 3) := by decide +kernel
theorem d_law_429 : decode code 429 = .ok (.if_icmp .eq 408, 3) := by decide +kernel
theorem d_law_434 : decode code 434 = .ok (.aload_n 1, 1) := by decide +kernel
theorem a_law_435 : ArgAt 435 1 := ⟨by decide +kernel, by decide +kernel, by decide +kernel, by decide +kernel, by decide +kernel⟩
theorem a_law_441 : ArgAt 441 2 := ⟨by decide +kernel, by decide +kernel, by decide +kernel, by decide +kernel, by decide +kernel⟩
theorem d_law_447 : decode code 447 = .ok (.invokevirtual 77, 3) := by decide +kernel
theorem d_law_450 : decode code 450 = .ok (.aload_n 2, 1) := by decide +kernel
theorem a_law_451 : ArgAt 451 1 := ⟨by decide +kernel, by decide +kernel, by decide +kernel, by decide +kernel, by decide +kernel⟩
theorem a_law_457 : ArgAt 457 2 := ⟨by decide +kernel, by decide +kernel, by decide +kernel, by decide +kernel, by decide +kernel⟩
theorem d_law_463 : decode code 463 = .ok (.invokevirtual 81, 3) := by decide +kernel
theorem d_law_466 : decode code 466 = .ok (.if_icmp .eq 371, 3) := by decide +kernel
theorem d_law_471 : decode code 471 = .ok (.aload_n 1, 1) := by decide +kernel
theorem d_law_472 : decode code 472 = .ok (.invokevirtual 82, 3) := by decide +kernel
theorem d_law_475 : decode code 475 = .ok (.aload_n 2, 1) := by decide +kernel
theorem d_law_476 : decode code 476 = .ok (.invokevirtual 85, 3) := by decide +kernel
theorem d_law_479 : decode code 479 = .ok (.if_icmp .eq 358, 3) := by decide +kernel
theorem d_law_812 : decode code 812 = .ok (.aload_n 1, 1) := by decide +kernel
theorem a_law_813 : ArgAt 813 1 := ⟨by decide +kernel, by decide +kernel, by decide +kernel, by decide +kernel, by decide +kernel⟩
theorem d_law_819 : decode code 819 = .ok (.invokevirtual 102, 3) := by decide +kernel
theorem d_law_822 : decode code 822 = .ok (.aload_n 2, 1) := by decide +kernel
theorem a_law_823 : ArgAt 823 1 := ⟨by decide +kernel, by decide +kernel, by decide +kernel, by decide +kernel, by decide +kernel⟩
theorem d_law_829 : decode code 829 = .ok (.invokevirtual 105, 3) := by decide +kernel
theorem d_law_832 : decode code 832 = .ok (.if_icmp .eq 5, 3) := by decide +kernel

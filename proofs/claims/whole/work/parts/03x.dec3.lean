theorem d_X12_step_420 : decode (mC M_X12_step) 420 = .ok (.goto (-266), 3) := by decide +kernel
theorem d_X12_step_423 : decode (mC M_X12_step) 423 = .ok (.aload_n 0, 1) := by decide +kernel
theorem d_X12_step_424 : decode (mC M_X12_step) 424 = .ok (.getfield 151, 3) := by decide +kernel
theorem d_X12_step_427 : decode (mC M_X12_step) 427 = .ok (.istore 5, 2) := by decide +kernel
theorem d_X12_step_429 : decode (mC M_X12_step) 429 = .ok (.iload 5, 2) := by decide +kernel
theorem d_X12_step_431 : decode (mC M_X12_step) 431 = .ok (.bipush 40, 2) := by decide +kernel
theorem d_X12_step_433 : decode (mC M_X12_step) 433 = .ok (.if_icmp .ge 25, 3) := by decide +kernel
theorem d_X12_step_436 : decode (mC M_X12_step) 436 = .ok (.aload_n 0, 1) := by decide +kernel
theorem d_X12_step_437 : decode (mC M_X12_step) 437 = .ok (.getfield 118, 3) := by decide +kernel
theorem d_X12_step_440 : decode (mC M_X12_step) 440 = .ok (.bipush 40, 2) := by decide +kernel
theorem d_X12_step_442 : decode (mC M_X12_step) 442 = .ok (.aload_n 0, 1) := by decide +kernel
theorem d_X12_step_443 : decode (mC M_X12_step) 443 = .ok (.getfield 304, 3) := by decide +kernel
theorem d_X12_step_446 : decode (mC M_X12_step) 446 = .ok (.imul, 1) := by decide +kernel
theorem d_X12_step_447 : decode (mC M_X12_step) 447 = .ok (.iload 5, 2) := by decide +kernel
theorem d_X12_step_449 : decode (mC M_X12_step) 449 = .ok (.iadd, 1) := by decide +kernel
theorem d_X12_step_450 : decode (mC M_X12_step) 450 = .ok (.iconst (-1), 1) := by decide +kernel
theorem d_X12_step_451 : decode (mC M_X12_step) 451 = .ok (.iastore, 1) := by decide +kernel
theorem d_X12_step_452 : decode (mC M_X12_step) 452 = .ok (.iinc 5 1, 3) := by decide +kernel
theorem d_X12_step_455 : decode (mC M_X12_step) 455 = .ok (.goto (-26), 3) := by decide +kernel
theorem d_X12_step_458 : decode (mC M_X12_step) 458 = .ok (.aload_n 0, 1) := by decide +kernel
theorem d_X12_step_459 : decode (mC M_X12_step) 459 = .ok (.dup, 1) := by decide +kernel
theorem d_X12_step_460 : decode (mC M_X12_step) 460 = .ok (.getfield 304, 3) := by decide +kernel
theorem d_X12_step_463 : decode (mC M_X12_step) 463 = .ok (.iconst 1, 1) := by decide +kernel
theorem d_X12_step_464 : decode (mC M_X12_step) 464 = .ok (.iadd, 1) := by decide +kernel
theorem d_X12_step_465 : decode (mC M_X12_step) 465 = .ok (.putfield 304, 3) := by decide +kernel
theorem d_X12_step_468 : decode (mC M_X12_step) 468 = .ok (.aload_n 0, 1) := by decide +kernel
theorem d_X12_step_469 : decode (mC M_X12_step) 469 = .ok (.iconst 0, 1) := by decide +kernel
theorem d_X12_step_470 : decode (mC M_X12_step) 470 = .ok (.putfield 298, 3) := by decide +kernel
theorem d_X12_step_473 : decode (mC M_X12_step) 473 = .ok (.aload_n 0, 1) := by decide +kernel
theorem d_X12_step_474 : decode (mC M_X12_step) 474 = .ok (.invokevirtual 301, 3) := by decide +kernel
theorem d_X12_step_477 : decode (mC M_X12_step) 477 = .ok (.iload 4, 2) := by decide +kernel
theorem d_X12_step_479 : decode (mC M_X12_step) 479 = .ok (.ireturn, 1) := by decide +kernel
theorem d_X12_tell_0 : decode (mC M_X12_tell) 0 = .ok (.aload_n 0, 1) := by decide +kernel
theorem d_X12_tell_1 : decode (mC M_X12_tell) 1 = .ok (.iconst 0, 1) := by decide +kernel
theorem d_X12_tell_2 : decode (mC M_X12_tell) 2 = .ok (.putfield 1, 3) := by decide +kernel
theorem d_X12_tell_5 : decode (mC M_X12_tell) 5 = .ok (.aload_n 0, 1) := by decide +kernel
theorem d_X12_tell_6 : decode (mC M_X12_tell) 6 = .ok (.iload_n 1, 1) := by decide +kernel
theorem d_X12_tell_7 : decode (mC M_X12_tell) 7 = .ok (.invokevirtual 159, 3) := by decide +kernel
theorem d_X12_tell_10 : decode (mC M_X12_tell) 10 = .ok (.ifCond .eq 23, 3) := by decide +kernel
theorem d_X12_tell_13 : decode (mC M_X12_tell) 13 = .ok (.iload_n 2, 1) := by decide +kernel
theorem d_X12_tell_14 : decode (mC M_X12_tell) 14 = .ok (.iconst 0, 1) := by decide +kernel
theorem d_X12_tell_15 : decode (mC M_X12_tell) 15 = .ok (.bipush 19, 2) := by decide +kernel
theorem d_X12_tell_17 : decode (mC M_X12_tell) 17 = .ok (.invokestatic 154, 3) := by decide +kernel
theorem d_X12_tell_20 : decode (mC M_X12_tell) 20 = .ok (.ifCond .eq 13, 3) := by decide +kernel
theorem d_X12_tell_23 : decode (mC M_X12_tell) 23 = .ok (.aload_n 0, 1) := by decide +kernel
theorem d_X12_tell_24 : decode (mC M_X12_tell) 24 = .ok (.getfield 166, 3) := by decide +kernel
theorem d_X12_tell_27 : decode (mC M_X12_tell) 27 = .ok (.sipush 200, 3) := by decide +kernel
theorem d_X12_tell_30 : decode (mC M_X12_tell) 30 = .ok (.if_icmp .ne 5, 3) := by decide +kernel
theorem d_X12_tell_33 : decode (mC M_X12_tell) 33 = .ok (.iconst (-1), 1) := by decide +kernel
theorem d_X12_tell_34 : decode (mC M_X12_tell) 34 = .ok (.ireturn, 1) := by decide +kernel
theorem d_X12_tell_35 : decode (mC M_X12_tell) 35 = .ok (.aload_n 0, 1) := by decide +kernel
theorem d_X12_tell_36 : decode (mC M_X12_tell) 36 = .ok (.dup, 1) := by decide +kernel
theorem d_X12_tell_37 : decode (mC M_X12_tell) 37 = .ok (.getfield 166, 3) := by decide +kernel
theorem d_X12_tell_40 : decode (mC M_X12_tell) 40 = .ok (.iconst 1, 1) := by decide +kernel
theorem d_X12_tell_41 : decode (mC M_X12_tell) 41 = .ok (.iadd, 1) := by decide +kernel
theorem d_X12_tell_42 : decode (mC M_X12_tell) 42 = .ok (.putfield 166, 3) := by decide +kernel
theorem d_X12_tell_45 : decode (mC M_X12_tell) 45 = .ok (.aload_n 0, 1) := by decide +kernel
theorem d_X12_tell_46 : decode (mC M_X12_tell) 46 = .ok (.iload_n 1, 1) := by decide +kernel
theorem d_X12_tell_47 : decode (mC M_X12_tell) 47 = .ok (.iload_n 2, 1) := by decide +kernel
theorem d_X12_tell_48 : decode (mC M_X12_tell) 48 = .ok (.invokevirtual 169, 3) := by decide +kernel
theorem d_X12_tell_51 : decode (mC M_X12_tell) 51 = .ok (.ireturn, 1) := by decide +kernel
theorem d_X12_thrown_0 : decode (mC M_X12_thrown) 0 = .ok (.aload_n 0, 1) := by decide +kernel
theorem d_X12_thrown_1 : decode (mC M_X12_thrown) 1 = .ok (.getfield 1, 3) := by decide +kernel
theorem d_X12_thrown_4 : decode (mC M_X12_thrown) 4 = .ok (.ireturn, 1) := by decide +kernel
theorem d_X12_times_0 : decode (mC M_X12_times) 0 = .ok (.iconst 0, 1) := by decide +kernel
theorem d_X12_times_1 : decode (mC M_X12_times) 1 = .ok (.istore 4, 2) := by decide +kernel
theorem d_X12_times_3 : decode (mC M_X12_times) 3 = .ok (.iconst 0, 1) := by decide +kernel
theorem d_X12_times_4 : decode (mC M_X12_times) 4 = .ok (.istore 5, 2) := by decide +kernel
theorem d_X12_times_6 : decode (mC M_X12_times) 6 = .ok (.iload 5, 2) := by decide +kernel
theorem d_X12_times_8 : decode (mC M_X12_times) 8 = .ok (.iload_n 3, 1) := by decide +kernel
theorem d_X12_times_9 : decode (mC M_X12_times) 9 = .ok (.if_icmp .ge 34, 3) := by decide +kernel
theorem d_X12_times_12 : decode (mC M_X12_times) 12 = .ok (.aload_n 0, 1) := by decide +kernel
theorem d_X12_times_13 : decode (mC M_X12_times) 13 = .ok (.getfield 42, 3) := by decide +kernel
theorem d_X12_times_16 : decode (mC M_X12_times) 16 = .ok (.iload 5, 2) := by decide +kernel
theorem d_X12_times_18 : decode (mC M_X12_times) 18 = .ok (.iaload, 1) := by decide +kernel
theorem d_X12_times_19 : decode (mC M_X12_times) 19 = .ok (.iload_n 1, 1) := by decide +kernel
theorem d_X12_times_20 : decode (mC M_X12_times) 20 = .ok (.if_icmp .ne 17, 3) := by decide +kernel
theorem d_X12_times_23 : decode (mC M_X12_times) 23 = .ok (.aload_n 0, 1) := by decide +kernel
theorem d_X12_times_24 : decode (mC M_X12_times) 24 = .ok (.getfield 45, 3) := by decide +kernel
theorem d_X12_times_27 : decode (mC M_X12_times) 27 = .ok (.iload 5, 2) := by decide +kernel
theorem d_X12_times_29 : decode (mC M_X12_times) 29 = .ok (.iaload, 1) := by decide +kernel
theorem d_X12_times_30 : decode (mC M_X12_times) 30 = .ok (.iload_n 2, 1) := by decide +kernel
theorem d_X12_times_31 : decode (mC M_X12_times) 31 = .ok (.if_icmp .ne 6, 3) := by decide +kernel
theorem d_X12_times_34 : decode (mC M_X12_times) 34 = .ok (.iinc 4 1, 3) := by decide +kernel
theorem d_X12_times_37 : decode (mC M_X12_times) 37 = .ok (.iinc 5 1, 3) := by decide +kernel
theorem d_X12_times_40 : decode (mC M_X12_times) 40 = .ok (.goto (-34), 3) := by decide +kernel
theorem d_X12_times_43 : decode (mC M_X12_times) 43 = .ok (.iload 4, 2) := by decide +kernel
theorem d_X12_times_45 : decode (mC M_X12_times) 45 = .ok (.ireturn, 1) := by decide +kernel
theorem d_X12_wants_0 : decode (mC M_X12_wants) 0 = .ok (.aload_n 0, 1) := by decide +kernel
theorem d_X12_wants_1 : decode (mC M_X12_wants) 1 = .ok (.getfield 221, 3) := by decide +kernel
theorem d_X12_wants_4 : decode (mC M_X12_wants) 4 = .ok (.ifCond .eq 4, 3) := by decide +kernel
theorem d_X12_wants_7 : decode (mC M_X12_wants) 7 = .ok (.return_, 1) := by decide +kernel
theorem d_X12_wants_8 : decode (mC M_X12_wants) 8 = .ok (.aload_n 0, 1) := by decide +kernel
theorem d_X12_wants_9 : decode (mC M_X12_wants) 9 = .ok (.iload_n 1, 1) := by decide +kernel
theorem d_X12_wants_10 : decode (mC M_X12_wants) 10 = .ok (.invokevirtual 227, 3) := by decide +kernel
theorem d_X12_wants_13 : decode (mC M_X12_wants) 13 = .ok (.ifCond .eq 10, 3) := by decide +kernel
theorem d_X12_wants_16 : decode (mC M_X12_wants) 16 = .ok (.aload_n 0, 1) := by decide +kernel
theorem d_X12_wants_17 : decode (mC M_X12_wants) 17 = .ok (.invokevirtual 208, 3) := by decide +kernel
theorem d_X12_wants_20 : decode (mC M_X12_wants) 20 = .ok (.goto 8, 3) := by decide +kernel
theorem d_X12_wants_23 : decode (mC M_X12_wants) 23 = .ok (.aload_n 0, 1) := by decide +kernel
theorem d_X12_wants_24 : decode (mC M_X12_wants) 24 = .ok (.iconst 1, 1) := by decide +kernel
theorem d_X12_wants_25 : decode (mC M_X12_wants) 25 = .ok (.invokevirtual 230, 3) := by decide +kernel
theorem d_X12_wants_28 : decode (mC M_X12_wants) 28 = .ok (.return_, 1) := by decide +kernel
theorem d_X12_wants__0 : decode (mC M_X12_wants_) 0 = .ok (.aload_n 0, 1) := by decide +kernel
theorem d_X12_wants__1 : decode (mC M_X12_wants_) 1 = .ok (.getfield 221, 3) := by decide +kernel
theorem d_X12_wants__4 : decode (mC M_X12_wants_) 4 = .ok (.ifCond .eq 4, 3) := by decide +kernel
theorem d_X12_wants__7 : decode (mC M_X12_wants_) 7 = .ok (.return_, 1) := by decide +kernel
theorem d_X12_wants__8 : decode (mC M_X12_wants_) 8 = .ok (.aload_n 0, 1) := by decide +kernel
theorem d_X12_wants__9 : decode (mC M_X12_wants_) 9 = .ok (.aload_n 1, 1) := by decide +kernel
theorem d_X12_wants__10 : decode (mC M_X12_wants_) 10 = .ok (.invokevirtual 234, 3) := by decide +kernel
theorem d_X12_wants__13 : decode (mC M_X12_wants_) 13 = .ok (.ifCond .eq 10, 3) := by decide +kernel
theorem d_X12_wants__16 : decode (mC M_X12_wants_) 16 = .ok (.aload_n 0, 1) := by decide +kernel
theorem d_X12_wants__17 : decode (mC M_X12_wants_) 17 = .ok (.invokevirtual 208, 3) := by decide +kernel
theorem d_X12_wants__20 : decode (mC M_X12_wants_) 20 = .ok (.goto 8, 3) := by decide +kernel
theorem d_X12_wants__23 : decode (mC M_X12_wants_) 23 = .ok (.aload_n 0, 1) := by decide +kernel
theorem d_X12_wants__24 : decode (mC M_X12_wants_) 24 = .ok (.iconst 1, 1) := by decide +kernel
theorem d_X12_wants__25 : decode (mC M_X12_wants_) 25 = .ok (.invokevirtual 230, 3) := by decide +kernel
theorem d_X12_wants__28 : decode (mC M_X12_wants_) 28 = .ok (.return_, 1) := by decide +kernel
theorem d_X12_within_0 : decode (mC M_X12_within) 0 = .ok (.iload_n 0, 1) := by decide +kernel
theorem d_X12_within_1 : decode (mC M_X12_within) 1 = .ok (.iload_n 1, 1) := by decide +kernel
theorem d_X12_within_2 : decode (mC M_X12_within) 2 = .ok (.if_icmp .lt 12, 3) := by decide +kernel
theorem d_X12_within_5 : decode (mC M_X12_within) 5 = .ok (.iload_n 0, 1) := by decide +kernel
theorem d_X12_within_6 : decode (mC M_X12_within) 6 = .ok (.iload_n 2, 1) := by decide +kernel
theorem d_X12_within_7 : decode (mC M_X12_within) 7 = .ok (.if_icmp .gt 7, 3) := by decide +kernel
theorem d_X12_within_10 : decode (mC M_X12_within) 10 = .ok (.iconst 1, 1) := by decide +kernel
theorem d_X12_within_11 : decode (mC M_X12_within) 11 = .ok (.goto 4, 3) := by decide +kernel
theorem d_X12_within_14 : decode (mC M_X12_within) 14 = .ok (.iconst 0, 1) := by decide +kernel
theorem d_X12_within_15 : decode (mC M_X12_within) 15 = .ok (.ireturn, 1) := by decide +kernel
theorem d_X12_worth_0 : decode (mC M_X12_worth) 0 = .ok (.iconst 0, 1) := by decide +kernel
theorem d_X12_worth_1 : decode (mC M_X12_worth) 1 = .ok (.istore 4, 2) := by decide +kernel
theorem d_X12_worth_3 : decode (mC M_X12_worth) 3 = .ok (.bipush 8, 2) := by decide +kernel
theorem d_X12_worth_5 : decode (mC M_X12_worth) 5 = .ok (.iload_n 1, 1) := by decide +kernel
theorem d_X12_worth_6 : decode (mC M_X12_worth) 6 = .ok (.imul, 1) := by decide +kernel
theorem d_X12_worth_7 : decode (mC M_X12_worth) 7 = .ok (.istore 5, 2) := by decide +kernel
theorem d_X12_worth_9 : decode (mC M_X12_worth) 9 = .ok (.iload_n 1, 1) := by decide +kernel
theorem d_X12_worth_10 : decode (mC M_X12_worth) 10 = .ok (.iconst (-1), 1) := by decide +kernel
theorem d_X12_worth_11 : decode (mC M_X12_worth) 11 = .ok (.if_icmp .eq 159, 3) := by decide +kernel
theorem d_X12_worth_14 : decode (mC M_X12_worth) 14 = .ok (.iload 5, 2) := by decide +kernel
theorem d_X12_worth_16 : decode (mC M_X12_worth) 16 = .ok (.bipush 8, 2) := by decide +kernel
theorem d_X12_worth_18 : decode (mC M_X12_worth) 18 = .ok (.iload_n 1, 1) := by decide +kernel
theorem d_X12_worth_19 : decode (mC M_X12_worth) 19 = .ok (.imul, 1) := by decide +kernel
theorem d_X12_worth_20 : decode (mC M_X12_worth) 20 = .ok (.aload_n 0, 1) := by decide +kernel
theorem d_X12_worth_21 : decode (mC M_X12_worth) 21 = .ok (.getfield 103, 3) := by decide +kernel
theorem d_X12_worth_24 : decode (mC M_X12_worth) 24 = .ok (.iload_n 1, 1) := by decide +kernel
theorem d_X12_worth_25 : decode (mC M_X12_worth) 25 = .ok (.iaload, 1) := by decide +kernel
theorem d_X12_worth_26 : decode (mC M_X12_worth) 26 = .ok (.iadd, 1) := by decide +kernel
theorem d_X12_worth_27 : decode (mC M_X12_worth) 27 = .ok (.if_icmp .ge 143, 3) := by decide +kernel
theorem d_X12_worth_30 : decode (mC M_X12_worth) 30 = .ok (.aload_n 0, 1) := by decide +kernel
theorem d_X12_worth_31 : decode (mC M_X12_worth) 31 = .ok (.getfield 109, 3) := by decide +kernel
theorem d_X12_worth_34 : decode (mC M_X12_worth) 34 = .ok (.iload 5, 2) := by decide +kernel
theorem d_X12_worth_36 : decode (mC M_X12_worth) 36 = .ok (.iaload, 1) := by decide +kernel
theorem d_X12_worth_37 : decode (mC M_X12_worth) 37 = .ok (.istore 6, 2) := by decide +kernel
theorem d_X12_worth_39 : decode (mC M_X12_worth) 39 = .ok (.aload_n 0, 1) := by decide +kernel
theorem d_X12_worth_40 : decode (mC M_X12_worth) 40 = .ok (.getfield 112, 3) := by decide +kernel
theorem d_X12_worth_43 : decode (mC M_X12_worth) 43 = .ok (.iload 5, 2) := by decide +kernel
theorem d_X12_worth_45 : decode (mC M_X12_worth) 45 = .ok (.iaload, 1) := by decide +kernel
theorem d_X12_worth_46 : decode (mC M_X12_worth) 46 = .ok (.istore 7, 2) := by decide +kernel
theorem d_X12_worth_48 : decode (mC M_X12_worth) 48 = .ok (.aload_n 0, 1) := by decide +kernel
theorem d_X12_worth_49 : decode (mC M_X12_worth) 49 = .ok (.getfield 106, 3) := by decide +kernel
theorem d_X12_worth_52 : decode (mC M_X12_worth) 52 = .ok (.iload 5, 2) := by decide +kernel
theorem d_X12_worth_54 : decode (mC M_X12_worth) 54 = .ok (.iaload, 1) := by decide +kernel
theorem d_X12_worth_55 : decode (mC M_X12_worth) 55 = .ok (.tableswitch 87 0 2 #[25, 35, 62], 25) := by decide +kernel
theorem d_X12_worth_80 : decode (mC M_X12_worth) 80 = .ok (.iload 4, 2) := by decide +kernel
theorem d_X12_worth_82 : decode (mC M_X12_worth) 82 = .ok (.iload 7, 2) := by decide +kernel
theorem d_X12_worth_84 : decode (mC M_X12_worth) 84 = .ok (.iadd, 1) := by decide +kernel
theorem d_X12_worth_85 : decode (mC M_X12_worth) 85 = .ok (.istore 4, 2) := by decide +kernel
theorem d_X12_worth_87 : decode (mC M_X12_worth) 87 = .ok (.goto 77, 3) := by decide +kernel
theorem d_X12_worth_90 : decode (mC M_X12_worth) 90 = .ok (.iload 4, 2) := by decide +kernel
theorem d_X12_worth_92 : decode (mC M_X12_worth) 92 = .ok (.iload 7, 2) := by decide +kernel
theorem d_X12_worth_94 : decode (mC M_X12_worth) 94 = .ok (.iload_n 3, 1) := by decide +kernel
theorem d_X12_worth_95 : decode (mC M_X12_worth) 95 = .ok (.iload_n 2, 1) := by decide +kernel
theorem d_X12_worth_96 : decode (mC M_X12_worth) 96 = .ok (.isub, 1) := by decide +kernel
theorem d_X12_worth_97 : decode (mC M_X12_worth) 97 = .ok (.iload 6, 2) := by decide +kernel
theorem d_X12_worth_99 : decode (mC M_X12_worth) 99 = .ok (.isub, 1) := by decide +kernel
theorem d_X12_worth_100 : decode (mC M_X12_worth) 100 = .ok (.aload_n 0, 1) := by decide +kernel
theorem d_X12_worth_101 : decode (mC M_X12_worth) 101 = .ok (.getfield 115, 3) := by decide +kernel
theorem d_X12_worth_104 : decode (mC M_X12_worth) 104 = .ok (.iload 5, 2) := by decide +kernel
theorem d_X12_worth_106 : decode (mC M_X12_worth) 106 = .ok (.baload, 1) := by decide +kernel
theorem d_X12_worth_107 : decode (mC M_X12_worth) 107 = .ok (.invokestatic 357, 3) := by decide +kernel
theorem d_X12_worth_110 : decode (mC M_X12_worth) 110 = .ok (.imul, 1) := by decide +kernel
theorem d_X12_worth_111 : decode (mC M_X12_worth) 111 = .ok (.iadd, 1) := by decide +kernel
theorem d_X12_worth_112 : decode (mC M_X12_worth) 112 = .ok (.istore 4, 2) := by decide +kernel
theorem d_X12_worth_114 : decode (mC M_X12_worth) 114 = .ok (.goto 50, 3) := by decide +kernel
theorem d_X12_worth_117 : decode (mC M_X12_worth) 117 = .ok (.iload 4, 2) := by decide +kernel
theorem d_X12_worth_119 : decode (mC M_X12_worth) 119 = .ok (.iload 7, 2) := by decide +kernel
theorem d_X12_worth_121 : decode (mC M_X12_worth) 121 = .ok (.iload 6, 2) := by decide +kernel
theorem d_X12_worth_123 : decode (mC M_X12_worth) 123 = .ok (.iload_n 2, 1) := by decide +kernel
theorem d_X12_worth_124 : decode (mC M_X12_worth) 124 = .ok (.isub, 1) := by decide +kernel
theorem d_X12_worth_125 : decode (mC M_X12_worth) 125 = .ok (.aload_n 0, 1) := by decide +kernel
theorem d_X12_worth_126 : decode (mC M_X12_worth) 126 = .ok (.getfield 115, 3) := by decide +kernel
theorem d_X12_worth_129 : decode (mC M_X12_worth) 129 = .ok (.iload 5, 2) := by decide +kernel
theorem d_X12_worth_131 : decode (mC M_X12_worth) 131 = .ok (.baload, 1) := by decide +kernel
theorem d_X12_worth_132 : decode (mC M_X12_worth) 132 = .ok (.invokestatic 357, 3) := by decide +kernel
theorem d_X12_worth_135 : decode (mC M_X12_worth) 135 = .ok (.imul, 1) := by decide +kernel
theorem d_X12_worth_136 : decode (mC M_X12_worth) 136 = .ok (.iadd, 1) := by decide +kernel
theorem d_X12_worth_137 : decode (mC M_X12_worth) 137 = .ok (.istore 4, 2) := by decide +kernel
theorem d_X12_worth_139 : decode (mC M_X12_worth) 139 = .ok (.goto 25, 3) := by decide +kernel
theorem d_X12_worth_142 : decode (mC M_X12_worth) 142 = .ok (.iload 4, 2) := by decide +kernel
theorem d_X12_worth_144 : decode (mC M_X12_worth) 144 = .ok (.iload 7, 2) := by decide +kernel
theorem d_X12_worth_146 : decode (mC M_X12_worth) 146 = .ok (.iload_n 3, 1) := by decide +kernel
theorem d_X12_worth_147 : decode (mC M_X12_worth) 147 = .ok (.iload 6, 2) := by decide +kernel
theorem d_X12_worth_149 : decode (mC M_X12_worth) 149 = .ok (.isub, 1) := by decide +kernel
theorem d_X12_worth_150 : decode (mC M_X12_worth) 150 = .ok (.aload_n 0, 1) := by decide +kernel
theorem d_X12_worth_151 : decode (mC M_X12_worth) 151 = .ok (.getfield 115, 3) := by decide +kernel
theorem d_X12_worth_154 : decode (mC M_X12_worth) 154 = .ok (.iload 5, 2) := by decide +kernel
theorem d_X12_worth_156 : decode (mC M_X12_worth) 156 = .ok (.baload, 1) := by decide +kernel
theorem d_X12_worth_157 : decode (mC M_X12_worth) 157 = .ok (.invokestatic 357, 3) := by decide +kernel
theorem d_X12_worth_160 : decode (mC M_X12_worth) 160 = .ok (.imul, 1) := by decide +kernel
theorem d_X12_worth_161 : decode (mC M_X12_worth) 161 = .ok (.iadd, 1) := by decide +kernel
theorem d_X12_worth_162 : decode (mC M_X12_worth) 162 = .ok (.istore 4, 2) := by decide +kernel
theorem d_X12_worth_164 : decode (mC M_X12_worth) 164 = .ok (.iinc 5 1, 3) := by decide +kernel
theorem d_X12_worth_167 : decode (mC M_X12_worth) 167 = .ok (.goto (-158), 3) := by decide +kernel
theorem d_X12_worth_170 : decode (mC M_X12_worth) 170 = .ok (.iload 4, 2) := by decide +kernel
theorem d_X12_worth_172 : decode (mC M_X12_worth) 172 = .ok (.ireturn, 1) := by decide +kernel
theorem d_X1_answer_0 : decode (mC M_X1_answer) 0 = .ok (.iload_n 1, 1) := by decide +kernel
theorem d_X1_answer_1 : decode (mC M_X1_answer) 1 = .ok (.tableswitch 60 0 4 #[35, 40, 45, 50, 55], 35) := by decide +kernel
theorem d_X1_answer_36 : decode (mC M_X1_answer) 36 = .ok (.aload_n 0, 1) := by decide +kernel
theorem d_X1_answer_37 : decode (mC M_X1_answer) 37 = .ok (.getfield 76, 3) := by decide +kernel
theorem d_X1_answer_40 : decode (mC M_X1_answer) 40 = .ok (.ireturn, 1) := by decide +kernel
theorem d_X1_answer_41 : decode (mC M_X1_answer) 41 = .ok (.aload_n 0, 1) := by decide +kernel
theorem d_X1_answer_42 : decode (mC M_X1_answer) 42 = .ok (.getfield 46, 3) := by decide +kernel
theorem d_X1_answer_45 : decode (mC M_X1_answer) 45 = .ok (.ireturn, 1) := by decide +kernel
theorem d_X1_answer_46 : decode (mC M_X1_answer) 46 = .ok (.aload_n 0, 1) := by decide +kernel
theorem d_X1_answer_47 : decode (mC M_X1_answer) 47 = .ok (.getfield 79, 3) := by decide +kernel
theorem d_X1_answer_50 : decode (mC M_X1_answer) 50 = .ok (.ireturn, 1) := by decide +kernel
theorem d_X1_answer_51 : decode (mC M_X1_answer) 51 = .ok (.aload_n 0, 1) := by decide +kernel
theorem d_X1_answer_52 : decode (mC M_X1_answer) 52 = .ok (.getfield 82, 3) := by decide +kernel
theorem d_X1_answer_55 : decode (mC M_X1_answer) 55 = .ok (.ireturn, 1) := by decide +kernel
theorem d_X1_answer_56 : decode (mC M_X1_answer) 56 = .ok (.aload_n 0, 1) := by decide +kernel
theorem d_X1_answer_57 : decode (mC M_X1_answer) 57 = .ok (.getfield 85, 3) := by decide +kernel
theorem d_X1_answer_60 : decode (mC M_X1_answer) 60 = .ok (.ireturn, 1) := by decide +kernel
theorem d_X1_answer_61 : decode (mC M_X1_answer) 61 = .ok (.iconst (-1), 1) := by decide +kernel
theorem d_X1_answer_62 : decode (mC M_X1_answer) 62 = .ok (.ireturn, 1) := by decide +kernel
theorem d_X1_highest_0 : decode (mC M_X1_highest) 0 = .ok (.iload_n 0, 1) := by decide +kernel
theorem d_X1_highest_1 : decode (mC M_X1_highest) 1 = .ok (.tableswitch 35 1 3 #[27, 30, 32], 27) := by decide +kernel
theorem d_X1_highest_28 : decode (mC M_X1_highest) 28 = .ok (.bipush 15, 2) := by decide +kernel
theorem d_X1_highest_30 : decode (mC M_X1_highest) 30 = .ok (.ireturn, 1) := by decide +kernel
theorem d_X1_highest_31 : decode (mC M_X1_highest) 31 = .ok (.iconst 3, 1) := by decide +kernel
theorem d_X1_highest_32 : decode (mC M_X1_highest) 32 = .ok (.ireturn, 1) := by decide +kernel
theorem d_X1_highest_33 : decode (mC M_X1_highest) 33 = .ok (.bipush 19, 2) := by decide +kernel
theorem d_X1_highest_35 : decode (mC M_X1_highest) 35 = .ok (.ireturn, 1) := by decide +kernel
theorem d_X1_highest_36 : decode (mC M_X1_highest) 36 = .ok (.ldc 21, 2) := by decide +kernel
theorem d_X1_highest_38 : decode (mC M_X1_highest) 38 = .ok (.ireturn, 1) := by decide +kernel
theorem d_X1_holds_0 : decode (mC M_X1_holds) 0 = .ok (.iload_n 0, 1) := by decide +kernel
theorem d_X1_holds_1 : decode (mC M_X1_holds) 1 = .ok (.tableswitch 137 1 7 #[43, 61, 75, 81, 95, 109, 123], 43) := by decide +kernel
theorem d_X1_holds_44 : decode (mC M_X1_holds) 44 = .ok (.aload_n 2, 1) := by decide +kernel
theorem d_X1_holds_45 : decode (mC M_X1_holds) 45 = .ok (.getfield 60, 3) := by decide +kernel
theorem d_X1_holds_48 : decode (mC M_X1_holds) 48 = .ok (.iload_n 1, 1) := by decide +kernel
theorem d_X1_holds_49 : decode (mC M_X1_holds) 49 = .ok (.ishr, 1) := by decide +kernel
theorem d_X1_holds_50 : decode (mC M_X1_holds) 50 = .ok (.iconst 1, 1) := by decide +kernel
theorem d_X1_holds_51 : decode (mC M_X1_holds) 51 = .ok (.iand, 1) := by decide +kernel
theorem d_X1_holds_52 : decode (mC M_X1_holds) 52 = .ok (.iconst 1, 1) := by decide +kernel
theorem d_X1_holds_53 : decode (mC M_X1_holds) 53 = .ok (.if_icmp .ne 7, 3) := by decide +kernel
theorem d_X1_holds_56 : decode (mC M_X1_holds) 56 = .ok (.iconst 1, 1) := by decide +kernel
theorem d_X1_holds_57 : decode (mC M_X1_holds) 57 = .ok (.goto 4, 3) := by decide +kernel
theorem d_X1_holds_60 : decode (mC M_X1_holds) 60 = .ok (.iconst 0, 1) := by decide +kernel
theorem d_X1_holds_61 : decode (mC M_X1_holds) 61 = .ok (.ireturn, 1) := by decide +kernel
theorem d_X1_holds_62 : decode (mC M_X1_holds) 62 = .ok (.aload_n 2, 1) := by decide +kernel
theorem d_X1_holds_63 : decode (mC M_X1_holds) 63 = .ok (.getfield 63, 3) := by decide +kernel
theorem d_X1_holds_66 : decode (mC M_X1_holds) 66 = .ok (.iload_n 1, 1) := by decide +kernel
theorem d_X1_holds_67 : decode (mC M_X1_holds) 67 = .ok (.if_icmp .ne 7, 3) := by decide +kernel
theorem d_X1_holds_70 : decode (mC M_X1_holds) 70 = .ok (.iconst 1, 1) := by decide +kernel
theorem d_X1_holds_71 : decode (mC M_X1_holds) 71 = .ok (.goto 4, 3) := by decide +kernel
theorem d_X1_holds_74 : decode (mC M_X1_holds) 74 = .ok (.iconst 0, 1) := by decide +kernel
theorem d_X1_holds_75 : decode (mC M_X1_holds) 75 = .ok (.ireturn, 1) := by decide +kernel
theorem d_X1_holds_76 : decode (mC M_X1_holds) 76 = .ok (.aload_n 2, 1) := by decide +kernel
theorem d_X1_holds_77 : decode (mC M_X1_holds) 77 = .ok (.iload_n 1, 1) := by decide +kernel
theorem d_X1_holds_78 : decode (mC M_X1_holds) 78 = .ok (.invokevirtual 66, 3) := by decide +kernel
theorem d_X1_holds_81 : decode (mC M_X1_holds) 81 = .ok (.ireturn, 1) := by decide +kernel
theorem d_X1_holds_82 : decode (mC M_X1_holds) 82 = .ok (.aload_n 2, 1) := by decide +kernel
theorem d_X1_holds_83 : decode (mC M_X1_holds) 83 = .ok (.getfield 70, 3) := by decide +kernel
theorem d_X1_holds_86 : decode (mC M_X1_holds) 86 = .ok (.iload_n 1, 1) := by decide +kernel
theorem d_X1_holds_87 : decode (mC M_X1_holds) 87 = .ok (.if_icmp .ge 7, 3) := by decide +kernel
theorem d_X1_holds_90 : decode (mC M_X1_holds) 90 = .ok (.iconst 1, 1) := by decide +kernel
theorem d_X1_holds_91 : decode (mC M_X1_holds) 91 = .ok (.goto 4, 3) := by decide +kernel
theorem d_X1_holds_94 : decode (mC M_X1_holds) 94 = .ok (.iconst 0, 1) := by decide +kernel
theorem d_X1_holds_95 : decode (mC M_X1_holds) 95 = .ok (.ireturn, 1) := by decide +kernel
theorem d_X1_holds_96 : decode (mC M_X1_holds) 96 = .ok (.aload_n 2, 1) := by decide +kernel
theorem d_X1_holds_97 : decode (mC M_X1_holds) 97 = .ok (.getfield 70, 3) := by decide +kernel
theorem d_X1_holds_100 : decode (mC M_X1_holds) 100 = .ok (.iload_n 1, 1) := by decide +kernel
theorem d_X1_holds_101 : decode (mC M_X1_holds) 101 = .ok (.if_icmp .le 7, 3) := by decide +kernel
theorem d_X1_holds_104 : decode (mC M_X1_holds) 104 = .ok (.iconst 1, 1) := by decide +kernel
theorem d_X1_holds_105 : decode (mC M_X1_holds) 105 = .ok (.goto 4, 3) := by decide +kernel
theorem d_X1_holds_108 : decode (mC M_X1_holds) 108 = .ok (.iconst 0, 1) := by decide +kernel
theorem d_X1_holds_109 : decode (mC M_X1_holds) 109 = .ok (.ireturn, 1) := by decide +kernel
theorem d_X1_holds_110 : decode (mC M_X1_holds) 110 = .ok (.aload_n 2, 1) := by decide +kernel
theorem d_X1_holds_111 : decode (mC M_X1_holds) 111 = .ok (.getfield 73, 3) := by decide +kernel
theorem d_X1_holds_114 : decode (mC M_X1_holds) 114 = .ok (.iload_n 1, 1) := by decide +kernel
theorem d_X1_holds_115 : decode (mC M_X1_holds) 115 = .ok (.if_icmp .ge 7, 3) := by decide +kernel
theorem d_X1_holds_118 : decode (mC M_X1_holds) 118 = .ok (.iconst 1, 1) := by decide +kernel
theorem d_X1_holds_119 : decode (mC M_X1_holds) 119 = .ok (.goto 4, 3) := by decide +kernel
theorem d_X1_holds_122 : decode (mC M_X1_holds) 122 = .ok (.iconst 0, 1) := by decide +kernel
theorem d_X1_holds_123 : decode (mC M_X1_holds) 123 = .ok (.ireturn, 1) := by decide +kernel
theorem d_X1_holds_124 : decode (mC M_X1_holds) 124 = .ok (.aload_n 2, 1) := by decide +kernel
theorem d_X1_holds_125 : decode (mC M_X1_holds) 125 = .ok (.getfield 73, 3) := by decide +kernel
theorem d_X1_holds_128 : decode (mC M_X1_holds) 128 = .ok (.iload_n 1, 1) := by decide +kernel
theorem d_X1_holds_129 : decode (mC M_X1_holds) 129 = .ok (.if_icmp .le 7, 3) := by decide +kernel
theorem d_X1_holds_132 : decode (mC M_X1_holds) 132 = .ok (.iconst 1, 1) := by decide +kernel
theorem d_X1_holds_133 : decode (mC M_X1_holds) 133 = .ok (.goto 4, 3) := by decide +kernel
theorem d_X1_holds_136 : decode (mC M_X1_holds) 136 = .ok (.iconst 0, 1) := by decide +kernel
theorem d_X1_holds_137 : decode (mC M_X1_holds) 137 = .ok (.ireturn, 1) := by decide +kernel
theorem d_X1_holds_138 : decode (mC M_X1_holds) 138 = .ok (.iconst 1, 1) := by decide +kernel
theorem d_X1_holds_139 : decode (mC M_X1_holds) 139 = .ok (.ireturn, 1) := by decide +kernel
theorem d_X1_init_0 : decode (mC M_X1_init) 0 = .ok (.aload_n 0, 1) := by decide +kernel
theorem d_X1_init_1 : decode (mC M_X1_init) 1 = .ok (.invokespecial 3, 3) := by decide +kernel
theorem d_X1_init_4 : decode (mC M_X1_init) 4 = .ok (.aload_n 0, 1) := by decide +kernel
theorem d_X1_init_5 : decode (mC M_X1_init) 5 = .ok (.iconst 0, 1) := by decide +kernel
theorem d_X1_init_6 : decode (mC M_X1_init) 6 = .ok (.newarray .int, 2) := by decide +kernel
theorem d_X1_init_8 : decode (mC M_X1_init) 8 = .ok (.putfield 9, 3) := by decide +kernel
theorem d_X1_init_11 : decode (mC M_X1_init) 11 = .ok (.aload_n 0, 1) := by decide +kernel
theorem d_X1_init_12 : decode (mC M_X1_init) 12 = .ok (.iload_n 1, 1) := by decide +kernel
theorem d_X1_init_13 : decode (mC M_X1_init) 13 = .ok (.putfield 15, 3) := by decide +kernel
theorem d_X1_init_16 : decode (mC M_X1_init) 16 = .ok (.return_, 1) := by decide +kernel
theorem d_X1_isOpenTo_0 : decode (mC M_X1_isOpenTo) 0 = .ok (.aload_n 1, 1) := by decide +kernel
theorem d_X1_isOpenTo_1 : decode (mC M_X1_isOpenTo) 1 = .ok (.getfield 37, 3) := by decide +kernel
theorem d_X1_isOpenTo_4 : decode (mC M_X1_isOpenTo) 4 = .ok (.ifCond .ne 32, 3) := by decide +kernel
theorem d_X1_isOpenTo_7 : decode (mC M_X1_isOpenTo) 7 = .ok (.aload_n 1, 1) := by decide +kernel
theorem d_X1_isOpenTo_8 : decode (mC M_X1_isOpenTo) 8 = .ok (.getfield 43, 3) := by decide +kernel
theorem d_X1_isOpenTo_11 : decode (mC M_X1_isOpenTo) 11 = .ok (.sipush 1440, 3) := by decide +kernel
theorem d_X1_isOpenTo_14 : decode (mC M_X1_isOpenTo) 14 = .ok (.iload_n 2, 1) := by decide +kernel
theorem d_X1_isOpenTo_15 : decode (mC M_X1_isOpenTo) 15 = .ok (.imul, 1) := by decide +kernel
theorem d_X1_isOpenTo_16 : decode (mC M_X1_isOpenTo) 16 = .ok (.aload_n 0, 1) := by decide +kernel
theorem d_X1_isOpenTo_17 : decode (mC M_X1_isOpenTo) 17 = .ok (.getfield 46, 3) := by decide +kernel
theorem d_X1_isOpenTo_20 : decode (mC M_X1_isOpenTo) 20 = .ok (.iadd, 1) := by decide +kernel
theorem d_X1_isOpenTo_21 : decode (mC M_X1_isOpenTo) 21 = .ok (.if_icmp .gt 15, 3) := by decide +kernel
theorem d_X1_isOpenTo_24 : decode (mC M_X1_isOpenTo) 24 = .ok (.aload_n 0, 1) := by decide +kernel
theorem d_X1_isOpenTo_25 : decode (mC M_X1_isOpenTo) 25 = .ok (.aload_n 1, 1) := by decide +kernel
theorem d_X1_isOpenTo_26 : decode (mC M_X1_isOpenTo) 26 = .ok (.invokevirtual 49, 3) := by decide +kernel
theorem d_X1_isOpenTo_29 : decode (mC M_X1_isOpenTo) 29 = .ok (.ifCond .eq 7, 3) := by decide +kernel
theorem d_X1_isOpenTo_32 : decode (mC M_X1_isOpenTo) 32 = .ok (.iconst 1, 1) := by decide +kernel
theorem d_X1_isOpenTo_33 : decode (mC M_X1_isOpenTo) 33 = .ok (.goto 4, 3) := by decide +kernel
theorem d_X1_isOpenTo_36 : decode (mC M_X1_isOpenTo) 36 = .ok (.iconst 0, 1) := by decide +kernel
theorem d_X1_isOpenTo_37 : decode (mC M_X1_isOpenTo) 37 = .ok (.ireturn, 1) := by decide +kernel
theorem d_X1_suits_0 : decode (mC M_X1_suits) 0 = .ok (.lconst 0, 1) := by decide +kernel
theorem d_X1_suits_1 : decode (mC M_X1_suits) 1 = .ok (.lstore_n 2, 1) := by decide +kernel
theorem d_X1_suits_2 : decode (mC M_X1_suits) 2 = .ok (.iconst 0, 1) := by decide +kernel
theorem d_X1_suits_3 : decode (mC M_X1_suits) 3 = .ok (.istore 4, 2) := by decide +kernel
theorem d_X1_suits_5 : decode (mC M_X1_suits) 5 = .ok (.iload 4, 2) := by decide +kernel
theorem d_X1_suits_7 : decode (mC M_X1_suits) 7 = .ok (.aload_n 0, 1) := by decide +kernel
theorem d_X1_suits_8 : decode (mC M_X1_suits) 8 = .ok (.getfield 9, 3) := by decide +kernel
theorem d_X1_suits_11 : decode (mC M_X1_suits) 11 = .ok (.arraylength, 1) := by decide +kernel
theorem d_X1_suits_12 : decode (mC M_X1_suits) 12 = .ok (.if_icmp .ge 108, 3) := by decide +kernel
theorem d_X1_suits_15 : decode (mC M_X1_suits) 15 = .ok (.aload_n 0, 1) := by decide +kernel
theorem d_X1_suits_16 : decode (mC M_X1_suits) 16 = .ok (.getfield 9, 3) := by decide +kernel
theorem d_X1_suits_19 : decode (mC M_X1_suits) 19 = .ok (.iload 4, 2) := by decide +kernel
theorem d_X1_suits_21 : decode (mC M_X1_suits) 21 = .ok (.iaload, 1) := by decide +kernel
theorem d_X1_suits_22 : decode (mC M_X1_suits) 22 = .ok (.ldc 53, 2) := by decide +kernel
theorem d_X1_suits_24 : decode (mC M_X1_suits) 24 = .ok (.idiv, 1) := by decide +kernel
theorem d_X1_suits_25 : decode (mC M_X1_suits) 25 = .ok (.istore 5, 2) := by decide +kernel
theorem d_X1_suits_27 : decode (mC M_X1_suits) 27 = .ok (.lload_n 2, 1) := by decide +kernel
theorem d_X1_suits_28 : decode (mC M_X1_suits) 28 = .ok (.lconst 1, 1) := by decide +kernel
theorem d_X1_suits_29 : decode (mC M_X1_suits) 29 = .ok (.land, 1) := by decide +kernel
theorem d_X1_suits_30 : decode (mC M_X1_suits) 30 = .ok (.lstore 6, 2) := by decide +kernel
theorem d_X1_suits_32 : decode (mC M_X1_suits) 32 = .ok (.iload 5, 2) := by decide +kernel
theorem d_X1_suits_34 : decode (mC M_X1_suits) 34 = .ok (.bipush 8, 2) := by decide +kernel
theorem d_X1_suits_36 : decode (mC M_X1_suits) 36 = .ok (.if_icmp .ne 10, 3) := by decide +kernel
theorem d_X1_suits_39 : decode (mC M_X1_suits) 39 = .ok (.lload_n 2, 1) := by decide +kernel
theorem d_X1_suits_40 : decode (mC M_X1_suits) 40 = .ok (.lconst 1, 1) := by decide +kernel
theorem d_X1_suits_41 : decode (mC M_X1_suits) 41 = .ok (.lxor, 1) := by decide +kernel
theorem d_X1_suits_42 : decode (mC M_X1_suits) 42 = .ok (.lstore_n 2, 1) := by decide +kernel
theorem d_X1_suits_43 : decode (mC M_X1_suits) 43 = .ok (.goto 71, 3) := by decide +kernel
theorem d_X1_suits_46 : decode (mC M_X1_suits) 46 = .ok (.iload 5, 2) := by decide +kernel
theorem d_X1_suits_48 : decode (mC M_X1_suits) 48 = .ok (.bipush 9, 2) := by decide +kernel
theorem d_X1_suits_50 : decode (mC M_X1_suits) 50 = .ok (.if_icmp .ne 17, 3) := by decide +kernel
theorem d_X1_suits_53 : decode (mC M_X1_suits) 53 = .ok (.lload_n 2, 1) := by decide +kernel
theorem d_X1_suits_54 : decode (mC M_X1_suits) 54 = .ok (.iconst 1, 1) := by decide +kernel
theorem d_X1_suits_55 : decode (mC M_X1_suits) 55 = .ok (.lushr, 1) := by decide +kernel
theorem d_X1_suits_56 : decode (mC M_X1_suits) 56 = .ok (.lload 6, 2) := by decide +kernel
theorem d_X1_suits_58 : decode (mC M_X1_suits) 58 = .ok (.ldc2_w 54, 3) := by decide +kernel
theorem d_X1_suits_61 : decode (mC M_X1_suits) 61 = .ok (.lor, 1) := by decide +kernel
theorem d_X1_suits_62 : decode (mC M_X1_suits) 62 = .ok (.land, 1) := by decide +kernel
theorem d_X1_suits_63 : decode (mC M_X1_suits) 63 = .ok (.lstore_n 2, 1) := by decide +kernel
theorem d_X1_suits_64 : decode (mC M_X1_suits) 64 = .ok (.goto 50, 3) := by decide +kernel
theorem d_X1_suits_67 : decode (mC M_X1_suits) 67 = .ok (.iload 5, 2) := by decide +kernel
theorem d_X1_suits_69 : decode (mC M_X1_suits) 69 = .ok (.bipush 10, 2) := by decide +kernel
theorem d_X1_suits_71 : decode (mC M_X1_suits) 71 = .ok (.if_icmp .ne 13, 3) := by decide +kernel
theorem d_X1_suits_74 : decode (mC M_X1_suits) 74 = .ok (.lload_n 2, 1) := by decide +kernel
theorem d_X1_suits_75 : decode (mC M_X1_suits) 75 = .ok (.iconst 1, 1) := by decide +kernel
theorem d_X1_suits_76 : decode (mC M_X1_suits) 76 = .ok (.lushr, 1) := by decide +kernel
theorem d_X1_suits_77 : decode (mC M_X1_suits) 77 = .ok (.lload 6, 2) := by decide +kernel
theorem d_X1_suits_79 : decode (mC M_X1_suits) 79 = .ok (.lor, 1) := by decide +kernel
theorem d_X1_suits_80 : decode (mC M_X1_suits) 80 = .ok (.lstore_n 2, 1) := by decide +kernel
theorem d_X1_suits_81 : decode (mC M_X1_suits) 81 = .ok (.goto 33, 3) := by decide +kernel
theorem d_X1_suits_84 : decode (mC M_X1_suits) 84 = .ok (.lload_n 2, 1) := by decide +kernel
theorem d_X1_suits_85 : decode (mC M_X1_suits) 85 = .ok (.iconst 1, 1) := by decide +kernel
theorem d_X1_suits_86 : decode (mC M_X1_suits) 86 = .ok (.lshl, 1) := by decide +kernel
theorem d_X1_suits_87 : decode (mC M_X1_suits) 87 = .ok (.iload 5, 2) := by decide +kernel
theorem d_X1_suits_89 : decode (mC M_X1_suits) 89 = .ok (.aload_n 0, 1) := by decide +kernel
theorem d_X1_suits_90 : decode (mC M_X1_suits) 90 = .ok (.getfield 9, 3) := by decide +kernel
theorem d_X1_suits_93 : decode (mC M_X1_suits) 93 = .ok (.iload 4, 2) := by decide +kernel
theorem d_X1_suits_95 : decode (mC M_X1_suits) 95 = .ok (.iaload, 1) := by decide +kernel
theorem d_X1_suits_96 : decode (mC M_X1_suits) 96 = .ok (.ldc 53, 2) := by decide +kernel
theorem d_X1_suits_98 : decode (mC M_X1_suits) 98 = .ok (.irem, 1) := by decide +kernel
theorem d_X1_suits_99 : decode (mC M_X1_suits) 99 = .ok (.aload_n 1, 1) := by decide +kernel
theorem d_X1_suits_100 : decode (mC M_X1_suits) 100 = .ok (.invokestatic 56, 3) := by decide +kernel
theorem d_X1_suits_103 : decode (mC M_X1_suits) 103 = .ok (.ifCond .eq 7, 3) := by decide +kernel
theorem d_X1_suits_106 : decode (mC M_X1_suits) 106 = .ok (.iconst 1, 1) := by decide +kernel
theorem d_X1_suits_107 : decode (mC M_X1_suits) 107 = .ok (.goto 4, 3) := by decide +kernel
theorem d_X1_suits_110 : decode (mC M_X1_suits) 110 = .ok (.iconst 0, 1) := by decide +kernel
theorem d_X1_suits_111 : decode (mC M_X1_suits) 111 = .ok (.i2l, 1) := by decide +kernel
theorem d_X1_suits_112 : decode (mC M_X1_suits) 112 = .ok (.lor, 1) := by decide +kernel
theorem d_X1_suits_113 : decode (mC M_X1_suits) 113 = .ok (.lstore_n 2, 1) := by decide +kernel
theorem d_X1_suits_114 : decode (mC M_X1_suits) 114 = .ok (.iinc 4 1, 3) := by decide +kernel
theorem d_X1_suits_117 : decode (mC M_X1_suits) 117 = .ok (.goto (-112), 3) := by decide +kernel
theorem d_X1_suits_120 : decode (mC M_X1_suits) 120 = .ok (.lload_n 2, 1) := by decide +kernel
theorem d_X1_suits_121 : decode (mC M_X1_suits) 121 = .ok (.lconst 1, 1) := by decide +kernel
theorem d_X1_suits_122 : decode (mC M_X1_suits) 122 = .ok (.land, 1) := by decide +kernel
theorem d_X1_suits_123 : decode (mC M_X1_suits) 123 = .ok (.lconst 1, 1) := by decide +kernel
theorem d_X1_suits_124 : decode (mC M_X1_suits) 124 = .ok (.lcmp, 1) := by decide +kernel
theorem d_X1_suits_125 : decode (mC M_X1_suits) 125 = .ok (.ifCond .ne 7, 3) := by decide +kernel
theorem d_X1_suits_128 : decode (mC M_X1_suits) 128 = .ok (.iconst 1, 1) := by decide +kernel
theorem d_X1_suits_129 : decode (mC M_X1_suits) 129 = .ok (.goto 4, 3) := by decide +kernel
theorem d_X1_suits_132 : decode (mC M_X1_suits) 132 = .ok (.iconst 0, 1) := by decide +kernel
theorem d_X1_suits_133 : decode (mC M_X1_suits) 133 = .ok (.ireturn, 1) := by decide +kernel
theorem d_X1_takeSteps_0 : decode (mC M_X1_takeSteps) 0 = .ok (.aload_n 0, 1) := by decide +kernel
theorem d_X1_takeSteps_1 : decode (mC M_X1_takeSteps) 1 = .ok (.aload_n 1, 1) := by decide +kernel
theorem d_X1_takeSteps_2 : decode (mC M_X1_takeSteps) 2 = .ok (.getfield 22, 3) := by decide +kernel
theorem d_X1_takeSteps_5 : decode (mC M_X1_takeSteps) 5 = .ok (.iconst 0, 1) := by decide +kernel
theorem d_X1_takeSteps_6 : decode (mC M_X1_takeSteps) 6 = .ok (.invokestatic 27, 3) := by decide +kernel
theorem d_X1_takeSteps_9 : decode (mC M_X1_takeSteps) 9 = .ok (.newarray .int, 2) := by decide +kernel
theorem d_X1_takeSteps_11 : decode (mC M_X1_takeSteps) 11 = .ok (.putfield 9, 3) := by decide +kernel
theorem d_X1_takeSteps_14 : decode (mC M_X1_takeSteps) 14 = .ok (.iconst 0, 1) := by decide +kernel
theorem d_X1_takeSteps_15 : decode (mC M_X1_takeSteps) 15 = .ok (.istore_n 2, 1) := by decide +kernel
theorem d_X1_takeSteps_16 : decode (mC M_X1_takeSteps) 16 = .ok (.iload_n 2, 1) := by decide +kernel
theorem d_X1_takeSteps_17 : decode (mC M_X1_takeSteps) 17 = .ok (.aload_n 0, 1) := by decide +kernel
theorem d_X1_takeSteps_18 : decode (mC M_X1_takeSteps) 18 = .ok (.getfield 9, 3) := by decide +kernel
theorem d_X1_takeSteps_21 : decode (mC M_X1_takeSteps) 21 = .ok (.arraylength, 1) := by decide +kernel
theorem d_X1_takeSteps_22 : decode (mC M_X1_takeSteps) 22 = .ok (.if_icmp .ge 20, 3) := by decide +kernel
theorem d_X1_takeSteps_25 : decode (mC M_X1_takeSteps) 25 = .ok (.aload_n 0, 1) := by decide +kernel
theorem d_X1_takeSteps_26 : decode (mC M_X1_takeSteps) 26 = .ok (.getfield 9, 3) := by decide +kernel
theorem d_X1_takeSteps_29 : decode (mC M_X1_takeSteps) 29 = .ok (.iload_n 2, 1) := by decide +kernel
theorem d_X1_takeSteps_30 : decode (mC M_X1_takeSteps) 30 = .ok (.aload_n 1, 1) := by decide +kernel
theorem d_X1_takeSteps_31 : decode (mC M_X1_takeSteps) 31 = .ok (.iload_n 2, 1) := by decide +kernel
theorem d_X1_takeSteps_32 : decode (mC M_X1_takeSteps) 32 = .ok (.invokevirtual 33, 3) := by decide +kernel
theorem d_X1_takeSteps_35 : decode (mC M_X1_takeSteps) 35 = .ok (.iastore, 1) := by decide +kernel
theorem d_X1_takeSteps_36 : decode (mC M_X1_takeSteps) 36 = .ok (.iinc 2 1, 3) := by decide +kernel
theorem d_X1_takeSteps_39 : decode (mC M_X1_takeSteps) 39 = .ok (.goto (-23), 3) := by decide +kernel
theorem d_X1_takeSteps_42 : decode (mC M_X1_takeSteps) 42 = .ok (.return_, 1) := by decide +kernel
theorem d_X2_init_0 : decode (mC M_X2_init) 0 = .ok (.aload_n 0, 1) := by decide +kernel
theorem d_X2_init_1 : decode (mC M_X2_init) 1 = .ok (.invokespecial 3, 3) := by decide +kernel
theorem d_X2_init_4 : decode (mC M_X2_init) 4 = .ok (.aload_n 0, 1) := by decide +kernel
theorem d_X2_init_5 : decode (mC M_X2_init) 5 = .ok (.new 9, 3) := by decide +kernel
theorem d_X2_init_8 : decode (mC M_X2_init) 8 = .ok (.dup, 1) := by decide +kernel
theorem d_X2_init_9 : decode (mC M_X2_init) 9 = .ok (.invokespecial 11, 3) := by decide +kernel
theorem d_X2_init_12 : decode (mC M_X2_init) 12 = .ok (.putfield 12, 3) := by decide +kernel
theorem d_X2_init_15 : decode (mC M_X2_init) 15 = .ok (.aload_n 0, 1) := by decide +kernel
theorem d_X2_init_16 : decode (mC M_X2_init) 16 = .ok (.new 18, 3) := by decide +kernel
theorem d_X2_init_19 : decode (mC M_X2_init) 19 = .ok (.dup, 1) := by decide +kernel
theorem d_X2_init_20 : decode (mC M_X2_init) 20 = .ok (.sipush 1000, 3) := by decide +kernel
theorem d_X2_init_23 : decode (mC M_X2_init) 23 = .ok (.invokespecial 20, 3) := by decide +kernel
theorem d_X2_init_26 : decode (mC M_X2_init) 26 = .ok (.putfield 23, 3) := by decide +kernel
theorem d_X2_init_29 : decode (mC M_X2_init) 29 = .ok (.return_, 1) := by decide +kernel
theorem d_X2_markHere_0 : decode (mC M_X2_markHere) 0 = .ok (.aload_n 0, 1) := by decide +kernel
theorem d_X2_markHere_1 : decode (mC M_X2_markHere) 1 = .ok (.getfield 12, 3) := by decide +kernel
theorem d_X2_markHere_4 : decode (mC M_X2_markHere) 4 = .ok (.ldc 130, 2) := by decide +kernel
theorem d_X2_markHere_6 : decode (mC M_X2_markHere) 6 = .ok (.invokevirtual 39, 3) := by decide +kernel
theorem d_X2_markHere_9 : decode (mC M_X2_markHere) 9 = .ok (.ifCond .eq 5, 3) := by decide +kernel
theorem d_X2_markHere_12 : decode (mC M_X2_markHere) 12 = .ok (.iconst 0, 1) := by decide +kernel
theorem d_X2_markHere_13 : decode (mC M_X2_markHere) 13 = .ok (.ireturn, 1) := by decide +kernel
theorem d_X2_markHere_14 : decode (mC M_X2_markHere) 14 = .ok (.aload_n 0, 1) := by decide +kernel
theorem d_X2_markHere_15 : decode (mC M_X2_markHere) 15 = .ok (.getfield 12, 3) := by decide +kernel
theorem d_X2_markHere_18 : decode (mC M_X2_markHere) 18 = .ok (.ldc 132, 2) := by decide +kernel
theorem d_X2_markHere_20 : decode (mC M_X2_markHere) 20 = .ok (.invokevirtual 39, 3) := by decide +kernel
theorem d_X2_markHere_23 : decode (mC M_X2_markHere) 23 = .ok (.ifCond .eq 5, 3) := by decide +kernel
theorem d_X2_markHere_26 : decode (mC M_X2_markHere) 26 = .ok (.iconst 1, 1) := by decide +kernel
theorem d_X2_markHere_27 : decode (mC M_X2_markHere) 27 = .ok (.ireturn, 1) := by decide +kernel
theorem d_X2_markHere_28 : decode (mC M_X2_markHere) 28 = .ok (.aload_n 0, 1) := by decide +kernel
theorem d_X2_markHere_29 : decode (mC M_X2_markHere) 29 = .ok (.getfield 12, 3) := by decide +kernel
theorem d_X2_markHere_32 : decode (mC M_X2_markHere) 32 = .ok (.ldc 134, 2) := by decide +kernel
theorem d_X2_markHere_34 : decode (mC M_X2_markHere) 34 = .ok (.invokevirtual 39, 3) := by decide +kernel
theorem d_X2_markHere_37 : decode (mC M_X2_markHere) 37 = .ok (.ifCond .eq 5, 3) := by decide +kernel
theorem d_X2_markHere_40 : decode (mC M_X2_markHere) 40 = .ok (.iconst 2, 1) := by decide +kernel
theorem d_X2_markHere_41 : decode (mC M_X2_markHere) 41 = .ok (.ireturn, 1) := by decide +kernel
theorem d_X2_markHere_42 : decode (mC M_X2_markHere) 42 = .ok (.aload_n 0, 1) := by decide +kernel
theorem d_X2_markHere_43 : decode (mC M_X2_markHere) 43 = .ok (.getfield 12, 3) := by decide +kernel
theorem d_X2_markHere_46 : decode (mC M_X2_markHere) 46 = .ok (.ldc 136, 2) := by decide +kernel
theorem d_X2_markHere_48 : decode (mC M_X2_markHere) 48 = .ok (.invokevirtual 39, 3) := by decide +kernel
theorem d_X2_markHere_51 : decode (mC M_X2_markHere) 51 = .ok (.ifCond .eq 5, 3) := by decide +kernel
theorem d_X2_markHere_54 : decode (mC M_X2_markHere) 54 = .ok (.iconst 3, 1) := by decide +kernel
theorem d_X2_markHere_55 : decode (mC M_X2_markHere) 55 = .ok (.ireturn, 1) := by decide +kernel
theorem d_X2_markHere_56 : decode (mC M_X2_markHere) 56 = .ok (.aload_n 0, 1) := by decide +kernel
theorem d_X2_markHere_57 : decode (mC M_X2_markHere) 57 = .ok (.getfield 12, 3) := by decide +kernel
theorem d_X2_markHere_60 : decode (mC M_X2_markHere) 60 = .ok (.ldc 138, 2) := by decide +kernel
theorem d_X2_markHere_62 : decode (mC M_X2_markHere) 62 = .ok (.invokevirtual 39, 3) := by decide +kernel
theorem d_X2_markHere_65 : decode (mC M_X2_markHere) 65 = .ok (.ifCond .eq 5, 3) := by decide +kernel
theorem d_X2_markHere_68 : decode (mC M_X2_markHere) 68 = .ok (.iconst 4, 1) := by decide +kernel
theorem d_X2_markHere_69 : decode (mC M_X2_markHere) 69 = .ok (.ireturn, 1) := by decide +kernel
theorem d_X2_markHere_70 : decode (mC M_X2_markHere) 70 = .ok (.aload_n 0, 1) := by decide +kernel
theorem d_X2_markHere_71 : decode (mC M_X2_markHere) 71 = .ok (.getfield 12, 3) := by decide +kernel
theorem d_X2_markHere_74 : decode (mC M_X2_markHere) 74 = .ok (.ldc 140, 2) := by decide +kernel
theorem d_X2_markHere_76 : decode (mC M_X2_markHere) 76 = .ok (.invokevirtual 39, 3) := by decide +kernel
theorem d_X2_markHere_79 : decode (mC M_X2_markHere) 79 = .ok (.ifCond .eq 8, 3) := by decide +kernel
theorem d_X2_markHere_82 : decode (mC M_X2_markHere) 82 = .ok (.bipush 6, 2) := by decide +kernel
theorem d_X2_markHere_84 : decode (mC M_X2_markHere) 84 = .ok (.goto 4, 3) := by decide +kernel
theorem d_X2_markHere_87 : decode (mC M_X2_markHere) 87 = .ok (.iconst (-1), 1) := by decide +kernel
theorem d_X2_markHere_88 : decode (mC M_X2_markHere) 88 = .ok (.ireturn, 1) := by decide +kernel
theorem d_X2_read_0 : decode (mC M_X2_read) 0 = .ok (.new 27, 3) := by decide +kernel
theorem d_X2_read_3 : decode (mC M_X2_read) 3 = .ok (.dup, 1) := by decide +kernel
theorem d_X2_read_4 : decode (mC M_X2_read) 4 = .ok (.invokespecial 29, 3) := by decide +kernel
theorem d_X2_read_7 : decode (mC M_X2_read) 7 = .ok (.astore_n 1, 1) := by decide +kernel
theorem d_X2_read_8 : decode (mC M_X2_read) 8 = .ok (.aload_n 0, 1) := by decide +kernel
theorem d_X2_read_9 : decode (mC M_X2_read) 9 = .ok (.getfield 12, 3) := by decide +kernel
theorem d_X2_read_12 : decode (mC M_X2_read) 12 = .ok (.invokevirtual 30, 3) := by decide +kernel
theorem d_X2_read_15 : decode (mC M_X2_read) 15 = .ok (.iconst 0, 1) := by decide +kernel
theorem d_X2_read_16 : decode (mC M_X2_read) 16 = .ok (.istore_n 2, 1) := by decide +kernel
theorem d_X2_read_17 : decode (mC M_X2_read) 17 = .ok (.iload_n 2, 1) := by decide +kernel
theorem d_X2_read_18 : decode (mC M_X2_read) 18 = .ok (.bipush 6, 2) := by decide +kernel
theorem d_X2_read_20 : decode (mC M_X2_read) 20 = .ok (.if_icmp .gt 109, 3) := by decide +kernel
theorem d_X2_read_23 : decode (mC M_X2_read) 23 = .ok (.aload_n 0, 1) := by decide +kernel
theorem d_X2_read_24 : decode (mC M_X2_read) 24 = .ok (.getfield 12, 3) := by decide +kernel
theorem d_X2_read_27 : decode (mC M_X2_read) 27 = .ok (.invokevirtual 33, 3) := by decide +kernel
theorem d_X2_read_30 : decode (mC M_X2_read) 30 = .ok (.ifCond .ne 99, 3) := by decide +kernel
theorem d_X2_read_33 : decode (mC M_X2_read) 33 = .ok (.iload_n 2, 1) := by decide +kernel
theorem d_X2_read_34 : decode (mC M_X2_read) 34 = .ok (.bipush 6, 2) := by decide +kernel
theorem d_X2_read_36 : decode (mC M_X2_read) 36 = .ok (.if_icmp .ne 26, 3) := by decide +kernel
theorem d_X2_read_39 : decode (mC M_X2_read) 39 = .ok (.aload_n 0, 1) := by decide +kernel
theorem d_X2_read_40 : decode (mC M_X2_read) 40 = .ok (.getfield 12, 3) := by decide +kernel
theorem d_X2_read_43 : decode (mC M_X2_read) 43 = .ok (.ldc 37, 2) := by decide +kernel
theorem d_X2_read_45 : decode (mC M_X2_read) 45 = .ok (.invokevirtual 39, 3) := by decide +kernel
theorem d_X2_read_48 : decode (mC M_X2_read) 48 = .ok (.ifCond .eq 14, 3) := by decide +kernel
theorem d_X2_read_51 : decode (mC M_X2_read) 51 = .ok (.aload_n 0, 1) := by decide +kernel
theorem d_X2_read_52 : decode (mC M_X2_read) 52 = .ok (.getfield 12, 3) := by decide +kernel
theorem d_X2_read_55 : decode (mC M_X2_read) 55 = .ok (.iconst 2, 1) := by decide +kernel
theorem d_X2_read_56 : decode (mC M_X2_read) 56 = .ok (.invokevirtual 43, 3) := by decide +kernel
theorem d_X2_read_59 : decode (mC M_X2_read) 59 = .ok (.pop, 1) := by decide +kernel
theorem d_X2_read_60 : decode (mC M_X2_read) 60 = .ok (.aconst_null, 1) := by decide +kernel
theorem d_X2_read_61 : decode (mC M_X2_read) 61 = .ok (.areturn, 1) := by decide +kernel
theorem d_X2_read_62 : decode (mC M_X2_read) 62 = .ok (.new 47, 3) := by decide +kernel
theorem d_X2_read_65 : decode (mC M_X2_read) 65 = .ok (.dup, 1) := by decide +kernel
theorem d_X2_read_66 : decode (mC M_X2_read) 66 = .ok (.iload_n 2, 1) := by decide +kernel
theorem d_X2_read_67 : decode (mC M_X2_read) 67 = .ok (.invokespecial 49, 3) := by decide +kernel
theorem d_X2_read_70 : decode (mC M_X2_read) 70 = .ok (.astore_n 3, 1) := by decide +kernel
theorem d_X2_read_71 : decode (mC M_X2_read) 71 = .ok (.aload_n 0, 1) := by decide +kernel
theorem d_X2_read_72 : decode (mC M_X2_read) 72 = .ok (.getfield 23, 3) := by decide +kernel
theorem d_X2_read_75 : decode (mC M_X2_read) 75 = .ok (.iconst 0, 1) := by decide +kernel
theorem d_X2_read_76 : decode (mC M_X2_read) 76 = .ok (.putfield 50, 3) := by decide +kernel
theorem d_X2_read_79 : decode (mC M_X2_read) 79 = .ok (.aload_n 0, 1) := by decide +kernel
theorem d_X2_read_80 : decode (mC M_X2_read) 80 = .ok (.aload_n 3, 1) := by decide +kernel
theorem d_X2_read_81 : decode (mC M_X2_read) 81 = .ok (.invokevirtual 54, 3) := by decide +kernel
theorem d_X2_read_84 : decode (mC M_X2_read) 84 = .ok (.ifCond .eq 23, 3) := by decide +kernel
theorem d_X2_read_87 : decode (mC M_X2_read) 87 = .ok (.aload_n 0, 1) := by decide +kernel
theorem d_X2_read_88 : decode (mC M_X2_read) 88 = .ok (.iconst 0, 1) := by decide +kernel
theorem d_X2_read_89 : decode (mC M_X2_read) 89 = .ok (.invokevirtual 58, 3) := by decide +kernel
theorem d_X2_read_92 : decode (mC M_X2_read) 92 = .ok (.ifCond .eq 15, 3) := by decide +kernel
theorem d_X2_read_95 : decode (mC M_X2_read) 95 = .ok (.aload_n 0, 1) := by decide +kernel
theorem d_X2_read_96 : decode (mC M_X2_read) 96 = .ok (.getfield 12, 3) := by decide +kernel
theorem d_X2_read_99 : decode (mC M_X2_read) 99 = .ok (.bipush 59, 2) := by decide +kernel
theorem d_X2_read_101 : decode (mC M_X2_read) 101 = .ok (.invokevirtual 61, 3) := by decide +kernel
theorem d_X2_read_104 : decode (mC M_X2_read) 104 = .ok (.ifCond .ne 5, 3) := by decide +kernel
theorem d_X2_read_107 : decode (mC M_X2_read) 107 = .ok (.aconst_null, 1) := by decide +kernel
theorem d_X2_read_108 : decode (mC M_X2_read) 108 = .ok (.areturn, 1) := by decide +kernel
theorem d_X2_read_109 : decode (mC M_X2_read) 109 = .ok (.aload_n 3, 1) := by decide +kernel
theorem d_X2_read_110 : decode (mC M_X2_read) 110 = .ok (.aload_n 0, 1) := by decide +kernel
theorem d_X2_read_111 : decode (mC M_X2_read) 111 = .ok (.getfield 23, 3) := by decide +kernel
theorem d_X2_read_114 : decode (mC M_X2_read) 114 = .ok (.invokevirtual 65, 3) := by decide +kernel
theorem d_X2_read_117 : decode (mC M_X2_read) 117 = .ok (.aload_n 1, 1) := by decide +kernel
theorem d_X2_read_118 : decode (mC M_X2_read) 118 = .ok (.aload_n 3, 1) := by decide +kernel
theorem d_X2_read_119 : decode (mC M_X2_read) 119 = .ok (.invokevirtual 69, 3) := by decide +kernel
theorem d_X2_read_122 : decode (mC M_X2_read) 122 = .ok (.pop, 1) := by decide +kernel
theorem d_X2_read_123 : decode (mC M_X2_read) 123 = .ok (.iinc 2 1, 3) := by decide +kernel
theorem d_X2_read_126 : decode (mC M_X2_read) 126 = .ok (.goto (-109), 3) := by decide +kernel
theorem d_X2_read_129 : decode (mC M_X2_read) 129 = .ok (.aload_n 1, 1) := by decide +kernel
theorem d_X2_read_130 : decode (mC M_X2_read) 130 = .ok (.areturn, 1) := by decide +kernel
theorem d_X2_readAny_0 : decode (mC M_X2_readAny) 0 = .ok (.iconst 0, 1) := by decide +kernel
theorem d_X2_readAny_1 : decode (mC M_X2_readAny) 1 = .ok (.istore_n 2, 1) := by decide +kernel
theorem d_X2_readAny_2 : decode (mC M_X2_readAny) 2 = .ok (.iconst 0, 1) := by decide +kernel
theorem d_X2_readAny_3 : decode (mC M_X2_readAny) 3 = .ok (.istore_n 3, 1) := by decide +kernel
theorem d_X2_readAny_4 : decode (mC M_X2_readAny) 4 = .ok (.iconst 0, 1) := by decide +kernel
theorem d_X2_readAny_5 : decode (mC M_X2_readAny) 5 = .ok (.istore 4, 2) := by decide +kernel
theorem d_X2_readAny_7 : decode (mC M_X2_readAny) 7 = .ok (.iload 4, 2) := by decide +kernel
theorem d_X2_readAny_9 : decode (mC M_X2_readAny) 9 = .ok (.sipush 1000, 3) := by decide +kernel
theorem d_X2_readAny_12 : decode (mC M_X2_readAny) 12 = .ok (.if_icmp .ge 94, 3) := by decide +kernel
theorem d_X2_readAny_15 : decode (mC M_X2_readAny) 15 = .ok (.aload_n 0, 1) := by decide +kernel
theorem d_X2_readAny_16 : decode (mC M_X2_readAny) 16 = .ok (.iload_n 1, 1) := by decide +kernel
theorem d_X2_readAny_17 : decode (mC M_X2_readAny) 17 = .ok (.invokevirtual 94, 3) := by decide +kernel
theorem d_X2_readAny_20 : decode (mC M_X2_readAny) 20 = .ok (.ifCond .ne 5, 3) := by decide +kernel
theorem d_X2_readAny_23 : decode (mC M_X2_readAny) 23 = .ok (.iconst 0, 1) := by decide +kernel
theorem d_X2_readAny_24 : decode (mC M_X2_readAny) 24 = .ok (.ireturn, 1) := by decide +kernel
theorem d_X2_readAny_25 : decode (mC M_X2_readAny) 25 = .ok (.iload_n 3, 1) := by decide +kernel
theorem d_X2_readAny_26 : decode (mC M_X2_readAny) 26 = .ok (.ifCond .eq 12, 3) := by decide +kernel
theorem d_X2_readAny_29 : decode (mC M_X2_readAny) 29 = .ok (.aload_n 0, 1) := by decide +kernel
theorem d_X2_readAny_30 : decode (mC M_X2_readAny) 30 = .ok (.getfield 23, 3) := by decide +kernel
theorem d_X2_readAny_33 : decode (mC M_X2_readAny) 33 = .ok (.ldc 97, 2) := by decide +kernel
theorem d_X2_readAny_35 : decode (mC M_X2_readAny) 35 = .ok (.invokevirtual 98, 3) := by decide +kernel
theorem d_X2_readAny_38 : decode (mC M_X2_readAny) 38 = .ok (.aload_n 0, 1) := by decide +kernel
theorem d_X2_readAny_39 : decode (mC M_X2_readAny) 39 = .ok (.getfield 12, 3) := by decide +kernel
theorem d_X2_readAny_42 : decode (mC M_X2_readAny) 42 = .ok (.ldc 100, 2) := by decide +kernel
theorem d_X2_readAny_44 : decode (mC M_X2_readAny) 44 = .ok (.invokevirtual 39, 3) := by decide +kernel
theorem d_X2_readAny_47 : decode (mC M_X2_readAny) 47 = .ok (.istore_n 3, 1) := by decide +kernel
theorem d_X2_readAny_48 : decode (mC M_X2_readAny) 48 = .ok (.iload_n 3, 1) := by decide +kernel
theorem d_X2_readAny_49 : decode (mC M_X2_readAny) 49 = .ok (.ifCond .ne 16, 3) := by decide +kernel
theorem d_X2_readAny_52 : decode (mC M_X2_readAny) 52 = .ok (.iload_n 2, 1) := by decide +kernel
theorem d_X2_readAny_53 : decode (mC M_X2_readAny) 53 = .ok (.ifCond .eq 12, 3) := by decide +kernel
theorem d_X2_readAny_56 : decode (mC M_X2_readAny) 56 = .ok (.aload_n 0, 1) := by decide +kernel
theorem d_X2_readAny_57 : decode (mC M_X2_readAny) 57 = .ok (.getfield 23, 3) := by decide +kernel
theorem d_X2_readAny_60 : decode (mC M_X2_readAny) 60 = .ok (.ldc 102, 2) := by decide +kernel
theorem d_X2_readAny_62 : decode (mC M_X2_readAny) 62 = .ok (.invokevirtual 98, 3) := by decide +kernel
theorem d_X2_readAny_65 : decode (mC M_X2_readAny) 65 = .ok (.iload_n 3, 1) := by decide +kernel
theorem d_X2_readAny_66 : decode (mC M_X2_readAny) 66 = .ok (.ifCond .eq 7, 3) := by decide +kernel
theorem d_X2_readAny_69 : decode (mC M_X2_readAny) 69 = .ok (.iload_n 2, 1) := by decide +kernel
theorem d_X2_readAny_70 : decode (mC M_X2_readAny) 70 = .ok (.goto 12, 3) := by decide +kernel
theorem d_X2_readAny_73 : decode (mC M_X2_readAny) 73 = .ok (.aload_n 0, 1) := by decide +kernel
theorem d_X2_readAny_74 : decode (mC M_X2_readAny) 74 = .ok (.getfield 12, 3) := by decide +kernel
theorem d_X2_readAny_77 : decode (mC M_X2_readAny) 77 = .ok (.ldc 103, 2) := by decide +kernel
theorem d_X2_readAny_79 : decode (mC M_X2_readAny) 79 = .ok (.invokevirtual 39, 3) := by decide +kernel
theorem d_X2_readAny_82 : decode (mC M_X2_readAny) 82 = .ok (.istore_n 2, 1) := by decide +kernel
theorem d_X2_readAny_83 : decode (mC M_X2_readAny) 83 = .ok (.iload_n 3, 1) := by decide +kernel
theorem d_X2_readAny_84 : decode (mC M_X2_readAny) 84 = .ok (.ifCond .ne 9, 3) := by decide +kernel
theorem d_X2_readAny_87 : decode (mC M_X2_readAny) 87 = .ok (.iload_n 2, 1) := by decide +kernel
theorem d_X2_readAny_88 : decode (mC M_X2_readAny) 88 = .ok (.ifCond .ne 5, 3) := by decide +kernel
theorem d_X2_readAny_91 : decode (mC M_X2_readAny) 91 = .ok (.iconst 1, 1) := by decide +kernel
theorem d_X2_readAny_92 : decode (mC M_X2_readAny) 92 = .ok (.ireturn, 1) := by decide +kernel
theorem d_X2_readAny_93 : decode (mC M_X2_readAny) 93 = .ok (.aload_n 0, 1) := by decide +kernel
theorem d_X2_readAny_94 : decode (mC M_X2_readAny) 94 = .ok (.getfield 12, 3) := by decide +kernel
theorem d_X2_readAny_97 : decode (mC M_X2_readAny) 97 = .ok (.invokevirtual 105, 3) := by decide +kernel
theorem d_X2_readAny_100 : decode (mC M_X2_readAny) 100 = .ok (.iinc 4 1, 3) := by decide +kernel
theorem d_X2_readAny_103 : decode (mC M_X2_readAny) 103 = .ok (.goto (-96), 3) := by decide +kernel
theorem d_X2_readAny_106 : decode (mC M_X2_readAny) 106 = .ok (.aload_n 0, 1) := by decide +kernel
theorem d_X2_readAny_107 : decode (mC M_X2_readAny) 107 = .ok (.getfield 12, 3) := by decide +kernel
theorem d_X2_readAny_110 : decode (mC M_X2_readAny) 110 = .ok (.iconst 1, 1) := by decide +kernel
theorem d_X2_readAny_111 : decode (mC M_X2_readAny) 111 = .ok (.invokevirtual 43, 3) := by decide +kernel
theorem d_X2_readAny_114 : decode (mC M_X2_readAny) 114 = .ok (.ireturn, 1) := by decide +kernel
theorem d_X2_readHead_0 : decode (mC M_X2_readHead) 0 = .ok (.aload_n 1, 1) := by decide +kernel
theorem d_X2_readHead_1 : decode (mC M_X2_readHead) 1 = .ok (.aload_n 0, 1) := by decide +kernel
theorem d_X2_readHead_2 : decode (mC M_X2_readHead) 2 = .ok (.getfield 12, 3) := by decide +kernel
theorem d_X2_readHead_5 : decode (mC M_X2_readHead) 5 = .ok (.ldc 37, 2) := by decide +kernel
theorem d_X2_readHead_7 : decode (mC M_X2_readHead) 7 = .ok (.iconst 0, 1) := by decide +kernel
theorem d_X2_readHead_8 : decode (mC M_X2_readHead) 8 = .ok (.bipush 19, 2) := by decide +kernel
theorem d_X2_readHead_10 : decode (mC M_X2_readHead) 10 = .ok (.invokevirtual 73, 3) := by decide +kernel
theorem d_X2_readHead_13 : decode (mC M_X2_readHead) 13 = .ok (.putfield 77, 3) := by decide +kernel
theorem d_X2_readHead_16 : decode (mC M_X2_readHead) 16 = .ok (.aload_n 1, 1) := by decide +kernel
theorem d_X2_readHead_17 : decode (mC M_X2_readHead) 17 = .ok (.getfield 77, 3) := by decide +kernel
theorem d_X2_readHead_20 : decode (mC M_X2_readHead) 20 = .ok (.iconst (-1), 1) := by decide +kernel
theorem d_X2_readHead_21 : decode (mC M_X2_readHead) 21 = .ok (.if_icmp .ne 5, 3) := by decide +kernel
theorem d_X2_readHead_24 : decode (mC M_X2_readHead) 24 = .ok (.iconst 0, 1) := by decide +kernel
theorem d_X2_readHead_25 : decode (mC M_X2_readHead) 25 = .ok (.ireturn, 1) := by decide +kernel
theorem d_X2_readHead_26 : decode (mC M_X2_readHead) 26 = .ok (.aload_n 1, 1) := by decide +kernel
theorem d_X2_readHead_27 : decode (mC M_X2_readHead) 27 = .ok (.aload_n 0, 1) := by decide +kernel
theorem d_X2_readHead_28 : decode (mC M_X2_readHead) 28 = .ok (.getfield 12, 3) := by decide +kernel
theorem d_X2_readHead_31 : decode (mC M_X2_readHead) 31 = .ok (.ldc 79, 2) := by decide +kernel
theorem d_X2_readHead_33 : decode (mC M_X2_readHead) 33 = .ok (.iconst 0, 1) := by decide +kernel
theorem d_X2_readHead_34 : decode (mC M_X2_readHead) 34 = .ok (.sipush 1439, 3) := by decide +kernel
theorem d_X2_readHead_37 : decode (mC M_X2_readHead) 37 = .ok (.invokevirtual 73, 3) := by decide +kernel
theorem d_X2_readHead_40 : decode (mC M_X2_readHead) 40 = .ok (.putfield 81, 3) := by decide +kernel
theorem d_X2_readHead_43 : decode (mC M_X2_readHead) 43 = .ok (.aload_n 1, 1) := by decide +kernel
theorem d_X2_readHead_44 : decode (mC M_X2_readHead) 44 = .ok (.getfield 81, 3) := by decide +kernel
theorem d_X2_readHead_47 : decode (mC M_X2_readHead) 47 = .ok (.iconst (-1), 1) := by decide +kernel
theorem d_X2_readHead_48 : decode (mC M_X2_readHead) 48 = .ok (.if_icmp .ne 5, 3) := by decide +kernel
theorem d_X2_readHead_51 : decode (mC M_X2_readHead) 51 = .ok (.iconst 0, 1) := by decide +kernel
theorem d_X2_readHead_52 : decode (mC M_X2_readHead) 52 = .ok (.ireturn, 1) := by decide +kernel
theorem d_X2_readHead_53 : decode (mC M_X2_readHead) 53 = .ok (.aload_n 1, 1) := by decide +kernel
theorem d_X2_readHead_54 : decode (mC M_X2_readHead) 54 = .ok (.aload_n 0, 1) := by decide +kernel
theorem d_X2_readHead_55 : decode (mC M_X2_readHead) 55 = .ok (.getfield 12, 3) := by decide +kernel
theorem d_X2_readHead_58 : decode (mC M_X2_readHead) 58 = .ok (.ldc 84, 2) := by decide +kernel
theorem d_X2_readHead_60 : decode (mC M_X2_readHead) 60 = .ok (.iconst 1, 1) := by decide +kernel
theorem d_X2_readHead_61 : decode (mC M_X2_readHead) 61 = .ok (.sipush 600, 3) := by decide +kernel
theorem d_X2_readHead_64 : decode (mC M_X2_readHead) 64 = .ok (.invokevirtual 73, 3) := by decide +kernel
theorem d_X2_readHead_67 : decode (mC M_X2_readHead) 67 = .ok (.putfield 86, 3) := by decide +kernel
theorem d_X2_readHead_70 : decode (mC M_X2_readHead) 70 = .ok (.aload_n 1, 1) := by decide +kernel
theorem d_X2_readHead_71 : decode (mC M_X2_readHead) 71 = .ok (.getfield 86, 3) := by decide +kernel
theorem d_X2_readHead_74 : decode (mC M_X2_readHead) 74 = .ok (.iconst (-1), 1) := by decide +kernel
theorem d_X2_readHead_75 : decode (mC M_X2_readHead) 75 = .ok (.if_icmp .ne 5, 3) := by decide +kernel
theorem d_X2_readHead_78 : decode (mC M_X2_readHead) 78 = .ok (.iconst 0, 1) := by decide +kernel
theorem d_X2_readHead_79 : decode (mC M_X2_readHead) 79 = .ok (.ireturn, 1) := by decide +kernel
theorem d_X2_readHead_80 : decode (mC M_X2_readHead) 80 = .ok (.aload_n 1, 1) := by decide +kernel
theorem d_X2_readHead_81 : decode (mC M_X2_readHead) 81 = .ok (.aload_n 0, 1) := by decide +kernel
theorem d_X2_readHead_82 : decode (mC M_X2_readHead) 82 = .ok (.getfield 12, 3) := by decide +kernel
theorem d_X2_readHead_85 : decode (mC M_X2_readHead) 85 = .ok (.ldc 89, 2) := by decide +kernel
theorem d_X2_readHead_87 : decode (mC M_X2_readHead) 87 = .ok (.iconst 1, 1) := by decide +kernel
theorem d_X2_readHead_88 : decode (mC M_X2_readHead) 88 = .ok (.bipush 8, 2) := by decide +kernel
theorem d_X2_readHead_90 : decode (mC M_X2_readHead) 90 = .ok (.invokevirtual 73, 3) := by decide +kernel
theorem d_X2_readHead_93 : decode (mC M_X2_readHead) 93 = .ok (.putfield 91, 3) := by decide +kernel
theorem d_X2_readHead_96 : decode (mC M_X2_readHead) 96 = .ok (.aload_n 1, 1) := by decide +kernel
theorem d_X2_readHead_97 : decode (mC M_X2_readHead) 97 = .ok (.getfield 91, 3) := by decide +kernel
theorem d_X2_readHead_100 : decode (mC M_X2_readHead) 100 = .ok (.iconst (-1), 1) := by decide +kernel
theorem d_X2_readHead_101 : decode (mC M_X2_readHead) 101 = .ok (.if_icmp .eq 19, 3) := by decide +kernel
theorem d_X2_readHead_104 : decode (mC M_X2_readHead) 104 = .ok (.aload_n 0, 1) := by decide +kernel
theorem d_X2_readHead_105 : decode (mC M_X2_readHead) 105 = .ok (.getfield 12, 3) := by decide +kernel
theorem d_X2_readHead_108 : decode (mC M_X2_readHead) 108 = .ok (.bipush 58, 2) := by decide +kernel
theorem d_X2_readHead_110 : decode (mC M_X2_readHead) 110 = .ok (.invokevirtual 61, 3) := by decide +kernel
theorem d_X2_readHead_113 : decode (mC M_X2_readHead) 113 = .ok (.ifCond .eq 7, 3) := by decide +kernel
theorem d_X2_readHead_116 : decode (mC M_X2_readHead) 116 = .ok (.iconst 1, 1) := by decide +kernel
theorem d_X2_readHead_117 : decode (mC M_X2_readHead) 117 = .ok (.goto 4, 3) := by decide +kernel
theorem d_X2_readHead_120 : decode (mC M_X2_readHead) 120 = .ok (.iconst 0, 1) := by decide +kernel
theorem d_X2_readHead_121 : decode (mC M_X2_readHead) 121 = .ok (.ireturn, 1) := by decide +kernel
theorem d_X2_readMark_0 : decode (mC M_X2_readMark) 0 = .ok (.aload_n 0, 1) := by decide +kernel
theorem d_X2_readMark_1 : decode (mC M_X2_readMark) 1 = .ok (.invokevirtual 117, 3) := by decide +kernel
theorem d_X2_readMark_4 : decode (mC M_X2_readMark) 4 = .ok (.istore_n 1, 1) := by decide +kernel
theorem d_X2_readMark_5 : decode (mC M_X2_readMark) 5 = .ok (.iload_n 1, 1) := by decide +kernel
theorem d_X2_readMark_6 : decode (mC M_X2_readMark) 6 = .ok (.iconst (-1), 1) := by decide +kernel
theorem d_X2_readMark_7 : decode (mC M_X2_readMark) 7 = .ok (.if_icmp .ne 12, 3) := by decide +kernel
theorem d_X2_readMark_10 : decode (mC M_X2_readMark) 10 = .ok (.aload_n 0, 1) := by decide +kernel
theorem d_X2_readMark_11 : decode (mC M_X2_readMark) 11 = .ok (.getfield 12, 3) := by decide +kernel
theorem d_X2_readMark_14 : decode (mC M_X2_readMark) 14 = .ok (.iconst 1, 1) := by decide +kernel
theorem d_X2_readMark_15 : decode (mC M_X2_readMark) 15 = .ok (.invokevirtual 43, 3) := by decide +kernel
theorem d_X2_readMark_18 : decode (mC M_X2_readMark) 18 = .ok (.ireturn, 1) := by decide +kernel
theorem d_X2_readMark_19 : decode (mC M_X2_readMark) 19 = .ok (.aload_n 0, 1) := by decide +kernel
theorem d_X2_readMark_20 : decode (mC M_X2_readMark) 20 = .ok (.getfield 12, 3) := by decide +kernel
theorem d_X2_readMark_23 : decode (mC M_X2_readMark) 23 = .ok (.invokevirtual 105, 3) := by decide +kernel
theorem d_X2_readMark_26 : decode (mC M_X2_readMark) 26 = .ok (.iload_n 1, 1) := by decide +kernel
theorem d_X2_readMark_27 : decode (mC M_X2_readMark) 27 = .ok (.iconst 4, 1) := by decide +kernel
theorem d_X2_readMark_28 : decode (mC M_X2_readMark) 28 = .ok (.if_icmp .eq 9, 3) := by decide +kernel
theorem d_X2_readMark_31 : decode (mC M_X2_readMark) 31 = .ok (.iload_n 1, 1) := by decide +kernel
theorem d_X2_readMark_32 : decode (mC M_X2_readMark) 32 = .ok (.bipush 6, 2) := by decide +kernel
theorem d_X2_readMark_34 : decode (mC M_X2_readMark) 34 = .ok (.if_icmp .ne 57, 3) := by decide +kernel
theorem d_X2_readMark_37 : decode (mC M_X2_readMark) 37 = .ok (.aload_n 0, 1) := by decide +kernel
theorem d_X2_readMark_38 : decode (mC M_X2_readMark) 38 = .ok (.getfield 12, 3) := by decide +kernel
theorem d_X2_readMark_41 : decode (mC M_X2_readMark) 41 = .ok (.bipush 60, 2) := by decide +kernel
theorem d_X2_readMark_43 : decode (mC M_X2_readMark) 43 = .ok (.invokevirtual 110, 3) := by decide +kernel
theorem d_X2_readMark_46 : decode (mC M_X2_readMark) 46 = .ok (.istore_n 2, 1) := by decide +kernel
theorem d_X2_readMark_47 : decode (mC M_X2_readMark) 47 = .ok (.iload_n 2, 1) := by decide +kernel
theorem d_X2_readMark_48 : decode (mC M_X2_readMark) 48 = .ok (.ifCond .ne 24, 3) := by decide +kernel
theorem d_X2_readMark_51 : decode (mC M_X2_readMark) 51 = .ok (.aload_n 0, 1) := by decide +kernel
theorem d_X2_readMark_52 : decode (mC M_X2_readMark) 52 = .ok (.getfield 12, 3) := by decide +kernel
theorem d_X2_readMark_55 : decode (mC M_X2_readMark) 55 = .ok (.bipush 62, 2) := by decide +kernel
theorem d_X2_readMark_57 : decode (mC M_X2_readMark) 57 = .ok (.invokevirtual 110, 3) := by decide +kernel
theorem d_X2_readMark_60 : decode (mC M_X2_readMark) 60 = .ok (.ifCond .ne 12, 3) := by decide +kernel
theorem d_X2_readMark_63 : decode (mC M_X2_readMark) 63 = .ok (.aload_n 0, 1) := by decide +kernel
theorem d_X2_readMark_64 : decode (mC M_X2_readMark) 64 = .ok (.getfield 12, 3) := by decide +kernel
theorem d_X2_readMark_67 : decode (mC M_X2_readMark) 67 = .ok (.iconst 1, 1) := by decide +kernel
theorem d_X2_readMark_68 : decode (mC M_X2_readMark) 68 = .ok (.invokevirtual 43, 3) := by decide +kernel
theorem d_X2_readMark_71 : decode (mC M_X2_readMark) 71 = .ok (.ireturn, 1) := by decide +kernel
theorem d_X2_readMark_72 : decode (mC M_X2_readMark) 72 = .ok (.aload_n 0, 1) := by decide +kernel
theorem d_X2_readMark_73 : decode (mC M_X2_readMark) 73 = .ok (.getfield 12, 3) := by decide +kernel
theorem d_X2_readMark_76 : decode (mC M_X2_readMark) 76 = .ok (.invokevirtual 105, 3) := by decide +kernel
theorem d_X2_readMark_79 : decode (mC M_X2_readMark) 79 = .ok (.iload_n 2, 1) := by decide +kernel
theorem d_X2_readMark_80 : decode (mC M_X2_readMark) 80 = .ok (.ifCond .eq 7, 3) := by decide +kernel
theorem d_X2_readMark_83 : decode (mC M_X2_readMark) 83 = .ok (.iload_n 1, 1) := by decide +kernel
theorem d_X2_readMark_84 : decode (mC M_X2_readMark) 84 = .ok (.goto 6, 3) := by decide +kernel
theorem d_X2_readMark_87 : decode (mC M_X2_readMark) 87 = .ok (.iload_n 1, 1) := by decide +kernel
theorem d_X2_readMark_88 : decode (mC M_X2_readMark) 88 = .ok (.iconst 1, 1) := by decide +kernel
theorem d_X2_readMark_89 : decode (mC M_X2_readMark) 89 = .ok (.iadd, 1) := by decide +kernel
theorem d_X2_readMark_90 : decode (mC M_X2_readMark) 90 = .ok (.istore_n 1, 1) := by decide +kernel
theorem d_X2_readMark_91 : decode (mC M_X2_readMark) 91 = .ok (.iload_n 1, 1) := by decide +kernel
theorem d_X2_readMark_92 : decode (mC M_X2_readMark) 92 = .ok (.ifCond .ne 7, 3) := by decide +kernel
theorem d_X2_readMark_95 : decode (mC M_X2_readMark) 95 = .ok (.iconst 0, 1) := by decide +kernel
theorem d_X2_readMark_96 : decode (mC M_X2_readMark) 96 = .ok (.goto 15, 3) := by decide +kernel
theorem d_X2_readMark_99 : decode (mC M_X2_readMark) 99 = .ok (.aload_n 0, 1) := by decide +kernel
theorem d_X2_readMark_100 : decode (mC M_X2_readMark) 100 = .ok (.getfield 12, 3) := by decide +kernel
theorem d_X2_readMark_103 : decode (mC M_X2_readMark) 103 = .ok (.iconst 0, 1) := by decide +kernel
theorem d_X2_readMark_104 : decode (mC M_X2_readMark) 104 = .ok (.iload_n 1, 1) := by decide +kernel
theorem d_X2_readMark_105 : decode (mC M_X2_readMark) 105 = .ok (.invokestatic 121, 3) := by decide +kernel
theorem d_X2_readMark_108 : decode (mC M_X2_readMark) 108 = .ok (.invokevirtual 125, 3) := by decide +kernel
theorem d_X2_readMark_111 : decode (mC M_X2_readMark) 111 = .ok (.istore_n 2, 1) := by decide +kernel
theorem d_X2_readMark_112 : decode (mC M_X2_readMark) 112 = .ok (.iload_n 2, 1) := by decide +kernel
theorem d_X2_readMark_113 : decode (mC M_X2_readMark) 113 = .ok (.iconst (-1), 1) := by decide +kernel
theorem d_X2_readMark_114 : decode (mC M_X2_readMark) 114 = .ok (.if_icmp .ne 5, 3) := by decide +kernel
theorem d_X2_readMark_117 : decode (mC M_X2_readMark) 117 = .ok (.iconst 0, 1) := by decide +kernel
theorem d_X2_readMark_118 : decode (mC M_X2_readMark) 118 = .ok (.ireturn, 1) := by decide +kernel
theorem d_X2_readMark_119 : decode (mC M_X2_readMark) 119 = .ok (.aload_n 0, 1) := by decide +kernel
theorem d_X2_readMark_120 : decode (mC M_X2_readMark) 120 = .ok (.getfield 23, 3) := by decide +kernel
theorem d_X2_readMark_123 : decode (mC M_X2_readMark) 123 = .ok (.iload_n 1, 1) := by decide +kernel
theorem d_X2_readMark_124 : decode (mC M_X2_readMark) 124 = .ok (.ldc 129, 2) := by decide +kernel
theorem d_X2_readMark_126 : decode (mC M_X2_readMark) 126 = .ok (.imul, 1) := by decide +kernel
theorem d_X2_readMark_127 : decode (mC M_X2_readMark) 127 = .ok (.iload_n 2, 1) := by decide +kernel
theorem d_X2_readMark_128 : decode (mC M_X2_readMark) 128 = .ok (.iadd, 1) := by decide +kernel
theorem d_X2_readMark_129 : decode (mC M_X2_readMark) 129 = .ok (.invokevirtual 98, 3) := by decide +kernel
theorem d_X2_readMark_132 : decode (mC M_X2_readMark) 132 = .ok (.iconst 1, 1) := by decide +kernel
theorem d_X2_readMark_133 : decode (mC M_X2_readMark) 133 = .ok (.ireturn, 1) := by decide +kernel
theorem d_X2_readOne_0 : decode (mC M_X2_readOne) 0 = .ok (.aload_n 0, 1) := by decide +kernel
theorem d_X2_readOne_1 : decode (mC M_X2_readOne) 1 = .ok (.getfield 12, 3) := by decide +kernel
theorem d_X2_readOne_4 : decode (mC M_X2_readOne) 4 = .ok (.ldc 108, 2) := by decide +kernel
theorem d_X2_readOne_6 : decode (mC M_X2_readOne) 6 = .ok (.invokevirtual 39, 3) := by decide +kernel
theorem d_X2_readOne_9 : decode (mC M_X2_readOne) 9 = .ok (.istore_n 2, 1) := by decide +kernel
theorem d_X2_readOne_10 : decode (mC M_X2_readOne) 10 = .ok (.iload_n 2, 1) := by decide +kernel
theorem d_X2_readOne_11 : decode (mC M_X2_readOne) 11 = .ok (.ifCond .ne 20, 3) := by decide +kernel
theorem d_X2_readOne_14 : decode (mC M_X2_readOne) 14 = .ok (.aload_n 0, 1) := by decide +kernel
theorem d_X2_readOne_15 : decode (mC M_X2_readOne) 15 = .ok (.getfield 12, 3) := by decide +kernel
theorem d_X2_readOne_18 : decode (mC M_X2_readOne) 18 = .ok (.bipush 40, 2) := by decide +kernel
theorem d_X2_readOne_20 : decode (mC M_X2_readOne) 20 = .ok (.invokevirtual 110, 3) := by decide +kernel
theorem d_X2_readOne_23 : decode (mC M_X2_readOne) 23 = .ok (.ifCond .ne 8, 3) := by decide +kernel
theorem d_X2_readOne_26 : decode (mC M_X2_readOne) 26 = .ok (.aload_n 0, 1) := by decide +kernel
theorem d_X2_readOne_27 : decode (mC M_X2_readOne) 27 = .ok (.invokevirtual 113, 3) := by decide +kernel
theorem d_X2_readOne_30 : decode (mC M_X2_readOne) 30 = .ok (.ireturn, 1) := by decide +kernel
theorem d_X2_readOne_31 : decode (mC M_X2_readOne) 31 = .ok (.iload_n 1, 1) := by decide +kernel
theorem d_X2_readOne_32 : decode (mC M_X2_readOne) 32 = .ok (.bipush 8, 2) := by decide +kernel
theorem d_X2_readOne_34 : decode (mC M_X2_readOne) 34 = .ok (.if_icmp .lt 12, 3) := by decide +kernel
theorem d_X2_readOne_37 : decode (mC M_X2_readOne) 37 = .ok (.aload_n 0, 1) := by decide +kernel
theorem d_X2_readOne_38 : decode (mC M_X2_readOne) 38 = .ok (.getfield 12, 3) := by decide +kernel
theorem d_X2_readOne_41 : decode (mC M_X2_readOne) 41 = .ok (.iconst 2, 1) := by decide +kernel
theorem d_X2_readOne_42 : decode (mC M_X2_readOne) 42 = .ok (.invokevirtual 43, 3) := by decide +kernel
theorem d_X2_readOne_45 : decode (mC M_X2_readOne) 45 = .ok (.ireturn, 1) := by decide +kernel
theorem d_X2_readOne_46 : decode (mC M_X2_readOne) 46 = .ok (.aload_n 0, 1) := by decide +kernel
theorem d_X2_readOne_47 : decode (mC M_X2_readOne) 47 = .ok (.getfield 12, 3) := by decide +kernel
theorem d_X2_readOne_50 : decode (mC M_X2_readOne) 50 = .ok (.invokevirtual 105, 3) := by decide +kernel
theorem d_X2_readOne_53 : decode (mC M_X2_readOne) 53 = .ok (.iload_n 2, 1) := by decide +kernel
theorem d_X2_readOne_54 : decode (mC M_X2_readOne) 54 = .ok (.ifCond .ne 31, 3) := by decide +kernel
theorem d_X2_readOne_57 : decode (mC M_X2_readOne) 57 = .ok (.aload_n 0, 1) := by decide +kernel
theorem d_X2_readOne_58 : decode (mC M_X2_readOne) 58 = .ok (.iload_n 1, 1) := by decide +kernel
theorem d_X2_readOne_59 : decode (mC M_X2_readOne) 59 = .ok (.iconst 1, 1) := by decide +kernel
theorem d_X2_readOne_60 : decode (mC M_X2_readOne) 60 = .ok (.iadd, 1) := by decide +kernel
theorem d_X2_readOne_61 : decode (mC M_X2_readOne) 61 = .ok (.invokevirtual 58, 3) := by decide +kernel
theorem d_X2_readOne_64 : decode (mC M_X2_readOne) 64 = .ok (.ifCond .eq 19, 3) := by decide +kernel
theorem d_X2_readOne_67 : decode (mC M_X2_readOne) 67 = .ok (.aload_n 0, 1) := by decide +kernel
theorem d_X2_readOne_68 : decode (mC M_X2_readOne) 68 = .ok (.getfield 12, 3) := by decide +kernel
theorem d_X2_readOne_71 : decode (mC M_X2_readOne) 71 = .ok (.bipush 41, 2) := by decide +kernel
theorem d_X2_readOne_73 : decode (mC M_X2_readOne) 73 = .ok (.invokevirtual 61, 3) := by decide +kernel
theorem d_X2_readOne_76 : decode (mC M_X2_readOne) 76 = .ok (.ifCond .eq 7, 3) := by decide +kernel
theorem d_X2_readOne_79 : decode (mC M_X2_readOne) 79 = .ok (.iconst 1, 1) := by decide +kernel
theorem d_X2_readOne_80 : decode (mC M_X2_readOne) 80 = .ok (.goto 4, 3) := by decide +kernel
theorem d_X2_readOne_83 : decode (mC M_X2_readOne) 83 = .ok (.iconst 0, 1) := by decide +kernel
theorem d_X2_readOne_84 : decode (mC M_X2_readOne) 84 = .ok (.ireturn, 1) := by decide +kernel
theorem d_X2_readOne_85 : decode (mC M_X2_readOne) 85 = .ok (.aload_n 0, 1) := by decide +kernel
theorem d_X2_readOne_86 : decode (mC M_X2_readOne) 86 = .ok (.iload_n 1, 1) := by decide +kernel
theorem d_X2_readOne_87 : decode (mC M_X2_readOne) 87 = .ok (.iconst 1, 1) := by decide +kernel
theorem d_X2_readOne_88 : decode (mC M_X2_readOne) 88 = .ok (.iadd, 1) := by decide +kernel
theorem d_X2_readOne_89 : decode (mC M_X2_readOne) 89 = .ok (.invokevirtual 94, 3) := by decide +kernel
theorem d_X2_readOne_92 : decode (mC M_X2_readOne) 92 = .ok (.ifCond .ne 5, 3) := by decide +kernel
theorem d_X2_readOne_95 : decode (mC M_X2_readOne) 95 = .ok (.iconst 0, 1) := by decide +kernel
theorem d_X2_readOne_96 : decode (mC M_X2_readOne) 96 = .ok (.ireturn, 1) := by decide +kernel
theorem d_X2_readOne_97 : decode (mC M_X2_readOne) 97 = .ok (.aload_n 0, 1) := by decide +kernel
theorem d_X2_readOne_98 : decode (mC M_X2_readOne) 98 = .ok (.getfield 23, 3) := by decide +kernel
theorem d_X2_readOne_101 : decode (mC M_X2_readOne) 101 = .ok (.ldc 116, 2) := by decide +kernel
theorem d_X2_readOne_103 : decode (mC M_X2_readOne) 103 = .ok (.invokevirtual 98, 3) := by decide +kernel
theorem d_X2_readOne_106 : decode (mC M_X2_readOne) 106 = .ok (.iconst 1, 1) := by decide +kernel
theorem d_X2_readOne_107 : decode (mC M_X2_readOne) 107 = .ok (.ireturn, 1) := by decide +kernel
theorem d_X3_comeAll_0 : decode (mC M_X3_comeAll) 0 = .ok (.aload_n 0, 1) := by decide +kernel
theorem d_X3_comeAll_1 : decode (mC M_X3_comeAll) 1 = .ok (.getfield 12, 3) := by decide +kernel
theorem d_X3_comeAll_4 : decode (mC M_X3_comeAll) 4 = .ok (.invokevirtual 25, 3) := by decide +kernel
theorem d_X3_comeAll_7 : decode (mC M_X3_comeAll) 7 = .ok (.aload_n 0, 1) := by decide +kernel
theorem d_X3_comeAll_8 : decode (mC M_X3_comeAll) 8 = .ok (.getfield 18, 3) := by decide +kernel
theorem d_X3_comeAll_11 : decode (mC M_X3_comeAll) 11 = .ok (.invokevirtual 25, 3) := by decide +kernel
theorem d_X3_comeAll_14 : decode (mC M_X3_comeAll) 14 = .ok (.iconst 0, 1) := by decide +kernel
theorem d_X3_comeAll_15 : decode (mC M_X3_comeAll) 15 = .ok (.istore 4, 2) := by decide +kernel
theorem d_X3_comeAll_17 : decode (mC M_X3_comeAll) 17 = .ok (.iload 4, 2) := by decide +kernel
theorem d_X3_comeAll_19 : decode (mC M_X3_comeAll) 19 = .ok (.aload_n 1, 1) := by decide +kernel
theorem d_X3_comeAll_20 : decode (mC M_X3_comeAll) 20 = .ok (.invokevirtual 28, 3) := by decide +kernel
theorem d_X3_comeAll_23 : decode (mC M_X3_comeAll) 23 = .ok (.if_icmp .ge 100, 3) := by decide +kernel
theorem d_X3_comeAll_26 : decode (mC M_X3_comeAll) 26 = .ok (.aload_n 1, 1) := by decide +kernel
theorem d_X3_comeAll_27 : decode (mC M_X3_comeAll) 27 = .ok (.iload 4, 2) := by decide +kernel
theorem d_X3_comeAll_29 : decode (mC M_X3_comeAll) 29 = .ok (.invokevirtual 32, 3) := by decide +kernel
theorem d_X3_comeAll_32 : decode (mC M_X3_comeAll) 32 = .ok (.checkcast 36, 3) := by decide +kernel
theorem d_X3_comeAll_35 : decode (mC M_X3_comeAll) 35 = .ok (.astore 5, 2) := by decide +kernel
theorem d_X3_comeAll_37 : decode (mC M_X3_comeAll) 37 = .ok (.aload 5, 2) := by decide +kernel
theorem d_X3_comeAll_39 : decode (mC M_X3_comeAll) 39 = .ok (.getfield 38, 3) := by decide +kernel
theorem d_X3_comeAll_42 : decode (mC M_X3_comeAll) 42 = .ok (.ifnull 75, 3) := by decide +kernel
theorem d_X3_comeAll_45 : decode (mC M_X3_comeAll) 45 = .ok (.iload_n 2, 1) := by decide +kernel
theorem d_X3_comeAll_46 : decode (mC M_X3_comeAll) 46 = .ok (.bipush 31, 2) := by decide +kernel
theorem d_X3_comeAll_48 : decode (mC M_X3_comeAll) 48 = .ok (.iload 4, 2) := by decide +kernel
theorem d_X3_comeAll_50 : decode (mC M_X3_comeAll) 50 = .ok (.imul, 1) := by decide +kernel
theorem d_X3_comeAll_51 : decode (mC M_X3_comeAll) 51 = .ok (.iadd, 1) := by decide +kernel
theorem d_X3_comeAll_52 : decode (mC M_X3_comeAll) 52 = .ok (.bipush 7, 2) := by decide +kernel
theorem d_X3_comeAll_54 : decode (mC M_X3_comeAll) 54 = .ok (.iload_n 3, 1) := by decide +kernel
theorem d_X3_comeAll_55 : decode (mC M_X3_comeAll) 55 = .ok (.imul, 1) := by decide +kernel
theorem d_X3_comeAll_56 : decode (mC M_X3_comeAll) 56 = .ok (.iadd, 1) := by decide +kernel
theorem d_X3_comeAll_57 : decode (mC M_X3_comeAll) 57 = .ok (.invokestatic 42, 3) := by decide +kernel
theorem d_X3_comeAll_60 : decode (mC M_X3_comeAll) 60 = .ok (.bipush 16, 2) := by decide +kernel
theorem d_X3_comeAll_62 : decode (mC M_X3_comeAll) 62 = .ok (.iushr, 1) := by decide +kernel
theorem d_X3_comeAll_63 : decode (mC M_X3_comeAll) 63 = .ok (.bipush 20, 2) := by decide +kernel
theorem d_X3_comeAll_65 : decode (mC M_X3_comeAll) 65 = .ok (.irem, 1) := by decide +kernel
theorem d_X3_comeAll_66 : decode (mC M_X3_comeAll) 66 = .ok (.istore 6, 2) := by decide +kernel
theorem d_X3_comeAll_68 : decode (mC M_X3_comeAll) 68 = .ok (.new 46, 3) := by decide +kernel
theorem d_X3_comeAll_71 : decode (mC M_X3_comeAll) 71 = .ok (.dup, 1) := by decide +kernel
theorem d_X3_comeAll_72 : decode (mC M_X3_comeAll) 72 = .ok (.aload 5, 2) := by decide +kernel
theorem d_X3_comeAll_74 : decode (mC M_X3_comeAll) 74 = .ok (.iload_n 3, 1) := by decide +kernel
theorem d_X3_comeAll_75 : decode (mC M_X3_comeAll) 75 = .ok (.aload 5, 2) := by decide +kernel
theorem d_X3_comeAll_77 : decode (mC M_X3_comeAll) 77 = .ok (.getfield 38, 3) := by decide +kernel
theorem d_X3_comeAll_80 : decode (mC M_X3_comeAll) 80 = .ok (.invokespecial 48, 3) := by decide +kernel
theorem d_X3_comeAll_83 : decode (mC M_X3_comeAll) 83 = .ok (.astore 7, 2) := by decide +kernel
theorem d_X3_comeAll_85 : decode (mC M_X3_comeAll) 85 = .ok (.aload 7, 2) := by decide +kernel
theorem d_X3_comeAll_87 : decode (mC M_X3_comeAll) 87 = .ok (.aload 5, 2) := by decide +kernel
theorem d_X3_comeAll_89 : decode (mC M_X3_comeAll) 89 = .ok (.getfield 38, 3) := by decide +kernel
theorem d_X3_comeAll_92 : decode (mC M_X3_comeAll) 92 = .ok (.getfield 51, 3) := by decide +kernel
theorem d_X3_comeAll_95 : decode (mC M_X3_comeAll) 95 = .ok (.iload 6, 2) := by decide +kernel
theorem d_X3_comeAll_97 : decode (mC M_X3_comeAll) 97 = .ok (.iadd, 1) := by decide +kernel
theorem d_X3_comeAll_98 : decode (mC M_X3_comeAll) 98 = .ok (.putfield 57, 3) := by decide +kernel
theorem d_X3_comeAll_101 : decode (mC M_X3_comeAll) 101 = .ok (.aload_n 0, 1) := by decide +kernel
theorem d_X3_comeAll_102 : decode (mC M_X3_comeAll) 102 = .ok (.getfield 12, 3) := by decide +kernel
theorem d_X3_comeAll_105 : decode (mC M_X3_comeAll) 105 = .ok (.aload 7, 2) := by decide +kernel
theorem d_X3_comeAll_107 : decode (mC M_X3_comeAll) 107 = .ok (.invokevirtual 60, 3) := by decide +kernel
theorem d_X3_comeAll_110 : decode (mC M_X3_comeAll) 110 = .ok (.pop, 1) := by decide +kernel
theorem d_X3_comeAll_111 : decode (mC M_X3_comeAll) 111 = .ok (.aload_n 0, 1) := by decide +kernel
theorem d_X3_comeAll_112 : decode (mC M_X3_comeAll) 112 = .ok (.aload 7, 2) := by decide +kernel
theorem d_X3_comeAll_114 : decode (mC M_X3_comeAll) 114 = .ok (.invokevirtual 64, 3) := by decide +kernel
theorem d_X3_comeAll_117 : decode (mC M_X3_comeAll) 117 = .ok (.iinc 4 1, 3) := by decide +kernel
theorem d_X3_comeAll_120 : decode (mC M_X3_comeAll) 120 = .ok (.goto (-103), 3) := by decide +kernel
theorem d_X3_comeAll_123 : decode (mC M_X3_comeAll) 123 = .ok (.return_, 1) := by decide +kernel
theorem d_X3_dressAll_0 : decode (mC M_X3_dressAll) 0 = .ok (.iconst 0, 1) := by decide +kernel
theorem d_X3_dressAll_1 : decode (mC M_X3_dressAll) 1 = .ok (.istore_n 2, 1) := by decide +kernel
theorem d_X3_dressAll_2 : decode (mC M_X3_dressAll) 2 = .ok (.iload_n 2, 1) := by decide +kernel
theorem d_X3_dressAll_3 : decode (mC M_X3_dressAll) 3 = .ok (.aload_n 0, 1) := by decide +kernel
theorem d_X3_dressAll_4 : decode (mC M_X3_dressAll) 4 = .ok (.getfield 21, 3) := by decide +kernel
theorem d_X3_dressAll_7 : decode (mC M_X3_dressAll) 7 = .ok (.arraylength, 1) := by decide +kernel
theorem d_X3_dressAll_8 : decode (mC M_X3_dressAll) 8 = .ok (.if_icmp .ge 16, 3) := by decide +kernel
theorem d_X3_dressAll_11 : decode (mC M_X3_dressAll) 11 = .ok (.aload_n 0, 1) := by decide +kernel
theorem d_X3_dressAll_12 : decode (mC M_X3_dressAll) 12 = .ok (.getfield 21, 3) := by decide +kernel
theorem d_X3_dressAll_15 : decode (mC M_X3_dressAll) 15 = .ok (.iload_n 2, 1) := by decide +kernel
theorem d_X3_dressAll_16 : decode (mC M_X3_dressAll) 16 = .ok (.iconst 0, 1) := by decide +kernel
theorem d_X3_dressAll_17 : decode (mC M_X3_dressAll) 17 = .ok (.iastore, 1) := by decide +kernel
theorem d_X3_dressAll_18 : decode (mC M_X3_dressAll) 18 = .ok (.iinc 2 1, 3) := by decide +kernel
theorem d_X3_dressAll_21 : decode (mC M_X3_dressAll) 21 = .ok (.goto (-19), 3) := by decide +kernel
theorem d_X3_dressAll_24 : decode (mC M_X3_dressAll) 24 = .ok (.iconst 0, 1) := by decide +kernel
theorem d_X3_dressAll_25 : decode (mC M_X3_dressAll) 25 = .ok (.istore_n 2, 1) := by decide +kernel
theorem d_X3_dressAll_26 : decode (mC M_X3_dressAll) 26 = .ok (.iload_n 2, 1) := by decide +kernel
theorem d_X3_dressAll_27 : decode (mC M_X3_dressAll) 27 = .ok (.aload_n 0, 1) := by decide +kernel
theorem d_X3_dressAll_28 : decode (mC M_X3_dressAll) 28 = .ok (.getfield 18, 3) := by decide +kernel
theorem d_X3_dressAll_31 : decode (mC M_X3_dressAll) 31 = .ok (.invokevirtual 28, 3) := by decide +kernel
theorem d_X3_dressAll_34 : decode (mC M_X3_dressAll) 34 = .ok (.if_icmp .ge 101, 3) := by decide +kernel
theorem d_X3_dressAll_37 : decode (mC M_X3_dressAll) 37 = .ok (.aload_n 0, 1) := by decide +kernel
theorem d_X3_dressAll_38 : decode (mC M_X3_dressAll) 38 = .ok (.getfield 18, 3) := by decide +kernel
theorem d_X3_dressAll_41 : decode (mC M_X3_dressAll) 41 = .ok (.iload_n 2, 1) := by decide +kernel
theorem d_X3_dressAll_42 : decode (mC M_X3_dressAll) 42 = .ok (.invokevirtual 32, 3) := by decide +kernel
theorem d_X3_dressAll_45 : decode (mC M_X3_dressAll) 45 = .ok (.checkcast 46, 3) := by decide +kernel
theorem d_X3_dressAll_48 : decode (mC M_X3_dressAll) 48 = .ok (.astore_n 3, 1) := by decide +kernel
theorem d_X3_dressAll_49 : decode (mC M_X3_dressAll) 49 = .ok (.aload_n 0, 1) := by decide +kernel
theorem d_X3_dressAll_50 : decode (mC M_X3_dressAll) 50 = .ok (.iload_n 1, 1) := by decide +kernel
theorem d_X3_dressAll_51 : decode (mC M_X3_dressAll) 51 = .ok (.invokevirtual 72, 3) := by decide +kernel
theorem d_X3_dressAll_54 : decode (mC M_X3_dressAll) 54 = .ok (.istore 4, 2) := by decide +kernel
theorem d_X3_dressAll_56 : decode (mC M_X3_dressAll) 56 = .ok (.iload 4, 2) := by decide +kernel
theorem d_X3_dressAll_58 : decode (mC M_X3_dressAll) 58 = .ok (.ifCond .lt 71, 3) := by decide +kernel
theorem d_X3_dressAll_61 : decode (mC M_X3_dressAll) 61 = .ok (.iload 4, 2) := by decide +kernel
theorem d_X3_dressAll_63 : decode (mC M_X3_dressAll) 63 = .ok (.aload_n 0, 1) := by decide +kernel
theorem d_X3_dressAll_64 : decode (mC M_X3_dressAll) 64 = .ok (.getfield 21, 3) := by decide +kernel
theorem d_X3_dressAll_67 : decode (mC M_X3_dressAll) 67 = .ok (.arraylength, 1) := by decide +kernel
theorem d_X3_dressAll_68 : decode (mC M_X3_dressAll) 68 = .ok (.if_icmp .ge 61, 3) := by decide +kernel
theorem d_X3_dressAll_71 : decode (mC M_X3_dressAll) 71 = .ok (.aload_n 3, 1) := by decide +kernel
theorem d_X3_dressAll_72 : decode (mC M_X3_dressAll) 72 = .ok (.aload_n 0, 1) := by decide +kernel
theorem d_X3_dressAll_73 : decode (mC M_X3_dressAll) 73 = .ok (.getfield 21, 3) := by decide +kernel
theorem d_X3_dressAll_76 : decode (mC M_X3_dressAll) 76 = .ok (.iload 4, 2) := by decide +kernel
theorem d_X3_dressAll_78 : decode (mC M_X3_dressAll) 78 = .ok (.iaload, 1) := by decide +kernel
theorem d_X3_dressAll_79 : decode (mC M_X3_dressAll) 79 = .ok (.aload_n 3, 1) := by decide +kernel
theorem d_X3_dressAll_80 : decode (mC M_X3_dressAll) 80 = .ok (.getfield 57, 3) := by decide +kernel
theorem d_X3_dressAll_83 : decode (mC M_X3_dressAll) 83 = .ok (.invokestatic 75, 3) := by decide +kernel
theorem d_X3_dressAll_86 : decode (mC M_X3_dressAll) 86 = .ok (.aload_n 3, 1) := by decide +kernel
theorem d_X3_dressAll_87 : decode (mC M_X3_dressAll) 87 = .ok (.getfield 81, 3) := by decide +kernel
theorem d_X3_dressAll_90 : decode (mC M_X3_dressAll) 90 = .ok (.getfield 85, 3) := by decide +kernel
theorem d_X3_dressAll_93 : decode (mC M_X3_dressAll) 93 = .ok (.iadd, 1) := by decide +kernel
theorem d_X3_dressAll_94 : decode (mC M_X3_dressAll) 94 = .ok (.putfield 88, 3) := by decide +kernel
theorem d_X3_dressAll_97 : decode (mC M_X3_dressAll) 97 = .ok (.aload_n 0, 1) := by decide +kernel
theorem d_X3_dressAll_98 : decode (mC M_X3_dressAll) 98 = .ok (.getfield 21, 3) := by decide +kernel
theorem d_X3_dressAll_101 : decode (mC M_X3_dressAll) 101 = .ok (.iload 4, 2) := by decide +kernel
theorem d_X3_dressAll_103 : decode (mC M_X3_dressAll) 103 = .ok (.aload_n 3, 1) := by decide +kernel
theorem d_X3_dressAll_104 : decode (mC M_X3_dressAll) 104 = .ok (.getfield 88, 3) := by decide +kernel
theorem d_X3_dressAll_107 : decode (mC M_X3_dressAll) 107 = .ok (.iastore, 1) := by decide +kernel
theorem d_X3_dressAll_108 : decode (mC M_X3_dressAll) 108 = .ok (.aload_n 3, 1) := by decide +kernel
theorem d_X3_dressAll_109 : decode (mC M_X3_dressAll) 109 = .ok (.getfield 91, 3) := by decide +kernel
theorem d_X3_dressAll_112 : decode (mC M_X3_dressAll) 112 = .ok (.aload_n 3, 1) := by decide +kernel
theorem d_X3_dressAll_113 : decode (mC M_X3_dressAll) 113 = .ok (.getfield 91, 3) := by decide +kernel
theorem d_X3_dressAll_116 : decode (mC M_X3_dressAll) 116 = .ok (.getfield 94, 3) := by decide +kernel
theorem d_X3_dressAll_119 : decode (mC M_X3_dressAll) 119 = .ok (.aload_n 3, 1) := by decide +kernel
theorem d_X3_dressAll_120 : decode (mC M_X3_dressAll) 120 = .ok (.getfield 88, 3) := by decide +kernel
theorem d_X3_dressAll_123 : decode (mC M_X3_dressAll) 123 = .ok (.invokestatic 75, 3) := by decide +kernel
theorem d_X3_dressAll_126 : decode (mC M_X3_dressAll) 126 = .ok (.putfield 94, 3) := by decide +kernel
theorem d_X3_dressAll_129 : decode (mC M_X3_dressAll) 129 = .ok (.iinc 2 1, 3) := by decide +kernel
theorem d_X3_dressAll_132 : decode (mC M_X3_dressAll) 132 = .ok (.goto (-106), 3) := by decide +kernel
theorem d_X3_dressAll_135 : decode (mC M_X3_dressAll) 135 = .ok (.return_, 1) := by decide +kernel
theorem d_X3_firstFree_0 : decode (mC M_X3_firstFree) 0 = .ok (.iconst 0, 1) := by decide +kernel
theorem d_X3_firstFree_1 : decode (mC M_X3_firstFree) 1 = .ok (.istore_n 2, 1) := by decide +kernel
theorem d_X3_firstFree_2 : decode (mC M_X3_firstFree) 2 = .ok (.iconst 1, 1) := by decide +kernel
theorem d_X3_firstFree_3 : decode (mC M_X3_firstFree) 3 = .ok (.istore_n 3, 1) := by decide +kernel
theorem d_X3_firstFree_4 : decode (mC M_X3_firstFree) 4 = .ok (.iload_n 3, 1) := by decide +kernel
theorem d_X3_firstFree_5 : decode (mC M_X3_firstFree) 5 = .ok (.iload_n 1, 1) := by decide +kernel
theorem d_X3_firstFree_6 : decode (mC M_X3_firstFree) 6 = .ok (.if_icmp .ge 35, 3) := by decide +kernel
theorem d_X3_firstFree_9 : decode (mC M_X3_firstFree) 9 = .ok (.iload_n 3, 1) := by decide +kernel
theorem d_X3_firstFree_10 : decode (mC M_X3_firstFree) 10 = .ok (.aload_n 0, 1) := by decide +kernel
theorem d_X3_firstFree_11 : decode (mC M_X3_firstFree) 11 = .ok (.getfield 21, 3) := by decide +kernel
theorem d_X3_firstFree_14 : decode (mC M_X3_firstFree) 14 = .ok (.arraylength, 1) := by decide +kernel
theorem d_X3_firstFree_15 : decode (mC M_X3_firstFree) 15 = .ok (.if_icmp .ge 26, 3) := by decide +kernel
theorem d_X3_firstFree_18 : decode (mC M_X3_firstFree) 18 = .ok (.aload_n 0, 1) := by decide +kernel
theorem d_X3_firstFree_19 : decode (mC M_X3_firstFree) 19 = .ok (.getfield 21, 3) := by decide +kernel
theorem d_X3_firstFree_22 : decode (mC M_X3_firstFree) 22 = .ok (.iload_n 3, 1) := by decide +kernel
theorem d_X3_firstFree_23 : decode (mC M_X3_firstFree) 23 = .ok (.iaload, 1) := by decide +kernel
theorem d_X3_firstFree_24 : decode (mC M_X3_firstFree) 24 = .ok (.aload_n 0, 1) := by decide +kernel
theorem d_X3_firstFree_25 : decode (mC M_X3_firstFree) 25 = .ok (.getfield 21, 3) := by decide +kernel
theorem d_X3_firstFree_28 : decode (mC M_X3_firstFree) 28 = .ok (.iload_n 2, 1) := by decide +kernel
theorem d_X3_firstFree_29 : decode (mC M_X3_firstFree) 29 = .ok (.iaload, 1) := by decide +kernel
theorem d_X3_firstFree_30 : decode (mC M_X3_firstFree) 30 = .ok (.if_icmp .ge 5, 3) := by decide +kernel
theorem d_X3_firstFree_33 : decode (mC M_X3_firstFree) 33 = .ok (.iload_n 3, 1) := by decide +kernel
theorem d_X3_firstFree_34 : decode (mC M_X3_firstFree) 34 = .ok (.istore_n 2, 1) := by decide +kernel
theorem d_X3_firstFree_35 : decode (mC M_X3_firstFree) 35 = .ok (.iinc 3 1, 3) := by decide +kernel
theorem d_X3_firstFree_38 : decode (mC M_X3_firstFree) 38 = .ok (.goto (-34), 3) := by decide +kernel
theorem d_X3_firstFree_41 : decode (mC M_X3_firstFree) 41 = .ok (.iload_n 2, 1) := by decide +kernel
theorem d_X3_firstFree_42 : decode (mC M_X3_firstFree) 42 = .ok (.ireturn, 1) := by decide +kernel
theorem d_X3_following_0 : decode (mC M_X3_following) 0 = .ok (.iload_n 0, 1) := by decide +kernel
theorem d_X3_following_1 : decode (mC M_X3_following) 1 = .ok (.ldc 68, 2) := by decide +kernel
theorem d_X3_following_3 : decode (mC M_X3_following) 3 = .ok (.imul, 1) := by decide +kernel
theorem d_X3_following_4 : decode (mC M_X3_following) 4 = .ok (.sipush 12345, 3) := by decide +kernel
theorem d_X3_following_7 : decode (mC M_X3_following) 7 = .ok (.iadd, 1) := by decide +kernel
theorem d_X3_following_8 : decode (mC M_X3_following) 8 = .ok (.ireturn, 1) := by decide +kernel
theorem d_X3_init_0 : decode (mC M_X3_init) 0 = .ok (.aload_n 0, 1) := by decide +kernel
theorem d_X3_init_1 : decode (mC M_X3_init) 1 = .ok (.invokespecial 3, 3) := by decide +kernel
theorem d_X3_init_4 : decode (mC M_X3_init) 4 = .ok (.aload_n 0, 1) := by decide +kernel
theorem d_X3_init_5 : decode (mC M_X3_init) 5 = .ok (.new 9, 3) := by decide +kernel
theorem d_X3_init_8 : decode (mC M_X3_init) 8 = .ok (.dup, 1) := by decide +kernel
theorem d_X3_init_9 : decode (mC M_X3_init) 9 = .ok (.invokespecial 11, 3) := by decide +kernel
theorem d_X3_init_12 : decode (mC M_X3_init) 12 = .ok (.putfield 12, 3) := by decide +kernel
theorem d_X3_init_15 : decode (mC M_X3_init) 15 = .ok (.aload_n 0, 1) := by decide +kernel
theorem d_X3_init_16 : decode (mC M_X3_init) 16 = .ok (.new 9, 3) := by decide +kernel
theorem d_X3_init_19 : decode (mC M_X3_init) 19 = .ok (.dup, 1) := by decide +kernel
theorem d_X3_init_20 : decode (mC M_X3_init) 20 = .ok (.invokespecial 11, 3) := by decide +kernel
theorem d_X3_init_23 : decode (mC M_X3_init) 23 = .ok (.putfield 18, 3) := by decide +kernel
theorem d_X3_init_26 : decode (mC M_X3_init) 26 = .ok (.aload_n 0, 1) := by decide +kernel
theorem d_X3_init_27 : decode (mC M_X3_init) 27 = .ok (.iconst 5, 1) := by decide +kernel
theorem d_X3_init_28 : decode (mC M_X3_init) 28 = .ok (.newarray .int, 2) := by decide +kernel
theorem d_X3_init_30 : decode (mC M_X3_init) 30 = .ok (.putfield 21, 3) := by decide +kernel
theorem d_X3_init_33 : decode (mC M_X3_init) 33 = .ok (.return_, 1) := by decide +kernel
theorem d_X3_queue_0 : decode (mC M_X3_queue) 0 = .ok (.iconst 0, 1) := by decide +kernel
theorem d_X3_queue_1 : decode (mC M_X3_queue) 1 = .ok (.istore_n 2, 1) := by decide +kernel
theorem d_X3_queue_2 : decode (mC M_X3_queue) 2 = .ok (.iload_n 2, 1) := by decide +kernel
theorem d_X3_queue_3 : decode (mC M_X3_queue) 3 = .ok (.aload_n 0, 1) := by decide +kernel
theorem d_X3_queue_4 : decode (mC M_X3_queue) 4 = .ok (.getfield 18, 3) := by decide +kernel
theorem d_X3_queue_7 : decode (mC M_X3_queue) 7 = .ok (.invokevirtual 28, 3) := by decide +kernel
theorem d_X3_queue_10 : decode (mC M_X3_queue) 10 = .ok (.if_icmp .ge 30, 3) := by decide +kernel
theorem d_X3_queue_13 : decode (mC M_X3_queue) 13 = .ok (.aload_n 0, 1) := by decide +kernel
theorem d_X3_queue_14 : decode (mC M_X3_queue) 14 = .ok (.getfield 18, 3) := by decide +kernel
theorem d_X3_queue_17 : decode (mC M_X3_queue) 17 = .ok (.iload_n 2, 1) := by decide +kernel
theorem d_X3_queue_18 : decode (mC M_X3_queue) 18 = .ok (.invokevirtual 32, 3) := by decide +kernel
theorem d_X3_queue_21 : decode (mC M_X3_queue) 21 = .ok (.checkcast 46, 3) := by decide +kernel
theorem d_X3_queue_24 : decode (mC M_X3_queue) 24 = .ok (.getfield 57, 3) := by decide +kernel
theorem d_X3_queue_27 : decode (mC M_X3_queue) 27 = .ok (.aload_n 1, 1) := by decide +kernel
theorem d_X3_queue_28 : decode (mC M_X3_queue) 28 = .ok (.getfield 57, 3) := by decide +kernel
theorem d_X3_queue_31 : decode (mC M_X3_queue) 31 = .ok (.if_icmp .gt 9, 3) := by decide +kernel
theorem d_X3_queue_34 : decode (mC M_X3_queue) 34 = .ok (.iinc 2 1, 3) := by decide +kernel
theorem d_X3_queue_37 : decode (mC M_X3_queue) 37 = .ok (.goto (-35), 3) := by decide +kernel
theorem d_X3_queue_40 : decode (mC M_X3_queue) 40 = .ok (.aload_n 0, 1) := by decide +kernel
theorem d_X3_queue_41 : decode (mC M_X3_queue) 41 = .ok (.getfield 18, 3) := by decide +kernel
theorem d_X3_queue_44 : decode (mC M_X3_queue) 44 = .ok (.iload_n 2, 1) := by decide +kernel
theorem d_X3_queue_45 : decode (mC M_X3_queue) 45 = .ok (.aload_n 1, 1) := by decide +kernel
theorem d_X3_queue_46 : decode (mC M_X3_queue) 46 = .ok (.invokevirtual 69, 3) := by decide +kernel
theorem d_X3_queue_49 : decode (mC M_X3_queue) 49 = .ok (.return_, 1) := by decide +kernel
theorem d_X4_add_0 : decode (mC M_X4_add) 0 = .ok (.aload_n 0, 1) := by decide +kernel
theorem d_X4_add_1 : decode (mC M_X4_add) 1 = .ok (.getfield 14, 3) := by decide +kernel
theorem d_X4_add_4 : decode (mC M_X4_add) 4 = .ok (.aload_n 1, 1) := by decide +kernel
theorem d_X4_add_5 : decode (mC M_X4_add) 5 = .ok (.getfield 27, 3) := by decide +kernel
theorem d_X4_add_8 : decode (mC M_X4_add) 8 = .ok (.invokevirtual 32, 3) := by decide +kernel
theorem d_X4_add_11 : decode (mC M_X4_add) 11 = .ok (.aload_n 0, 1) := by decide +kernel
theorem d_X4_add_12 : decode (mC M_X4_add) 12 = .ok (.getfield 20, 3) := by decide +kernel
theorem d_X4_add_15 : decode (mC M_X4_add) 15 = .ok (.iload_n 2, 1) := by decide +kernel
theorem d_X4_add_16 : decode (mC M_X4_add) 16 = .ok (.invokevirtual 32, 3) := by decide +kernel
theorem d_X4_add_19 : decode (mC M_X4_add) 19 = .ok (.aload_n 1, 1) := by decide +kernel
theorem d_X4_add_20 : decode (mC M_X4_add) 20 = .ok (.dup, 1) := by decide +kernel
theorem d_X4_add_21 : decode (mC M_X4_add) 21 = .ok (.getfield 35, 3) := by decide +kernel
theorem d_X4_add_24 : decode (mC M_X4_add) 24 = .ok (.iconst 1, 1) := by decide +kernel
theorem d_X4_add_25 : decode (mC M_X4_add) 25 = .ok (.iload_n 2, 1) := by decide +kernel
theorem d_X4_add_26 : decode (mC M_X4_add) 26 = .ok (.ishl, 1) := by decide +kernel
theorem d_X4_add_27 : decode (mC M_X4_add) 27 = .ok (.ior, 1) := by decide +kernel
theorem d_X4_add_28 : decode (mC M_X4_add) 28 = .ok (.putfield 35, 3) := by decide +kernel
theorem d_X4_add_31 : decode (mC M_X4_add) 31 = .ok (.aload_n 0, 1) := by decide +kernel
theorem d_X4_add_32 : decode (mC M_X4_add) 32 = .ok (.getfield 14, 3) := by decide +kernel
theorem d_X4_add_35 : decode (mC M_X4_add) 35 = .ok (.getfield 23, 3) := by decide +kernel
theorem d_X4_add_38 : decode (mC M_X4_add) 38 = .ok (.iconst 1, 1) := by decide +kernel
theorem d_X4_add_39 : decode (mC M_X4_add) 39 = .ok (.isub, 1) := by decide +kernel
theorem d_X4_add_40 : decode (mC M_X4_add) 40 = .ok (.ireturn, 1) := by decide +kernel
theorem d_X4_howOften_0 : decode (mC M_X4_howOften) 0 = .ok (.iconst 0, 1) := by decide +kernel
theorem d_X4_howOften_1 : decode (mC M_X4_howOften) 1 = .ok (.istore 4, 2) := by decide +kernel
theorem d_X4_howOften_3 : decode (mC M_X4_howOften) 3 = .ok (.iconst 0, 1) := by decide +kernel
theorem d_X4_howOften_4 : decode (mC M_X4_howOften) 4 = .ok (.istore 5, 2) := by decide +kernel
theorem d_X4_howOften_6 : decode (mC M_X4_howOften) 6 = .ok (.iload 5, 2) := by decide +kernel
theorem d_X4_howOften_8 : decode (mC M_X4_howOften) 8 = .ok (.iload_n 3, 1) := by decide +kernel
theorem d_X4_howOften_9 : decode (mC M_X4_howOften) 9 = .ok (.if_icmp .ge 50, 3) := by decide +kernel
theorem d_X4_howOften_12 : decode (mC M_X4_howOften) 12 = .ok (.iload 5, 2) := by decide +kernel
theorem d_X4_howOften_14 : decode (mC M_X4_howOften) 14 = .ok (.aload_n 0, 1) := by decide +kernel
theorem d_X4_howOften_15 : decode (mC M_X4_howOften) 15 = .ok (.getfield 14, 3) := by decide +kernel
theorem d_X4_howOften_18 : decode (mC M_X4_howOften) 18 = .ok (.getfield 23, 3) := by decide +kernel
theorem d_X4_howOften_21 : decode (mC M_X4_howOften) 21 = .ok (.if_icmp .ge 38, 3) := by decide +kernel
theorem d_X4_howOften_24 : decode (mC M_X4_howOften) 24 = .ok (.aload_n 0, 1) := by decide +kernel
theorem d_X4_howOften_25 : decode (mC M_X4_howOften) 25 = .ok (.getfield 14, 3) := by decide +kernel
theorem d_X4_howOften_28 : decode (mC M_X4_howOften) 28 = .ok (.iload 5, 2) := by decide +kernel
theorem d_X4_howOften_30 : decode (mC M_X4_howOften) 30 = .ok (.invokevirtual 38, 3) := by decide +kernel
theorem d_X4_howOften_33 : decode (mC M_X4_howOften) 33 = .ok (.iload_n 1, 1) := by decide +kernel
theorem d_X4_howOften_34 : decode (mC M_X4_howOften) 34 = .ok (.if_icmp .ne 19, 3) := by decide +kernel
theorem d_X4_howOften_37 : decode (mC M_X4_howOften) 37 = .ok (.aload_n 0, 1) := by decide +kernel
theorem d_X4_howOften_38 : decode (mC M_X4_howOften) 38 = .ok (.getfield 20, 3) := by decide +kernel
theorem d_X4_howOften_41 : decode (mC M_X4_howOften) 41 = .ok (.iload 5, 2) := by decide +kernel
theorem d_X4_howOften_43 : decode (mC M_X4_howOften) 43 = .ok (.invokevirtual 38, 3) := by decide +kernel
theorem d_X4_howOften_46 : decode (mC M_X4_howOften) 46 = .ok (.iload_n 2, 1) := by decide +kernel
theorem d_X4_howOften_47 : decode (mC M_X4_howOften) 47 = .ok (.if_icmp .ne 6, 3) := by decide +kernel
theorem d_X4_howOften_50 : decode (mC M_X4_howOften) 50 = .ok (.iinc 4 1, 3) := by decide +kernel
theorem d_X4_howOften_53 : decode (mC M_X4_howOften) 53 = .ok (.iinc 5 1, 3) := by decide +kernel
theorem d_X4_howOften_56 : decode (mC M_X4_howOften) 56 = .ok (.goto (-50), 3) := by decide +kernel
theorem d_X4_howOften_59 : decode (mC M_X4_howOften) 59 = .ok (.iload 4, 2) := by decide +kernel
theorem d_X4_howOften_61 : decode (mC M_X4_howOften) 61 = .ok (.ireturn, 1) := by decide +kernel
theorem d_X4_init_0 : decode (mC M_X4_init) 0 = .ok (.aload_n 0, 1) := by decide +kernel
theorem d_X4_init_1 : decode (mC M_X4_init) 1 = .ok (.invokespecial 3, 3) := by decide +kernel
theorem d_X4_init_4 : decode (mC M_X4_init) 4 = .ok (.aload_n 0, 1) := by decide +kernel
theorem d_X4_init_5 : decode (mC M_X4_init) 5 = .ok (.new 9, 3) := by decide +kernel
theorem d_X4_init_8 : decode (mC M_X4_init) 8 = .ok (.dup, 1) := by decide +kernel
theorem d_X4_init_9 : decode (mC M_X4_init) 9 = .ok (.sipush 2600, 3) := by decide +kernel
theorem d_X4_init_12 : decode (mC M_X4_init) 12 = .ok (.invokespecial 11, 3) := by decide +kernel
theorem d_X4_init_15 : decode (mC M_X4_init) 15 = .ok (.putfield 14, 3) := by decide +kernel
theorem d_X4_init_18 : decode (mC M_X4_init) 18 = .ok (.aload_n 0, 1) := by decide +kernel
theorem d_X4_init_19 : decode (mC M_X4_init) 19 = .ok (.new 9, 3) := by decide +kernel
theorem d_X4_init_22 : decode (mC M_X4_init) 22 = .ok (.dup, 1) := by decide +kernel
theorem d_X4_init_23 : decode (mC M_X4_init) 23 = .ok (.sipush 2600, 3) := by decide +kernel
theorem d_X4_init_26 : decode (mC M_X4_init) 26 = .ok (.invokespecial 11, 3) := by decide +kernel
theorem d_X4_init_29 : decode (mC M_X4_init) 29 = .ok (.putfield 20, 3) := by decide +kernel
theorem d_X4_init_32 : decode (mC M_X4_init) 32 = .ok (.return_, 1) := by decide +kernel
theorem d_X4_size_0 : decode (mC M_X4_size) 0 = .ok (.aload_n 0, 1) := by decide +kernel
theorem d_X4_size_1 : decode (mC M_X4_size) 1 = .ok (.getfield 14, 3) := by decide +kernel
theorem d_X4_size_4 : decode (mC M_X4_size) 4 = .ok (.getfield 23, 3) := by decide +kernel
theorem d_X4_size_7 : decode (mC M_X4_size) 7 = .ok (.ireturn, 1) := by decide +kernel
theorem d_X5_answer_0 : decode (mC M_X5_answer) 0 = .ok (.iload_n 1, 1) := by decide +kernel
theorem d_X5_answer_1 : decode (mC M_X5_answer) 1 = .ok (.tableswitch 95 0 7 #[47, 52, 57, 62, 67, 72, 85, 90], 47) := by decide +kernel
theorem d_X5_answer_48 : decode (mC M_X5_answer) 48 = .ok (.aload_n 0, 1) := by decide +kernel
theorem d_X5_answer_49 : decode (mC M_X5_answer) 49 = .ok (.getfield 15, 3) := by decide +kernel
theorem d_X5_answer_52 : decode (mC M_X5_answer) 52 = .ok (.ireturn, 1) := by decide +kernel
theorem d_X5_answer_53 : decode (mC M_X5_answer) 53 = .ok (.aload_n 0, 1) := by decide +kernel
theorem d_X5_answer_54 : decode (mC M_X5_answer) 54 = .ok (.getfield 18, 3) := by decide +kernel
theorem d_X5_answer_57 : decode (mC M_X5_answer) 57 = .ok (.ireturn, 1) := by decide +kernel
theorem d_X5_answer_58 : decode (mC M_X5_answer) 58 = .ok (.aload_n 0, 1) := by decide +kernel
theorem d_X5_answer_59 : decode (mC M_X5_answer) 59 = .ok (.getfield 21, 3) := by decide +kernel
theorem d_X5_answer_62 : decode (mC M_X5_answer) 62 = .ok (.ireturn, 1) := by decide +kernel
theorem d_X5_answer_63 : decode (mC M_X5_answer) 63 = .ok (.aload_n 0, 1) := by decide +kernel
theorem d_X5_answer_64 : decode (mC M_X5_answer) 64 = .ok (.getfield 24, 3) := by decide +kernel
theorem d_X5_answer_67 : decode (mC M_X5_answer) 67 = .ok (.ireturn, 1) := by decide +kernel
theorem d_X5_answer_68 : decode (mC M_X5_answer) 68 = .ok (.aload_n 0, 1) := by decide +kernel
theorem d_X5_answer_69 : decode (mC M_X5_answer) 69 = .ok (.getfield 27, 3) := by decide +kernel
theorem d_X5_answer_72 : decode (mC M_X5_answer) 72 = .ok (.ireturn, 1) := by decide +kernel
theorem d_X5_answer_73 : decode (mC M_X5_answer) 73 = .ok (.aload_n 0, 1) := by decide +kernel
theorem d_X5_answer_74 : decode (mC M_X5_answer) 74 = .ok (.getfield 46, 3) := by decide +kernel
theorem d_X5_answer_77 : decode (mC M_X5_answer) 77 = .ok (.ifCond .eq 7, 3) := by decide +kernel
theorem d_X5_answer_80 : decode (mC M_X5_answer) 80 = .ok (.iconst 1, 1) := by decide +kernel
theorem d_X5_answer_81 : decode (mC M_X5_answer) 81 = .ok (.goto 4, 3) := by decide +kernel
theorem d_X5_answer_84 : decode (mC M_X5_answer) 84 = .ok (.iconst 0, 1) := by decide +kernel
theorem d_X5_answer_85 : decode (mC M_X5_answer) 85 = .ok (.ireturn, 1) := by decide +kernel
theorem d_X5_answer_86 : decode (mC M_X5_answer) 86 = .ok (.aload_n 0, 1) := by decide +kernel
theorem d_X5_answer_87 : decode (mC M_X5_answer) 87 = .ok (.getfield 50, 3) := by decide +kernel
theorem d_X5_answer_90 : decode (mC M_X5_answer) 90 = .ok (.ireturn, 1) := by decide +kernel
theorem d_X5_answer_91 : decode (mC M_X5_answer) 91 = .ok (.aload_n 0, 1) := by decide +kernel
theorem d_X5_answer_92 : decode (mC M_X5_answer) 92 = .ok (.getfield 53, 3) := by decide +kernel
theorem d_X5_answer_95 : decode (mC M_X5_answer) 95 = .ok (.ireturn, 1) := by decide +kernel
theorem d_X5_answer_96 : decode (mC M_X5_answer) 96 = .ok (.iconst (-1), 1) := by decide +kernel
theorem d_X5_answer_97 : decode (mC M_X5_answer) 97 = .ok (.ireturn, 1) := by decide +kernel
theorem d_X5_canBeIn_0 : decode (mC M_X5_canBeIn) 0 = .ok (.aload_n 0, 1) := by decide +kernel
theorem d_X5_canBeIn_1 : decode (mC M_X5_canBeIn) 1 = .ok (.getfield 33, 3) := by decide +kernel
theorem d_X5_canBeIn_4 : decode (mC M_X5_canBeIn) 4 = .ok (.aload_n 1, 1) := by decide +kernel
theorem d_X5_canBeIn_5 : decode (mC M_X5_canBeIn) 5 = .ok (.getfield 36, 3) := by decide +kernel
theorem d_X5_canBeIn_8 : decode (mC M_X5_canBeIn) 8 = .ok (.ishr, 1) := by decide +kernel
theorem d_X5_canBeIn_9 : decode (mC M_X5_canBeIn) 9 = .ok (.iconst 1, 1) := by decide +kernel
theorem d_X5_canBeIn_10 : decode (mC M_X5_canBeIn) 10 = .ok (.iand, 1) := by decide +kernel
theorem d_X5_canBeIn_11 : decode (mC M_X5_canBeIn) 11 = .ok (.iconst 1, 1) := by decide +kernel
theorem d_X5_canBeIn_12 : decode (mC M_X5_canBeIn) 12 = .ok (.if_icmp .ne 7, 3) := by decide +kernel
theorem d_X5_canBeIn_15 : decode (mC M_X5_canBeIn) 15 = .ok (.iconst 1, 1) := by decide +kernel
theorem d_X5_canBeIn_16 : decode (mC M_X5_canBeIn) 16 = .ok (.goto 4, 3) := by decide +kernel
theorem d_X5_canBeIn_19 : decode (mC M_X5_canBeIn) 19 = .ok (.iconst 0, 1) := by decide +kernel
theorem d_X5_canBeIn_20 : decode (mC M_X5_canBeIn) 20 = .ok (.ireturn, 1) := by decide +kernel
theorem d_X5_init_0 : decode (mC M_X5_init) 0 = .ok (.aload_n 0, 1) := by decide +kernel
theorem d_X5_init_1 : decode (mC M_X5_init) 1 = .ok (.invokespecial 3, 3) := by decide +kernel
theorem d_X5_init_4 : decode (mC M_X5_init) 4 = .ok (.aload_n 0, 1) := by decide +kernel
theorem d_X5_init_5 : decode (mC M_X5_init) 5 = .ok (.iload_n 1, 1) := by decide +kernel
theorem d_X5_init_6 : decode (mC M_X5_init) 6 = .ok (.putfield 9, 3) := by decide +kernel
theorem d_X5_init_9 : decode (mC M_X5_init) 9 = .ok (.aload_n 0, 1) := by decide +kernel
theorem d_X5_init_10 : decode (mC M_X5_init) 10 = .ok (.iload_n 2, 1) := by decide +kernel
theorem d_X5_init_11 : decode (mC M_X5_init) 11 = .ok (.putfield 15, 3) := by decide +kernel
theorem d_X5_init_14 : decode (mC M_X5_init) 14 = .ok (.aload_n 0, 1) := by decide +kernel
theorem d_X5_init_15 : decode (mC M_X5_init) 15 = .ok (.iload_n 3, 1) := by decide +kernel
theorem d_X5_init_16 : decode (mC M_X5_init) 16 = .ok (.putfield 18, 3) := by decide +kernel
theorem d_X5_init_19 : decode (mC M_X5_init) 19 = .ok (.aload_n 0, 1) := by decide +kernel
theorem d_X5_init_20 : decode (mC M_X5_init) 20 = .ok (.iload 4, 2) := by decide +kernel
theorem d_X5_init_22 : decode (mC M_X5_init) 22 = .ok (.putfield 21, 3) := by decide +kernel
theorem d_X5_init_25 : decode (mC M_X5_init) 25 = .ok (.aload_n 0, 1) := by decide +kernel
theorem d_X5_init_26 : decode (mC M_X5_init) 26 = .ok (.iload 5, 2) := by decide +kernel
theorem d_X5_init_28 : decode (mC M_X5_init) 28 = .ok (.putfield 24, 3) := by decide +kernel
theorem d_X5_init_31 : decode (mC M_X5_init) 31 = .ok (.aload_n 0, 1) := by decide +kernel
theorem d_X5_init_32 : decode (mC M_X5_init) 32 = .ok (.iload 6, 2) := by decide +kernel
theorem d_X5_init_34 : decode (mC M_X5_init) 34 = .ok (.putfield 27, 3) := by decide +kernel
theorem d_X5_init_37 : decode (mC M_X5_init) 37 = .ok (.return_, 1) := by decide +kernel
theorem d_X5_moveTo_0 : decode (mC M_X5_moveTo) 0 = .ok (.aload_n 0, 1) := by decide +kernel
theorem d_X5_moveTo_1 : decode (mC M_X5_moveTo) 1 = .ok (.getfield 39, 3) := by decide +kernel
theorem d_X5_moveTo_4 : decode (mC M_X5_moveTo) 4 = .ok (.ifnull 16, 3) := by decide +kernel
theorem d_X5_moveTo_7 : decode (mC M_X5_moveTo) 7 = .ok (.aload_n 0, 1) := by decide +kernel
theorem d_X5_moveTo_8 : decode (mC M_X5_moveTo) 8 = .ok (.getfield 39, 3) := by decide +kernel
theorem d_X5_moveTo_11 : decode (mC M_X5_moveTo) 11 = .ok (.dup, 1) := by decide +kernel
theorem d_X5_moveTo_12 : decode (mC M_X5_moveTo) 12 = .ok (.getfield 43, 3) := by decide +kernel
theorem d_X5_moveTo_15 : decode (mC M_X5_moveTo) 15 = .ok (.iconst 1, 1) := by decide +kernel
theorem d_X5_moveTo_16 : decode (mC M_X5_moveTo) 16 = .ok (.isub, 1) := by decide +kernel
theorem d_X5_moveTo_17 : decode (mC M_X5_moveTo) 17 = .ok (.putfield 43, 3) := by decide +kernel
theorem d_X5_moveTo_20 : decode (mC M_X5_moveTo) 20 = .ok (.aload_n 0, 1) := by decide +kernel
theorem d_X5_moveTo_21 : decode (mC M_X5_moveTo) 21 = .ok (.aload_n 1, 1) := by decide +kernel
theorem d_X5_moveTo_22 : decode (mC M_X5_moveTo) 22 = .ok (.putfield 39, 3) := by decide +kernel
theorem d_X5_moveTo_25 : decode (mC M_X5_moveTo) 25 = .ok (.aload_n 1, 1) := by decide +kernel
theorem d_X5_moveTo_26 : decode (mC M_X5_moveTo) 26 = .ok (.ifnull 13, 3) := by decide +kernel
theorem d_X5_moveTo_29 : decode (mC M_X5_moveTo) 29 = .ok (.aload_n 1, 1) := by decide +kernel
theorem d_X5_moveTo_30 : decode (mC M_X5_moveTo) 30 = .ok (.dup, 1) := by decide +kernel
theorem d_X5_moveTo_31 : decode (mC M_X5_moveTo) 31 = .ok (.getfield 43, 3) := by decide +kernel
theorem d_X5_moveTo_34 : decode (mC M_X5_moveTo) 34 = .ok (.iconst 1, 1) := by decide +kernel
theorem d_X5_moveTo_35 : decode (mC M_X5_moveTo) 35 = .ok (.iadd, 1) := by decide +kernel
theorem d_X5_moveTo_36 : decode (mC M_X5_moveTo) 36 = .ok (.putfield 43, 3) := by decide +kernel
theorem d_X5_moveTo_39 : decode (mC M_X5_moveTo) 39 = .ok (.return_, 1) := by decide +kernel
theorem d_X5_wasIn_0 : decode (mC M_X5_wasIn) 0 = .ok (.aload_n 0, 1) := by decide +kernel
theorem d_X5_wasIn_1 : decode (mC M_X5_wasIn) 1 = .ok (.getfield 30, 3) := by decide +kernel
theorem d_X5_wasIn_4 : decode (mC M_X5_wasIn) 4 = .ok (.iload_n 1, 1) := by decide +kernel
theorem d_X5_wasIn_5 : decode (mC M_X5_wasIn) 5 = .ok (.ishr, 1) := by decide +kernel
theorem d_X5_wasIn_6 : decode (mC M_X5_wasIn) 6 = .ok (.iconst 1, 1) := by decide +kernel
theorem d_X5_wasIn_7 : decode (mC M_X5_wasIn) 7 = .ok (.iand, 1) := by decide +kernel
theorem d_X5_wasIn_8 : decode (mC M_X5_wasIn) 8 = .ok (.iconst 1, 1) := by decide +kernel
theorem d_X5_wasIn_9 : decode (mC M_X5_wasIn) 9 = .ok (.if_icmp .ne 7, 3) := by decide +kernel
theorem d_X5_wasIn_12 : decode (mC M_X5_wasIn) 12 = .ok (.iconst 1, 1) := by decide +kernel
theorem d_X5_wasIn_13 : decode (mC M_X5_wasIn) 13 = .ok (.goto 4, 3) := by decide +kernel
theorem d_X5_wasIn_16 : decode (mC M_X5_wasIn) 16 = .ok (.iconst 0, 1) := by decide +kernel
theorem d_X5_wasIn_17 : decode (mC M_X5_wasIn) 17 = .ok (.ireturn, 1) := by decide +kernel
theorem d_X6_dismissAll_0 : decode (mC M_X6_dismissAll) 0 = .ok (.iconst 0, 1) := by decide +kernel
theorem d_X6_dismissAll_1 : decode (mC M_X6_dismissAll) 1 = .ok (.istore_n 1, 1) := by decide +kernel
theorem d_X6_dismissAll_2 : decode (mC M_X6_dismissAll) 2 = .ok (.iload_n 1, 1) := by decide +kernel
theorem d_X6_dismissAll_3 : decode (mC M_X6_dismissAll) 3 = .ok (.aload_n 0, 1) := by decide +kernel
theorem d_X6_dismissAll_4 : decode (mC M_X6_dismissAll) 4 = .ok (.getfield 12, 3) := by decide +kernel
theorem d_X6_dismissAll_7 : decode (mC M_X6_dismissAll) 7 = .ok (.invokevirtual 30, 3) := by decide +kernel
theorem d_X6_dismissAll_10 : decode (mC M_X6_dismissAll) 10 = .ok (.if_icmp .ge 24, 3) := by decide +kernel
theorem d_X6_dismissAll_13 : decode (mC M_X6_dismissAll) 13 = .ok (.aload_n 0, 1) := by decide +kernel
theorem d_X6_dismissAll_14 : decode (mC M_X6_dismissAll) 14 = .ok (.getfield 12, 3) := by decide +kernel
theorem d_X6_dismissAll_17 : decode (mC M_X6_dismissAll) 17 = .ok (.iload_n 1, 1) := by decide +kernel
theorem d_X6_dismissAll_18 : decode (mC M_X6_dismissAll) 18 = .ok (.invokevirtual 34, 3) := by decide +kernel
theorem d_X6_dismissAll_21 : decode (mC M_X6_dismissAll) 21 = .ok (.checkcast 47, 3) := by decide +kernel
theorem d_X6_dismissAll_24 : decode (mC M_X6_dismissAll) 24 = .ok (.aconst_null, 1) := by decide +kernel
theorem d_X6_dismissAll_25 : decode (mC M_X6_dismissAll) 25 = .ok (.invokevirtual 49, 3) := by decide +kernel
theorem d_X6_dismissAll_28 : decode (mC M_X6_dismissAll) 28 = .ok (.iinc 1 1, 3) := by decide +kernel
theorem d_X6_dismissAll_31 : decode (mC M_X6_dismissAll) 31 = .ok (.goto (-29), 3) := by decide +kernel
theorem d_X6_dismissAll_34 : decode (mC M_X6_dismissAll) 34 = .ok (.return_, 1) := by decide +kernel
theorem d_X6_find_0 : decode (mC M_X6_find) 0 = .ok (.iload_n 1, 1) := by decide +kernel
theorem d_X6_find_1 : decode (mC M_X6_find) 1 = .ok (.ifCond .lt 28, 3) := by decide +kernel
theorem d_X6_find_4 : decode (mC M_X6_find) 4 = .ok (.iload_n 1, 1) := by decide +kernel
theorem d_X6_find_5 : decode (mC M_X6_find) 5 = .ok (.aload_n 0, 1) := by decide +kernel
theorem d_X6_find_6 : decode (mC M_X6_find) 6 = .ok (.getfield 18, 3) := by decide +kernel
theorem d_X6_find_9 : decode (mC M_X6_find) 9 = .ok (.invokevirtual 30, 3) := by decide +kernel
theorem d_X6_find_12 : decode (mC M_X6_find) 12 = .ok (.if_icmp .ge 17, 3) := by decide +kernel
theorem d_X6_find_15 : decode (mC M_X6_find) 15 = .ok (.aload_n 0, 1) := by decide +kernel
theorem d_X6_find_16 : decode (mC M_X6_find) 16 = .ok (.getfield 18, 3) := by decide +kernel
theorem d_X6_find_19 : decode (mC M_X6_find) 19 = .ok (.iload_n 1, 1) := by decide +kernel
theorem d_X6_find_20 : decode (mC M_X6_find) 20 = .ok (.invokevirtual 34, 3) := by decide +kernel
theorem d_X6_find_23 : decode (mC M_X6_find) 23 = .ok (.checkcast 38, 3) := by decide +kernel
theorem d_X6_find_26 : decode (mC M_X6_find) 26 = .ok (.goto 4, 3) := by decide +kernel
theorem d_X6_find_29 : decode (mC M_X6_find) 29 = .ok (.aconst_null, 1) := by decide +kernel
theorem d_X6_find_30 : decode (mC M_X6_find) 30 = .ok (.areturn, 1) := by decide +kernel
theorem d_X6_firstOfRow_0 : decode (mC M_X6_firstOfRow) 0 = .ok (.iconst 0, 1) := by decide +kernel
theorem d_X6_firstOfRow_1 : decode (mC M_X6_firstOfRow) 1 = .ok (.istore_n 3, 1) := by decide +kernel
theorem d_X6_firstOfRow_2 : decode (mC M_X6_firstOfRow) 2 = .ok (.iload_n 3, 1) := by decide +kernel
theorem d_X6_firstOfRow_3 : decode (mC M_X6_firstOfRow) 3 = .ok (.aload_n 0, 1) := by decide +kernel
theorem d_X6_firstOfRow_4 : decode (mC M_X6_firstOfRow) 4 = .ok (.getfield 12, 3) := by decide +kernel
theorem d_X6_firstOfRow_7 : decode (mC M_X6_firstOfRow) 7 = .ok (.invokevirtual 30, 3) := by decide +kernel
theorem d_X6_firstOfRow_10 : decode (mC M_X6_firstOfRow) 10 = .ok (.if_icmp .ge 90, 3) := by decide +kernel
theorem d_X6_firstOfRow_13 : decode (mC M_X6_firstOfRow) 13 = .ok (.aload_n 0, 1) := by decide +kernel
theorem d_X6_firstOfRow_14 : decode (mC M_X6_firstOfRow) 14 = .ok (.getfield 12, 3) := by decide +kernel
theorem d_X6_firstOfRow_17 : decode (mC M_X6_firstOfRow) 17 = .ok (.iload_n 3, 1) := by decide +kernel
theorem d_X6_firstOfRow_18 : decode (mC M_X6_firstOfRow) 18 = .ok (.invokevirtual 34, 3) := by decide +kernel
theorem d_X6_firstOfRow_21 : decode (mC M_X6_firstOfRow) 21 = .ok (.checkcast 47, 3) := by decide +kernel
theorem d_X6_firstOfRow_24 : decode (mC M_X6_firstOfRow) 24 = .ok (.astore 4, 2) := by decide +kernel
theorem d_X6_firstOfRow_26 : decode (mC M_X6_firstOfRow) 26 = .ok (.aload 4, 2) := by decide +kernel
theorem d_X6_firstOfRow_28 : decode (mC M_X6_firstOfRow) 28 = .ok (.getfield 73, 3) := by decide +kernel
theorem d_X6_firstOfRow_31 : decode (mC M_X6_firstOfRow) 31 = .ok (.ifnonnull 16, 3) := by decide +kernel
theorem d_X6_firstOfRow_34 : decode (mC M_X6_firstOfRow) 34 = .ok (.iload_n 2, 1) := by decide +kernel
theorem d_X6_firstOfRow_35 : decode (mC M_X6_firstOfRow) 35 = .ok (.iconst 1, 1) := by decide +kernel
theorem d_X6_firstOfRow_36 : decode (mC M_X6_firstOfRow) 36 = .ok (.if_icmp .ne 7, 3) := by decide +kernel
theorem d_X6_firstOfRow_39 : decode (mC M_X6_firstOfRow) 39 = .ok (.iconst 1, 1) := by decide +kernel
theorem d_X6_firstOfRow_40 : decode (mC M_X6_firstOfRow) 40 = .ok (.goto 26, 3) := by decide +kernel
theorem d_X6_firstOfRow_43 : decode (mC M_X6_firstOfRow) 43 = .ok (.iconst 0, 1) := by decide +kernel
theorem d_X6_firstOfRow_44 : decode (mC M_X6_firstOfRow) 44 = .ok (.goto 22, 3) := by decide +kernel
theorem d_X6_firstOfRow_47 : decode (mC M_X6_firstOfRow) 47 = .ok (.aload 4, 2) := by decide +kernel
theorem d_X6_firstOfRow_49 : decode (mC M_X6_firstOfRow) 49 = .ok (.getfield 73, 3) := by decide +kernel
theorem d_X6_firstOfRow_52 : decode (mC M_X6_firstOfRow) 52 = .ok (.getfield 103, 3) := by decide +kernel
theorem d_X6_firstOfRow_55 : decode (mC M_X6_firstOfRow) 55 = .ok (.iload_n 2, 1) := by decide +kernel
theorem d_X6_firstOfRow_56 : decode (mC M_X6_firstOfRow) 56 = .ok (.iconst 1, 1) := by decide +kernel
theorem d_X6_firstOfRow_57 : decode (mC M_X6_firstOfRow) 57 = .ok (.isub, 1) := by decide +kernel
theorem d_X6_firstOfRow_58 : decode (mC M_X6_firstOfRow) 58 = .ok (.if_icmp .ne 7, 3) := by decide +kernel
theorem d_X6_firstOfRow_61 : decode (mC M_X6_firstOfRow) 61 = .ok (.iconst 1, 1) := by decide +kernel
theorem d_X6_firstOfRow_62 : decode (mC M_X6_firstOfRow) 62 = .ok (.goto 4, 3) := by decide +kernel
theorem d_X6_firstOfRow_65 : decode (mC M_X6_firstOfRow) 65 = .ok (.iconst 0, 1) := by decide +kernel
theorem d_X6_firstOfRow_66 : decode (mC M_X6_firstOfRow) 66 = .ok (.istore 5, 2) := by decide +kernel
theorem d_X6_firstOfRow_68 : decode (mC M_X6_firstOfRow) 68 = .ok (.iload 5, 2) := by decide +kernel
theorem d_X6_firstOfRow_70 : decode (mC M_X6_firstOfRow) 70 = .ok (.ifCond .eq 24, 3) := by decide +kernel
theorem d_X6_firstOfRow_73 : decode (mC M_X6_firstOfRow) 73 = .ok (.aload 4, 2) := by decide +kernel
theorem d_X6_firstOfRow_75 : decode (mC M_X6_firstOfRow) 75 = .ok (.getfield 73, 3) := by decide +kernel
theorem d_X6_firstOfRow_78 : decode (mC M_X6_firstOfRow) 78 = .ok (.aload_n 1, 1) := by decide +kernel
theorem d_X6_firstOfRow_79 : decode (mC M_X6_firstOfRow) 79 = .ok (.if_acmp .eq 15, 3) := by decide +kernel
theorem d_X6_firstOfRow_82 : decode (mC M_X6_firstOfRow) 82 = .ok (.aload 4, 2) := by decide +kernel
theorem d_X6_firstOfRow_84 : decode (mC M_X6_firstOfRow) 84 = .ok (.aload_n 1, 1) := by decide +kernel
theorem d_X6_firstOfRow_85 : decode (mC M_X6_firstOfRow) 85 = .ok (.invokevirtual 84, 3) := by decide +kernel
theorem d_X6_firstOfRow_88 : decode (mC M_X6_firstOfRow) 88 = .ok (.ifCond .eq 6, 3) := by decide +kernel
theorem d_X6_firstOfRow_91 : decode (mC M_X6_firstOfRow) 91 = .ok (.aload 4, 2) := by decide +kernel
theorem d_X6_firstOfRow_93 : decode (mC M_X6_firstOfRow) 93 = .ok (.areturn, 1) := by decide +kernel
theorem d_X6_firstOfRow_94 : decode (mC M_X6_firstOfRow) 94 = .ok (.iinc 3 1, 3) := by decide +kernel
theorem d_X6_firstOfRow_97 : decode (mC M_X6_firstOfRow) 97 = .ok (.goto (-95), 3) := by decide +kernel
theorem d_X6_firstOfRow_100 : decode (mC M_X6_firstOfRow) 100 = .ok (.aconst_null, 1) := by decide +kernel
theorem d_X6_firstOfRow_101 : decode (mC M_X6_firstOfRow) 101 = .ok (.areturn, 1) := by decide +kernel
theorem d_X6_init_0 : decode (mC M_X6_init) 0 = .ok (.aload_n 0, 1) := by decide +kernel
theorem d_X6_init_1 : decode (mC M_X6_init) 1 = .ok (.invokespecial 3, 3) := by decide +kernel
theorem d_X6_init_4 : decode (mC M_X6_init) 4 = .ok (.aload_n 0, 1) := by decide +kernel
theorem d_X6_init_5 : decode (mC M_X6_init) 5 = .ok (.new 9, 3) := by decide +kernel
theorem d_X6_init_8 : decode (mC M_X6_init) 8 = .ok (.dup, 1) := by decide +kernel
theorem d_X6_init_9 : decode (mC M_X6_init) 9 = .ok (.invokespecial 11, 3) := by decide +kernel
theorem d_X6_init_12 : decode (mC M_X6_init) 12 = .ok (.putfield 12, 3) := by decide +kernel
theorem d_X6_init_15 : decode (mC M_X6_init) 15 = .ok (.aload_n 0, 1) := by decide +kernel
theorem d_X6_init_16 : decode (mC M_X6_init) 16 = .ok (.new 9, 3) := by decide +kernel
theorem d_X6_init_19 : decode (mC M_X6_init) 19 = .ok (.dup, 1) := by decide +kernel
theorem d_X6_init_20 : decode (mC M_X6_init) 20 = .ok (.invokespecial 11, 3) := by decide +kernel
theorem d_X6_init_23 : decode (mC M_X6_init) 23 = .ok (.putfield 18, 3) := by decide +kernel
theorem d_X6_init_26 : decode (mC M_X6_init) 26 = .ok (.aload_n 0, 1) := by decide +kernel
theorem d_X6_init_27 : decode (mC M_X6_init) 27 = .ok (.new 21, 3) := by decide +kernel
theorem d_X6_init_30 : decode (mC M_X6_init) 30 = .ok (.dup, 1) := by decide +kernel
theorem d_X6_init_31 : decode (mC M_X6_init) 31 = .ok (.bipush 6, 2) := by decide +kernel
theorem d_X6_init_33 : decode (mC M_X6_init) 33 = .ok (.invokespecial 23, 3) := by decide +kernel
theorem d_X6_init_36 : decode (mC M_X6_init) 36 = .ok (.putfield 26, 3) := by decide +kernel
theorem d_X6_init_39 : decode (mC M_X6_init) 39 = .ok (.return_, 1) := by decide +kernel
theorem d_X6_layFor_0 : decode (mC M_X6_layFor) 0 = .ok (.aload_n 0, 1) := by decide +kernel
theorem d_X6_layFor_1 : decode (mC M_X6_layFor) 1 = .ok (.invokevirtual 44, 3) := by decide +kernel
theorem d_X6_layFor_4 : decode (mC M_X6_layFor) 4 = .ok (.aload_n 0, 1) := by decide +kernel
theorem d_X6_layFor_5 : decode (mC M_X6_layFor) 5 = .ok (.iload_n 1, 1) := by decide +kernel
theorem d_X6_layFor_6 : decode (mC M_X6_layFor) 6 = .ok (.invokevirtual 60, 3) := by decide +kernel
theorem d_X6_layFor_9 : decode (mC M_X6_layFor) 9 = .ok (.iconst 0, 1) := by decide +kernel
theorem d_X6_layFor_10 : decode (mC M_X6_layFor) 10 = .ok (.istore_n 2, 1) := by decide +kernel
theorem d_X6_layFor_11 : decode (mC M_X6_layFor) 11 = .ok (.iload_n 2, 1) := by decide +kernel
theorem d_X6_layFor_12 : decode (mC M_X6_layFor) 12 = .ok (.bipush 60, 2) := by decide +kernel
theorem d_X6_layFor_14 : decode (mC M_X6_layFor) 14 = .ok (.if_icmp .gt 62, 3) := by decide +kernel
theorem d_X6_layFor_17 : decode (mC M_X6_layFor) 17 = .ok (.iconst 0, 1) := by decide +kernel
theorem d_X6_layFor_18 : decode (mC M_X6_layFor) 18 = .ok (.istore_n 3, 1) := by decide +kernel
theorem d_X6_layFor_19 : decode (mC M_X6_layFor) 19 = .ok (.iload_n 3, 1) := by decide +kernel
theorem d_X6_layFor_20 : decode (mC M_X6_layFor) 20 = .ok (.aload_n 0, 1) := by decide +kernel
theorem d_X6_layFor_21 : decode (mC M_X6_layFor) 21 = .ok (.getfield 12, 3) := by decide +kernel
theorem d_X6_layFor_24 : decode (mC M_X6_layFor) 24 = .ok (.invokevirtual 30, 3) := by decide +kernel
theorem d_X6_layFor_27 : decode (mC M_X6_layFor) 27 = .ok (.if_icmp .ge 43, 3) := by decide +kernel
theorem d_X6_layFor_30 : decode (mC M_X6_layFor) 30 = .ok (.aload_n 0, 1) := by decide +kernel
theorem d_X6_layFor_31 : decode (mC M_X6_layFor) 31 = .ok (.getfield 12, 3) := by decide +kernel
theorem d_X6_layFor_34 : decode (mC M_X6_layFor) 34 = .ok (.iload_n 3, 1) := by decide +kernel
theorem d_X6_layFor_35 : decode (mC M_X6_layFor) 35 = .ok (.invokevirtual 34, 3) := by decide +kernel
theorem d_X6_layFor_38 : decode (mC M_X6_layFor) 38 = .ok (.checkcast 47, 3) := by decide +kernel
theorem d_X6_layFor_41 : decode (mC M_X6_layFor) 41 = .ok (.getfield 63, 3) := by decide +kernel
theorem d_X6_layFor_44 : decode (mC M_X6_layFor) 44 = .ok (.iload_n 2, 1) := by decide +kernel
theorem d_X6_layFor_45 : decode (mC M_X6_layFor) 45 = .ok (.if_icmp .ne 19, 3) := by decide +kernel
theorem d_X6_layFor_48 : decode (mC M_X6_layFor) 48 = .ok (.aload_n 0, 1) := by decide +kernel
theorem d_X6_layFor_49 : decode (mC M_X6_layFor) 49 = .ok (.aload_n 0, 1) := by decide +kernel
theorem d_X6_layFor_50 : decode (mC M_X6_layFor) 50 = .ok (.getfield 12, 3) := by decide +kernel
theorem d_X6_layFor_53 : decode (mC M_X6_layFor) 53 = .ok (.iload_n 3, 1) := by decide +kernel
theorem d_X6_layFor_54 : decode (mC M_X6_layFor) 54 = .ok (.invokevirtual 34, 3) := by decide +kernel
theorem d_X6_layFor_57 : decode (mC M_X6_layFor) 57 = .ok (.checkcast 47, 3) := by decide +kernel
theorem d_X6_layFor_60 : decode (mC M_X6_layFor) 60 = .ok (.iconst (-1), 1) := by decide +kernel
theorem d_X6_layFor_61 : decode (mC M_X6_layFor) 61 = .ok (.invokevirtual 66, 3) := by decide +kernel
theorem d_X6_layFor_64 : decode (mC M_X6_layFor) 64 = .ok (.iinc 3 1, 3) := by decide +kernel
theorem d_X6_layFor_67 : decode (mC M_X6_layFor) 67 = .ok (.goto (-48), 3) := by decide +kernel
theorem d_X6_layFor_70 : decode (mC M_X6_layFor) 70 = .ok (.iinc 2 1, 3) := by decide +kernel
theorem d_X6_layFor_73 : decode (mC M_X6_layFor) 73 = .ok (.goto (-62), 3) := by decide +kernel
theorem d_X6_layFor_76 : decode (mC M_X6_layFor) 76 = .ok (.aload_n 0, 1) := by decide +kernel
theorem d_X6_layFor_77 : decode (mC M_X6_layFor) 77 = .ok (.invokevirtual 70, 3) := by decide +kernel
theorem d_X6_layFor_80 : decode (mC M_X6_layFor) 80 = .ok (.return_, 1) := by decide +kernel
theorem d_X6_lookWhoIsOpen_0 : decode (mC M_X6_lookWhoIsOpen) 0 = .ok (.iconst 0, 1) := by decide +kernel
theorem d_X6_lookWhoIsOpen_1 : decode (mC M_X6_lookWhoIsOpen) 1 = .ok (.istore_n 2, 1) := by decide +kernel
theorem d_X6_lookWhoIsOpen_2 : decode (mC M_X6_lookWhoIsOpen) 2 = .ok (.iload_n 2, 1) := by decide +kernel
theorem d_X6_lookWhoIsOpen_3 : decode (mC M_X6_lookWhoIsOpen) 3 = .ok (.aload_n 0, 1) := by decide +kernel
theorem d_X6_lookWhoIsOpen_4 : decode (mC M_X6_lookWhoIsOpen) 4 = .ok (.getfield 12, 3) := by decide +kernel
theorem d_X6_lookWhoIsOpen_7 : decode (mC M_X6_lookWhoIsOpen) 7 = .ok (.invokevirtual 30, 3) := by decide +kernel
theorem d_X6_lookWhoIsOpen_10 : decode (mC M_X6_lookWhoIsOpen) 10 = .ok (.if_icmp .ge 80, 3) := by decide +kernel
theorem d_X6_lookWhoIsOpen_13 : decode (mC M_X6_lookWhoIsOpen) 13 = .ok (.aload_n 0, 1) := by decide +kernel
theorem d_X6_lookWhoIsOpen_14 : decode (mC M_X6_lookWhoIsOpen) 14 = .ok (.getfield 12, 3) := by decide +kernel
theorem d_X6_lookWhoIsOpen_17 : decode (mC M_X6_lookWhoIsOpen) 17 = .ok (.iload_n 2, 1) := by decide +kernel
theorem d_X6_lookWhoIsOpen_18 : decode (mC M_X6_lookWhoIsOpen) 18 = .ok (.invokevirtual 34, 3) := by decide +kernel
theorem d_X6_lookWhoIsOpen_21 : decode (mC M_X6_lookWhoIsOpen) 21 = .ok (.checkcast 47, 3) := by decide +kernel
theorem d_X6_lookWhoIsOpen_24 : decode (mC M_X6_lookWhoIsOpen) 24 = .ok (.astore_n 3, 1) := by decide +kernel
theorem d_X6_lookWhoIsOpen_25 : decode (mC M_X6_lookWhoIsOpen) 25 = .ok (.aload_n 3, 1) := by decide +kernel
theorem d_X6_lookWhoIsOpen_26 : decode (mC M_X6_lookWhoIsOpen) 26 = .ok (.iconst 0, 1) := by decide +kernel
theorem d_X6_lookWhoIsOpen_27 : decode (mC M_X6_lookWhoIsOpen) 27 = .ok (.putfield 53, 3) := by decide +kernel
theorem d_X6_lookWhoIsOpen_30 : decode (mC M_X6_lookWhoIsOpen) 30 = .ok (.iconst 0, 1) := by decide +kernel
theorem d_X6_lookWhoIsOpen_31 : decode (mC M_X6_lookWhoIsOpen) 31 = .ok (.istore 4, 2) := by decide +kernel
theorem d_X6_lookWhoIsOpen_33 : decode (mC M_X6_lookWhoIsOpen) 33 = .ok (.iload 4, 2) := by decide +kernel
theorem d_X6_lookWhoIsOpen_35 : decode (mC M_X6_lookWhoIsOpen) 35 = .ok (.aload_n 0, 1) := by decide +kernel
theorem d_X6_lookWhoIsOpen_36 : decode (mC M_X6_lookWhoIsOpen) 36 = .ok (.getfield 18, 3) := by decide +kernel
theorem d_X6_lookWhoIsOpen_39 : decode (mC M_X6_lookWhoIsOpen) 39 = .ok (.invokevirtual 30, 3) := by decide +kernel
theorem d_X6_lookWhoIsOpen_42 : decode (mC M_X6_lookWhoIsOpen) 42 = .ok (.if_icmp .ge 42, 3) := by decide +kernel
theorem d_X6_lookWhoIsOpen_45 : decode (mC M_X6_lookWhoIsOpen) 45 = .ok (.aload_n 0, 1) := by decide +kernel
theorem d_X6_lookWhoIsOpen_46 : decode (mC M_X6_lookWhoIsOpen) 46 = .ok (.getfield 18, 3) := by decide +kernel
theorem d_X6_lookWhoIsOpen_49 : decode (mC M_X6_lookWhoIsOpen) 49 = .ok (.iload 4, 2) := by decide +kernel
theorem d_X6_lookWhoIsOpen_51 : decode (mC M_X6_lookWhoIsOpen) 51 = .ok (.invokevirtual 34, 3) := by decide +kernel
theorem d_X6_lookWhoIsOpen_54 : decode (mC M_X6_lookWhoIsOpen) 54 = .ok (.checkcast 38, 3) := by decide +kernel
theorem d_X6_lookWhoIsOpen_57 : decode (mC M_X6_lookWhoIsOpen) 57 = .ok (.aload_n 3, 1) := by decide +kernel
theorem d_X6_lookWhoIsOpen_58 : decode (mC M_X6_lookWhoIsOpen) 58 = .ok (.iload_n 1, 1) := by decide +kernel
theorem d_X6_lookWhoIsOpen_59 : decode (mC M_X6_lookWhoIsOpen) 59 = .ok (.invokevirtual 56, 3) := by decide +kernel
theorem d_X6_lookWhoIsOpen_62 : decode (mC M_X6_lookWhoIsOpen) 62 = .ok (.ifCond .eq 16, 3) := by decide +kernel
theorem d_X6_lookWhoIsOpen_65 : decode (mC M_X6_lookWhoIsOpen) 65 = .ok (.aload_n 3, 1) := by decide +kernel
theorem d_X6_lookWhoIsOpen_66 : decode (mC M_X6_lookWhoIsOpen) 66 = .ok (.dup, 1) := by decide +kernel
theorem d_X6_lookWhoIsOpen_67 : decode (mC M_X6_lookWhoIsOpen) 67 = .ok (.getfield 53, 3) := by decide +kernel
theorem d_X6_lookWhoIsOpen_70 : decode (mC M_X6_lookWhoIsOpen) 70 = .ok (.iconst 1, 1) := by decide +kernel
theorem d_X6_lookWhoIsOpen_71 : decode (mC M_X6_lookWhoIsOpen) 71 = .ok (.iload 4, 2) := by decide +kernel
theorem d_X6_lookWhoIsOpen_73 : decode (mC M_X6_lookWhoIsOpen) 73 = .ok (.ishl, 1) := by decide +kernel
theorem d_X6_lookWhoIsOpen_74 : decode (mC M_X6_lookWhoIsOpen) 74 = .ok (.ior, 1) := by decide +kernel
theorem d_X6_lookWhoIsOpen_75 : decode (mC M_X6_lookWhoIsOpen) 75 = .ok (.putfield 53, 3) := by decide +kernel
theorem d_X6_lookWhoIsOpen_78 : decode (mC M_X6_lookWhoIsOpen) 78 = .ok (.iinc 4 1, 3) := by decide +kernel
theorem d_X6_lookWhoIsOpen_81 : decode (mC M_X6_lookWhoIsOpen) 81 = .ok (.goto (-48), 3) := by decide +kernel
theorem d_X6_lookWhoIsOpen_84 : decode (mC M_X6_lookWhoIsOpen) 84 = .ok (.iinc 2 1, 3) := by decide +kernel
theorem d_X6_lookWhoIsOpen_87 : decode (mC M_X6_lookWhoIsOpen) 87 = .ok (.goto (-85), 3) := by decide +kernel
theorem d_X6_lookWhoIsOpen_90 : decode (mC M_X6_lookWhoIsOpen) 90 = .ok (.return_, 1) := by decide +kernel
theorem d_X6_makeRoom_0 : decode (mC M_X6_makeRoom) 0 = .ok (.aload_n 1, 1) := by decide +kernel
theorem d_X6_makeRoom_1 : decode (mC M_X6_makeRoom) 1 = .ok (.getfield 40, 3) := by decide +kernel
theorem d_X6_makeRoom_4 : decode (mC M_X6_makeRoom) 4 = .ok (.aload_n 1, 1) := by decide +kernel
theorem d_X6_makeRoom_5 : decode (mC M_X6_makeRoom) 5 = .ok (.getfield 92, 3) := by decide +kernel
theorem d_X6_makeRoom_8 : decode (mC M_X6_makeRoom) 8 = .ok (.if_icmp .ge 5, 3) := by decide +kernel
theorem d_X6_makeRoom_11 : decode (mC M_X6_makeRoom) 11 = .ok (.iconst 1, 1) := by decide +kernel
theorem d_X6_makeRoom_12 : decode (mC M_X6_makeRoom) 12 = .ok (.ireturn, 1) := by decide +kernel
theorem d_X6_makeRoom_13 : decode (mC M_X6_makeRoom) 13 = .ok (.aload_n 0, 1) := by decide +kernel
theorem d_X6_makeRoom_14 : decode (mC M_X6_makeRoom) 14 = .ok (.getfield 77, 3) := by decide +kernel
theorem d_X6_makeRoom_17 : decode (mC M_X6_makeRoom) 17 = .ok (.aload_n 1, 1) := by decide +kernel
theorem d_X6_makeRoom_18 : decode (mC M_X6_makeRoom) 18 = .ok (.getfield 95, 3) := by decide +kernel
theorem d_X6_makeRoom_21 : decode (mC M_X6_makeRoom) 21 = .ok (.ishr, 1) := by decide +kernel
theorem d_X6_makeRoom_22 : decode (mC M_X6_makeRoom) 22 = .ok (.iconst 1, 1) := by decide +kernel
theorem d_X6_makeRoom_23 : decode (mC M_X6_makeRoom) 23 = .ok (.iand, 1) := by decide +kernel
theorem d_X6_makeRoom_24 : decode (mC M_X6_makeRoom) 24 = .ok (.iconst 1, 1) := by decide +kernel
theorem d_X6_makeRoom_25 : decode (mC M_X6_makeRoom) 25 = .ok (.if_icmp .eq 9, 3) := by decide +kernel
theorem d_X6_makeRoom_28 : decode (mC M_X6_makeRoom) 28 = .ok (.iload_n 3, 1) := by decide +kernel
theorem d_X6_makeRoom_29 : decode (mC M_X6_makeRoom) 29 = .ok (.bipush 6, 2) := by decide +kernel
theorem d_X6_makeRoom_31 : decode (mC M_X6_makeRoom) 31 = .ok (.if_icmp .le 5, 3) := by decide +kernel
theorem d_X6_makeRoom_34 : decode (mC M_X6_makeRoom) 34 = .ok (.iconst 0, 1) := by decide +kernel
theorem d_X6_makeRoom_35 : decode (mC M_X6_makeRoom) 35 = .ok (.ireturn, 1) := by decide +kernel
theorem d_X6_makeRoom_36 : decode (mC M_X6_makeRoom) 36 = .ok (.aload_n 0, 1) := by decide +kernel
theorem d_X6_makeRoom_37 : decode (mC M_X6_makeRoom) 37 = .ok (.dup, 1) := by decide +kernel
theorem d_X6_makeRoom_38 : decode (mC M_X6_makeRoom) 38 = .ok (.getfield 77, 3) := by decide +kernel
theorem d_X6_makeRoom_41 : decode (mC M_X6_makeRoom) 41 = .ok (.iconst 1, 1) := by decide +kernel
theorem d_X6_makeRoom_42 : decode (mC M_X6_makeRoom) 42 = .ok (.aload_n 1, 1) := by decide +kernel
theorem d_X6_makeRoom_43 : decode (mC M_X6_makeRoom) 43 = .ok (.getfield 95, 3) := by decide +kernel
theorem d_X6_makeRoom_46 : decode (mC M_X6_makeRoom) 46 = .ok (.ishl, 1) := by decide +kernel
theorem d_X6_makeRoom_47 : decode (mC M_X6_makeRoom) 47 = .ok (.ior, 1) := by decide +kernel
theorem d_X6_makeRoom_48 : decode (mC M_X6_makeRoom) 48 = .ok (.putfield 77, 3) := by decide +kernel
theorem d_X6_makeRoom_51 : decode (mC M_X6_makeRoom) 51 = .ok (.iload_n 2, 1) := by decide +kernel
theorem d_X6_makeRoom_52 : decode (mC M_X6_makeRoom) 52 = .ok (.ifCond .ge 7, 3) := by decide +kernel
theorem d_X6_makeRoom_55 : decode (mC M_X6_makeRoom) 55 = .ok (.iconst 0, 1) := by decide +kernel
theorem d_X6_makeRoom_56 : decode (mC M_X6_makeRoom) 56 = .ok (.goto 6, 3) := by decide +kernel
theorem d_X6_makeRoom_59 : decode (mC M_X6_makeRoom) 59 = .ok (.iload_n 2, 1) := by decide +kernel
theorem d_X6_makeRoom_60 : decode (mC M_X6_makeRoom) 60 = .ok (.iconst 1, 1) := by decide +kernel
theorem d_X6_makeRoom_61 : decode (mC M_X6_makeRoom) 61 = .ok (.iadd, 1) := by decide +kernel
theorem d_X6_makeRoom_62 : decode (mC M_X6_makeRoom) 62 = .ok (.istore 4, 2) := by decide +kernel
theorem d_X6_makeRoom_64 : decode (mC M_X6_makeRoom) 64 = .ok (.iload 4, 2) := by decide +kernel
theorem d_X6_makeRoom_66 : decode (mC M_X6_makeRoom) 66 = .ok (.aload_n 0, 1) := by decide +kernel
theorem d_X6_makeRoom_67 : decode (mC M_X6_makeRoom) 67 = .ok (.getfield 12, 3) := by decide +kernel
theorem d_X6_makeRoom_70 : decode (mC M_X6_makeRoom) 70 = .ok (.invokevirtual 30, 3) := by decide +kernel
theorem d_X6_makeRoom_73 : decode (mC M_X6_makeRoom) 73 = .ok (.if_icmp .ge 45, 3) := by decide +kernel
theorem d_X6_makeRoom_76 : decode (mC M_X6_makeRoom) 76 = .ok (.aload_n 0, 1) := by decide +kernel
theorem d_X6_makeRoom_77 : decode (mC M_X6_makeRoom) 77 = .ok (.getfield 12, 3) := by decide +kernel
theorem d_X6_makeRoom_80 : decode (mC M_X6_makeRoom) 80 = .ok (.iload 4, 2) := by decide +kernel
theorem d_X6_makeRoom_82 : decode (mC M_X6_makeRoom) 82 = .ok (.invokevirtual 34, 3) := by decide +kernel
theorem d_X6_makeRoom_85 : decode (mC M_X6_makeRoom) 85 = .ok (.checkcast 47, 3) := by decide +kernel
theorem d_X6_makeRoom_88 : decode (mC M_X6_makeRoom) 88 = .ok (.astore 5, 2) := by decide +kernel
theorem d_X6_makeRoom_90 : decode (mC M_X6_makeRoom) 90 = .ok (.aload 5, 2) := by decide +kernel
theorem d_X6_makeRoom_92 : decode (mC M_X6_makeRoom) 92 = .ok (.getfield 73, 3) := by decide +kernel
theorem d_X6_makeRoom_95 : decode (mC M_X6_makeRoom) 95 = .ok (.aload_n 1, 1) := by decide +kernel
theorem d_X6_makeRoom_96 : decode (mC M_X6_makeRoom) 96 = .ok (.if_acmp .ne 16, 3) := by decide +kernel
theorem d_X6_makeRoom_99 : decode (mC M_X6_makeRoom) 99 = .ok (.aload_n 0, 1) := by decide +kernel
theorem d_X6_makeRoom_100 : decode (mC M_X6_makeRoom) 100 = .ok (.aload 5, 2) := by decide +kernel
theorem d_X6_makeRoom_102 : decode (mC M_X6_makeRoom) 102 = .ok (.iload_n 2, 1) := by decide +kernel
theorem d_X6_makeRoom_103 : decode (mC M_X6_makeRoom) 103 = .ok (.iload_n 3, 1) := by decide +kernel
theorem d_X6_makeRoom_104 : decode (mC M_X6_makeRoom) 104 = .ok (.invokevirtual 80, 3) := by decide +kernel
theorem d_X6_makeRoom_107 : decode (mC M_X6_makeRoom) 107 = .ok (.ifCond .eq 5, 3) := by decide +kernel
theorem d_X6_makeRoom_110 : decode (mC M_X6_makeRoom) 110 = .ok (.iconst 1, 1) := by decide +kernel
theorem d_X6_makeRoom_111 : decode (mC M_X6_makeRoom) 111 = .ok (.ireturn, 1) := by decide +kernel
theorem d_X6_makeRoom_112 : decode (mC M_X6_makeRoom) 112 = .ok (.iinc 4 1, 3) := by decide +kernel
theorem d_X6_makeRoom_115 : decode (mC M_X6_makeRoom) 115 = .ok (.goto (-51), 3) := by decide +kernel
theorem d_X6_makeRoom_118 : decode (mC M_X6_makeRoom) 118 = .ok (.iconst 0, 1) := by decide +kernel
theorem d_X6_makeRoom_119 : decode (mC M_X6_makeRoom) 119 = .ok (.ireturn, 1) := by decide +kernel
theorem d_X6_measureRows_0 : decode (mC M_X6_measureRows) 0 = .ok (.iconst 0, 1) := by decide +kernel
theorem d_X6_measureRows_1 : decode (mC M_X6_measureRows) 1 = .ok (.istore_n 1, 1) := by decide +kernel
theorem d_X6_measureRows_2 : decode (mC M_X6_measureRows) 2 = .ok (.iload_n 1, 1) := by decide +kernel
theorem d_X6_measureRows_3 : decode (mC M_X6_measureRows) 3 = .ok (.aload_n 0, 1) := by decide +kernel
theorem d_X6_measureRows_4 : decode (mC M_X6_measureRows) 4 = .ok (.getfield 18, 3) := by decide +kernel
theorem d_X6_measureRows_7 : decode (mC M_X6_measureRows) 7 = .ok (.invokevirtual 30, 3) := by decide +kernel
theorem d_X6_measureRows_10 : decode (mC M_X6_measureRows) 10 = .ok (.if_icmp .ge 24, 3) := by decide +kernel
theorem d_X6_measureRows_13 : decode (mC M_X6_measureRows) 13 = .ok (.aload_n 0, 1) := by decide +kernel
theorem d_X6_measureRows_14 : decode (mC M_X6_measureRows) 14 = .ok (.getfield 18, 3) := by decide +kernel
theorem d_X6_measureRows_17 : decode (mC M_X6_measureRows) 17 = .ok (.iload_n 1, 1) := by decide +kernel
theorem d_X6_measureRows_18 : decode (mC M_X6_measureRows) 18 = .ok (.invokevirtual 34, 3) := by decide +kernel
theorem d_X6_measureRows_21 : decode (mC M_X6_measureRows) 21 = .ok (.checkcast 38, 3) := by decide +kernel
theorem d_X6_measureRows_24 : decode (mC M_X6_measureRows) 24 = .ok (.iconst (-1), 1) := by decide +kernel
theorem d_X6_measureRows_25 : decode (mC M_X6_measureRows) 25 = .ok (.putfield 103, 3) := by decide +kernel
theorem d_X6_measureRows_28 : decode (mC M_X6_measureRows) 28 = .ok (.iinc 1 1, 3) := by decide +kernel
theorem d_X6_measureRows_31 : decode (mC M_X6_measureRows) 31 = .ok (.goto (-29), 3) := by decide +kernel
theorem d_X6_measureRows_34 : decode (mC M_X6_measureRows) 34 = .ok (.iconst 1, 1) := by decide +kernel
theorem d_X6_measureRows_35 : decode (mC M_X6_measureRows) 35 = .ok (.istore_n 1, 1) := by decide +kernel
theorem d_X6_measureRows_36 : decode (mC M_X6_measureRows) 36 = .ok (.iload_n 1, 1) := by decide +kernel
theorem d_X6_measureRows_37 : decode (mC M_X6_measureRows) 37 = .ok (.aload_n 0, 1) := by decide +kernel
theorem d_X6_measureRows_38 : decode (mC M_X6_measureRows) 38 = .ok (.getfield 18, 3) := by decide +kernel
theorem d_X6_measureRows_41 : decode (mC M_X6_measureRows) 41 = .ok (.invokevirtual 30, 3) := by decide +kernel
theorem d_X6_measureRows_44 : decode (mC M_X6_measureRows) 44 = .ok (.if_icmp .gt 62, 3) := by decide +kernel
theorem d_X6_measureRows_47 : decode (mC M_X6_measureRows) 47 = .ok (.iconst 0, 1) := by decide +kernel
theorem d_X6_measureRows_48 : decode (mC M_X6_measureRows) 48 = .ok (.istore_n 2, 1) := by decide +kernel
theorem d_X6_measureRows_49 : decode (mC M_X6_measureRows) 49 = .ok (.iload_n 2, 1) := by decide +kernel
theorem d_X6_measureRows_50 : decode (mC M_X6_measureRows) 50 = .ok (.aload_n 0, 1) := by decide +kernel
theorem d_X6_measureRows_51 : decode (mC M_X6_measureRows) 51 = .ok (.getfield 18, 3) := by decide +kernel
theorem d_X6_measureRows_54 : decode (mC M_X6_measureRows) 54 = .ok (.invokevirtual 30, 3) := by decide +kernel
theorem d_X6_measureRows_57 : decode (mC M_X6_measureRows) 57 = .ok (.if_icmp .ge 43, 3) := by decide +kernel
theorem d_X6_measureRows_60 : decode (mC M_X6_measureRows) 60 = .ok (.aload_n 0, 1) := by decide +kernel
theorem d_X6_measureRows_61 : decode (mC M_X6_measureRows) 61 = .ok (.getfield 18, 3) := by decide +kernel
theorem d_X6_measureRows_64 : decode (mC M_X6_measureRows) 64 = .ok (.iload_n 2, 1) := by decide +kernel
theorem d_X6_measureRows_65 : decode (mC M_X6_measureRows) 65 = .ok (.invokevirtual 34, 3) := by decide +kernel
theorem d_X6_measureRows_68 : decode (mC M_X6_measureRows) 68 = .ok (.checkcast 38, 3) := by decide +kernel
theorem d_X6_measureRows_71 : decode (mC M_X6_measureRows) 71 = .ok (.astore_n 3, 1) := by decide +kernel
theorem d_X6_measureRows_72 : decode (mC M_X6_measureRows) 72 = .ok (.aload_n 3, 1) := by decide +kernel
theorem d_X6_measureRows_73 : decode (mC M_X6_measureRows) 73 = .ok (.getfield 103, 3) := by decide +kernel
theorem d_X6_measureRows_76 : decode (mC M_X6_measureRows) 76 = .ok (.iconst (-1), 1) := by decide +kernel
theorem d_X6_measureRows_77 : decode (mC M_X6_measureRows) 77 = .ok (.if_icmp .ne 17, 3) := by decide +kernel
theorem d_X6_measureRows_80 : decode (mC M_X6_measureRows) 80 = .ok (.aload_n 0, 1) := by decide +kernel
theorem d_X6_measureRows_81 : decode (mC M_X6_measureRows) 81 = .ok (.aload_n 3, 1) := by decide +kernel
theorem d_X6_measureRows_82 : decode (mC M_X6_measureRows) 82 = .ok (.iload_n 1, 1) := by decide +kernel
theorem d_X6_measureRows_83 : decode (mC M_X6_measureRows) 83 = .ok (.invokevirtual 106, 3) := by decide +kernel
theorem d_X6_measureRows_86 : decode (mC M_X6_measureRows) 86 = .ok (.ifnull 8, 3) := by decide +kernel
theorem d_X6_measureRows_89 : decode (mC M_X6_measureRows) 89 = .ok (.aload_n 3, 1) := by decide +kernel
theorem d_X6_measureRows_90 : decode (mC M_X6_measureRows) 90 = .ok (.iload_n 1, 1) := by decide +kernel
theorem d_X6_measureRows_91 : decode (mC M_X6_measureRows) 91 = .ok (.putfield 103, 3) := by decide +kernel
theorem d_X6_measureRows_94 : decode (mC M_X6_measureRows) 94 = .ok (.iinc 2 1, 3) := by decide +kernel
theorem d_X6_measureRows_97 : decode (mC M_X6_measureRows) 97 = .ok (.goto (-48), 3) := by decide +kernel
theorem d_X6_measureRows_100 : decode (mC M_X6_measureRows) 100 = .ok (.iinc 1 1, 3) := by decide +kernel
theorem d_X6_measureRows_103 : decode (mC M_X6_measureRows) 103 = .ok (.goto (-67), 3) := by decide +kernel
theorem d_X6_measureRows_106 : decode (mC M_X6_measureRows) 106 = .ok (.return_, 1) := by decide +kernel
theorem d_X6_mend_0 : decode (mC M_X6_mend) 0 = .ok (.aload_n 0, 1) := by decide +kernel
theorem d_X6_mend_1 : decode (mC M_X6_mend) 1 = .ok (.iload_n 2, 1) := by decide +kernel
theorem d_X6_mend_2 : decode (mC M_X6_mend) 2 = .ok (.invokevirtual 60, 3) := by decide +kernel
theorem d_X6_mend_5 : decode (mC M_X6_mend) 5 = .ok (.aload_n 0, 1) := by decide +kernel
theorem d_X6_mend_6 : decode (mC M_X6_mend) 6 = .ok (.invokevirtual 98, 3) := by decide +kernel
theorem d_X6_mend_9 : decode (mC M_X6_mend) 9 = .ok (.aload_n 0, 1) := by decide +kernel
theorem d_X6_mend_10 : decode (mC M_X6_mend) 10 = .ok (.getfield 26, 3) := by decide +kernel
theorem d_X6_mend_13 : decode (mC M_X6_mend) 13 = .ok (.iconst 0, 1) := by decide +kernel
theorem d_X6_mend_14 : decode (mC M_X6_mend) 14 = .ok (.putfield 101, 3) := by decide +kernel
theorem d_X6_mend_17 : decode (mC M_X6_mend) 17 = .ok (.aload_n 1, 1) := by decide +kernel
theorem d_X6_mend_18 : decode (mC M_X6_mend) 18 = .ok (.astore_n 3, 1) := by decide +kernel
theorem d_X6_mend_19 : decode (mC M_X6_mend) 19 = .ok (.aload_n 1, 1) := by decide +kernel
theorem d_X6_mend_20 : decode (mC M_X6_mend) 20 = .ok (.getfield 103, 3) := by decide +kernel
theorem d_X6_mend_23 : decode (mC M_X6_mend) 23 = .ok (.istore 4, 2) := by decide +kernel
theorem d_X6_mend_25 : decode (mC M_X6_mend) 25 = .ok (.iload 4, 2) := by decide +kernel
theorem d_X6_mend_27 : decode (mC M_X6_mend) 27 = .ok (.ifCond .le 56, 3) := by decide +kernel
theorem d_X6_mend_30 : decode (mC M_X6_mend) 30 = .ok (.aload_n 3, 1) := by decide +kernel
theorem d_X6_mend_31 : decode (mC M_X6_mend) 31 = .ok (.ifnull 52, 3) := by decide +kernel
theorem d_X6_mend_34 : decode (mC M_X6_mend) 34 = .ok (.aload_n 0, 1) := by decide +kernel
theorem d_X6_mend_35 : decode (mC M_X6_mend) 35 = .ok (.aload_n 3, 1) := by decide +kernel
theorem d_X6_mend_36 : decode (mC M_X6_mend) 36 = .ok (.iload 4, 2) := by decide +kernel
theorem d_X6_mend_38 : decode (mC M_X6_mend) 38 = .ok (.invokevirtual 106, 3) := by decide +kernel
theorem d_X6_mend_41 : decode (mC M_X6_mend) 41 = .ok (.astore 5, 2) := by decide +kernel
theorem d_X6_mend_43 : decode (mC M_X6_mend) 43 = .ok (.aload 5, 2) := by decide +kernel
theorem d_X6_mend_45 : decode (mC M_X6_mend) 45 = .ok (.ifnonnull 4, 3) := by decide +kernel
theorem d_X6_mend_48 : decode (mC M_X6_mend) 48 = .ok (.return_, 1) := by decide +kernel
theorem d_X6_mend_49 : decode (mC M_X6_mend) 49 = .ok (.aload 5, 2) := by decide +kernel
theorem d_X6_mend_51 : decode (mC M_X6_mend) 51 = .ok (.getfield 73, 3) := by decide +kernel
theorem d_X6_mend_54 : decode (mC M_X6_mend) 54 = .ok (.astore 6, 2) := by decide +kernel
theorem d_X6_mend_56 : decode (mC M_X6_mend) 56 = .ok (.aload 5, 2) := by decide +kernel
theorem d_X6_mend_58 : decode (mC M_X6_mend) 58 = .ok (.aload_n 3, 1) := by decide +kernel
theorem d_X6_mend_59 : decode (mC M_X6_mend) 59 = .ok (.invokevirtual 49, 3) := by decide +kernel
theorem d_X6_mend_62 : decode (mC M_X6_mend) 62 = .ok (.aload_n 0, 1) := by decide +kernel
theorem d_X6_mend_63 : decode (mC M_X6_mend) 63 = .ok (.getfield 26, 3) := by decide +kernel
theorem d_X6_mend_66 : decode (mC M_X6_mend) 66 = .ok (.aload 5, 2) := by decide +kernel
theorem d_X6_mend_68 : decode (mC M_X6_mend) 68 = .ok (.getfield 110, 3) := by decide +kernel
theorem d_X6_mend_71 : decode (mC M_X6_mend) 71 = .ok (.invokevirtual 111, 3) := by decide +kernel
theorem d_X6_mend_74 : decode (mC M_X6_mend) 74 = .ok (.aload 6, 2) := by decide +kernel
theorem d_X6_mend_76 : decode (mC M_X6_mend) 76 = .ok (.astore_n 3, 1) := by decide +kernel
theorem d_X6_mend_77 : decode (mC M_X6_mend) 77 = .ok (.iinc 4 (-1), 3) := by decide +kernel
theorem d_X6_mend_80 : decode (mC M_X6_mend) 80 = .ok (.goto (-55), 3) := by decide +kernel
theorem d_X6_mend_83 : decode (mC M_X6_mend) 83 = .ok (.return_, 1) := by decide +kernel
theorem d_X6_seat_0 : decode (mC M_X6_seat) 0 = .ok (.aload_n 0, 1) := by decide +kernel
theorem d_X6_seat_1 : decode (mC M_X6_seat) 1 = .ok (.iconst 0, 1) := by decide +kernel
theorem d_X6_seat_2 : decode (mC M_X6_seat) 2 = .ok (.putfield 77, 3) := by decide +kernel
theorem d_X6_seat_5 : decode (mC M_X6_seat) 5 = .ok (.aload_n 0, 1) := by decide +kernel
theorem d_X6_seat_6 : decode (mC M_X6_seat) 6 = .ok (.aload_n 1, 1) := by decide +kernel
theorem d_X6_seat_7 : decode (mC M_X6_seat) 7 = .ok (.iload_n 2, 1) := by decide +kernel
theorem d_X6_seat_8 : decode (mC M_X6_seat) 8 = .ok (.iconst 0, 1) := by decide +kernel
theorem d_X6_seat_9 : decode (mC M_X6_seat) 9 = .ok (.invokevirtual 80, 3) := by decide +kernel
theorem d_X6_seat_12 : decode (mC M_X6_seat) 12 = .ok (.pop, 1) := by decide +kernel
theorem d_X6_seat_13 : decode (mC M_X6_seat) 13 = .ok (.return_, 1) := by decide +kernel
theorem d_X6_seatAllInLeast_0 : decode (mC M_X6_seatAllInLeast) 0 = .ok (.iconst 0, 1) := by decide +kernel
theorem d_X6_seatAllInLeast_1 : decode (mC M_X6_seatAllInLeast) 1 = .ok (.istore_n 1, 1) := by decide +kernel
theorem d_X6_seatAllInLeast_2 : decode (mC M_X6_seatAllInLeast) 2 = .ok (.iload_n 1, 1) := by decide +kernel
theorem d_X6_seatAllInLeast_3 : decode (mC M_X6_seatAllInLeast) 3 = .ok (.aload_n 0, 1) := by decide +kernel
theorem d_X6_seatAllInLeast_4 : decode (mC M_X6_seatAllInLeast) 4 = .ok (.getfield 12, 3) := by decide +kernel
theorem d_X6_seatAllInLeast_7 : decode (mC M_X6_seatAllInLeast) 7 = .ok (.invokevirtual 30, 3) := by decide +kernel
theorem d_X6_seatAllInLeast_10 : decode (mC M_X6_seatAllInLeast) 10 = .ok (.if_icmp .ge 39, 3) := by decide +kernel
theorem d_X6_seatAllInLeast_13 : decode (mC M_X6_seatAllInLeast) 13 = .ok (.aload_n 0, 1) := by decide +kernel
theorem d_X6_seatAllInLeast_14 : decode (mC M_X6_seatAllInLeast) 14 = .ok (.getfield 12, 3) := by decide +kernel
theorem d_X6_seatAllInLeast_17 : decode (mC M_X6_seatAllInLeast) 17 = .ok (.iload_n 1, 1) := by decide +kernel
theorem d_X6_seatAllInLeast_18 : decode (mC M_X6_seatAllInLeast) 18 = .ok (.invokevirtual 34, 3) := by decide +kernel
theorem d_X6_seatAllInLeast_21 : decode (mC M_X6_seatAllInLeast) 21 = .ok (.checkcast 47, 3) := by decide +kernel
theorem d_X6_seatAllInLeast_24 : decode (mC M_X6_seatAllInLeast) 24 = .ok (.astore_n 2, 1) := by decide +kernel
theorem d_X6_seatAllInLeast_25 : decode (mC M_X6_seatAllInLeast) 25 = .ok (.aload_n 2, 1) := by decide +kernel
theorem d_X6_seatAllInLeast_26 : decode (mC M_X6_seatAllInLeast) 26 = .ok (.getfield 73, 3) := by decide +kernel
theorem d_X6_seatAllInLeast_29 : decode (mC M_X6_seatAllInLeast) 29 = .ok (.ifnull 14, 3) := by decide +kernel
theorem d_X6_seatAllInLeast_32 : decode (mC M_X6_seatAllInLeast) 32 = .ok (.aload_n 2, 1) := by decide +kernel
theorem d_X6_seatAllInLeast_33 : decode (mC M_X6_seatAllInLeast) 33 = .ok (.aconst_null, 1) := by decide +kernel
theorem d_X6_seatAllInLeast_34 : decode (mC M_X6_seatAllInLeast) 34 = .ok (.invokevirtual 49, 3) := by decide +kernel
theorem d_X6_seatAllInLeast_37 : decode (mC M_X6_seatAllInLeast) 37 = .ok (.aload_n 0, 1) := by decide +kernel
theorem d_X6_seatAllInLeast_38 : decode (mC M_X6_seatAllInLeast) 38 = .ok (.aload_n 2, 1) := by decide +kernel
theorem d_X6_seatAllInLeast_39 : decode (mC M_X6_seatAllInLeast) 39 = .ok (.iload_n 1, 1) := by decide +kernel
theorem d_X6_seatAllInLeast_40 : decode (mC M_X6_seatAllInLeast) 40 = .ok (.invokevirtual 66, 3) := by decide +kernel
theorem d_X6_seatAllInLeast_43 : decode (mC M_X6_seatAllInLeast) 43 = .ok (.iinc 1 1, 3) := by decide +kernel
theorem d_X6_seatAllInLeast_46 : decode (mC M_X6_seatAllInLeast) 46 = .ok (.goto (-44), 3) := by decide +kernel
theorem d_X6_seatAllInLeast_49 : decode (mC M_X6_seatAllInLeast) 49 = .ok (.return_, 1) := by decide +kernel
theorem d_X6_seatElsewhere_0 : decode (mC M_X6_seatElsewhere) 0 = .ok (.iconst 0, 1) := by decide +kernel
theorem d_X6_seatElsewhere_1 : decode (mC M_X6_seatElsewhere) 1 = .ok (.istore 4, 2) := by decide +kernel
theorem d_X6_seatElsewhere_3 : decode (mC M_X6_seatElsewhere) 3 = .ok (.iload 4, 2) := by decide +kernel
theorem d_X6_seatElsewhere_5 : decode (mC M_X6_seatElsewhere) 5 = .ok (.aload_n 0, 1) := by decide +kernel
theorem d_X6_seatElsewhere_6 : decode (mC M_X6_seatElsewhere) 6 = .ok (.getfield 18, 3) := by decide +kernel
theorem d_X6_seatElsewhere_9 : decode (mC M_X6_seatElsewhere) 9 = .ok (.invokevirtual 30, 3) := by decide +kernel
theorem d_X6_seatElsewhere_12 : decode (mC M_X6_seatElsewhere) 12 = .ok (.if_icmp .ge 53, 3) := by decide +kernel
theorem d_X6_seatElsewhere_15 : decode (mC M_X6_seatElsewhere) 15 = .ok (.aload_n 0, 1) := by decide +kernel
theorem d_X6_seatElsewhere_16 : decode (mC M_X6_seatElsewhere) 16 = .ok (.getfield 18, 3) := by decide +kernel
theorem d_X6_seatElsewhere_19 : decode (mC M_X6_seatElsewhere) 19 = .ok (.iload 4, 2) := by decide +kernel
theorem d_X6_seatElsewhere_21 : decode (mC M_X6_seatElsewhere) 21 = .ok (.invokevirtual 34, 3) := by decide +kernel
theorem d_X6_seatElsewhere_24 : decode (mC M_X6_seatElsewhere) 24 = .ok (.checkcast 38, 3) := by decide +kernel
theorem d_X6_seatElsewhere_27 : decode (mC M_X6_seatElsewhere) 27 = .ok (.astore 5, 2) := by decide +kernel
theorem d_X6_seatElsewhere_29 : decode (mC M_X6_seatElsewhere) 29 = .ok (.aload_n 1, 1) := by decide +kernel
theorem d_X6_seatElsewhere_30 : decode (mC M_X6_seatElsewhere) 30 = .ok (.aload 5, 2) := by decide +kernel
theorem d_X6_seatElsewhere_32 : decode (mC M_X6_seatElsewhere) 32 = .ok (.invokevirtual 84, 3) := by decide +kernel
theorem d_X6_seatElsewhere_35 : decode (mC M_X6_seatElsewhere) 35 = .ok (.ifCond .eq 24, 3) := by decide +kernel
theorem d_X6_seatElsewhere_38 : decode (mC M_X6_seatElsewhere) 38 = .ok (.aload_n 0, 1) := by decide +kernel
theorem d_X6_seatElsewhere_39 : decode (mC M_X6_seatElsewhere) 39 = .ok (.aload 5, 2) := by decide +kernel
theorem d_X6_seatElsewhere_41 : decode (mC M_X6_seatElsewhere) 41 = .ok (.iload_n 2, 1) := by decide +kernel
theorem d_X6_seatElsewhere_42 : decode (mC M_X6_seatElsewhere) 42 = .ok (.iload_n 3, 1) := by decide +kernel
theorem d_X6_seatElsewhere_43 : decode (mC M_X6_seatElsewhere) 43 = .ok (.iconst 1, 1) := by decide +kernel
theorem d_X6_seatElsewhere_44 : decode (mC M_X6_seatElsewhere) 44 = .ok (.iadd, 1) := by decide +kernel
theorem d_X6_seatElsewhere_45 : decode (mC M_X6_seatElsewhere) 45 = .ok (.invokevirtual 88, 3) := by decide +kernel
theorem d_X6_seatElsewhere_48 : decode (mC M_X6_seatElsewhere) 48 = .ok (.ifCond .eq 11, 3) := by decide +kernel
theorem d_X6_seatElsewhere_51 : decode (mC M_X6_seatElsewhere) 51 = .ok (.aload_n 1, 1) := by decide +kernel
theorem d_X6_seatElsewhere_52 : decode (mC M_X6_seatElsewhere) 52 = .ok (.aload 5, 2) := by decide +kernel
theorem d_X6_seatElsewhere_54 : decode (mC M_X6_seatElsewhere) 54 = .ok (.invokevirtual 49, 3) := by decide +kernel
theorem d_X6_seatElsewhere_57 : decode (mC M_X6_seatElsewhere) 57 = .ok (.iconst 1, 1) := by decide +kernel
theorem d_X6_seatElsewhere_58 : decode (mC M_X6_seatElsewhere) 58 = .ok (.ireturn, 1) := by decide +kernel
theorem d_X6_seatElsewhere_59 : decode (mC M_X6_seatElsewhere) 59 = .ok (.iinc 4 1, 3) := by decide +kernel
theorem d_X6_seatElsewhere_62 : decode (mC M_X6_seatElsewhere) 62 = .ok (.goto (-59), 3) := by decide +kernel
theorem d_X6_seatElsewhere_65 : decode (mC M_X6_seatElsewhere) 65 = .ok (.iconst 0, 1) := by decide +kernel
theorem d_X6_seatElsewhere_66 : decode (mC M_X6_seatElsewhere) 66 = .ok (.ireturn, 1) := by decide +kernel
theorem d_X6_size_0 : decode (mC M_X6_size) 0 = .ok (.iconst 0, 1) := by decide +kernel
theorem d_X6_size_1 : decode (mC M_X6_size) 1 = .ok (.istore_n 1, 1) := by decide +kernel
theorem d_X6_size_2 : decode (mC M_X6_size) 2 = .ok (.iconst 0, 1) := by decide +kernel
theorem d_X6_size_3 : decode (mC M_X6_size) 3 = .ok (.istore_n 2, 1) := by decide +kernel
theorem d_X6_size_4 : decode (mC M_X6_size) 4 = .ok (.iload_n 2, 1) := by decide +kernel
theorem d_X6_size_5 : decode (mC M_X6_size) 5 = .ok (.aload_n 0, 1) := by decide +kernel
theorem d_X6_size_6 : decode (mC M_X6_size) 6 = .ok (.getfield 18, 3) := by decide +kernel
theorem d_X6_size_9 : decode (mC M_X6_size) 9 = .ok (.invokevirtual 30, 3) := by decide +kernel
theorem d_X6_size_12 : decode (mC M_X6_size) 12 = .ok (.if_icmp .ge 26, 3) := by decide +kernel
theorem d_X6_size_15 : decode (mC M_X6_size) 15 = .ok (.iload_n 1, 1) := by decide +kernel
theorem d_X6_size_16 : decode (mC M_X6_size) 16 = .ok (.aload_n 0, 1) := by decide +kernel
theorem d_X6_size_17 : decode (mC M_X6_size) 17 = .ok (.getfield 18, 3) := by decide +kernel
theorem d_X6_size_20 : decode (mC M_X6_size) 20 = .ok (.iload_n 2, 1) := by decide +kernel
theorem d_X6_size_21 : decode (mC M_X6_size) 21 = .ok (.invokevirtual 34, 3) := by decide +kernel
theorem d_X6_size_24 : decode (mC M_X6_size) 24 = .ok (.checkcast 38, 3) := by decide +kernel
theorem d_X6_size_27 : decode (mC M_X6_size) 27 = .ok (.getfield 40, 3) := by decide +kernel
theorem d_X6_size_30 : decode (mC M_X6_size) 30 = .ok (.iadd, 1) := by decide +kernel
theorem d_X6_size_31 : decode (mC M_X6_size) 31 = .ok (.istore_n 1, 1) := by decide +kernel
theorem d_X6_size_32 : decode (mC M_X6_size) 32 = .ok (.iinc 2 1, 3) := by decide +kernel
theorem d_X6_size_35 : decode (mC M_X6_size) 35 = .ok (.goto (-31), 3) := by decide +kernel
theorem d_X6_size_38 : decode (mC M_X6_size) 38 = .ok (.iload_n 1, 1) := by decide +kernel
theorem d_X6_size_39 : decode (mC M_X6_size) 39 = .ok (.ireturn, 1) := by decide +kernel
theorem d_X6_startWith_0 : decode (mC M_X6_startWith) 0 = .ok (.aload_n 0, 1) := by decide +kernel
theorem d_X6_startWith_1 : decode (mC M_X6_startWith) 1 = .ok (.invokevirtual 44, 3) := by decide +kernel
theorem d_X6_startWith_4 : decode (mC M_X6_startWith) 4 = .ok (.aload_n 0, 1) := by decide +kernel
theorem d_X6_startWith_5 : decode (mC M_X6_startWith) 5 = .ok (.aload_n 1, 1) := by decide +kernel
theorem d_X6_startWith_6 : decode (mC M_X6_startWith) 6 = .ok (.putfield 18, 3) := by decide +kernel
theorem d_X6_startWith_9 : decode (mC M_X6_startWith) 9 = .ok (.return_, 1) := by decide +kernel
theorem d_X7_add_0 : decode (mC M_X7_add) 0 = .ok (.aload_n 0, 1) := by decide +kernel
theorem d_X7_add_1 : decode (mC M_X7_add) 1 = .ok (.getfield 15, 3) := by decide +kernel
theorem d_X7_add_4 : decode (mC M_X7_add) 4 = .ok (.ifCond .lt 35, 3) := by decide +kernel
theorem d_X7_add_7 : decode (mC M_X7_add) 7 = .ok (.aload_n 0, 1) := by decide +kernel
theorem d_X7_add_8 : decode (mC M_X7_add) 8 = .ok (.getfield 15, 3) := by decide +kernel
theorem d_X7_add_11 : decode (mC M_X7_add) 11 = .ok (.aload_n 0, 1) := by decide +kernel
theorem d_X7_add_12 : decode (mC M_X7_add) 12 = .ok (.getfield 9, 3) := by decide +kernel
theorem d_X7_add_15 : decode (mC M_X7_add) 15 = .ok (.arraylength, 1) := by decide +kernel
theorem d_X7_add_16 : decode (mC M_X7_add) 16 = .ok (.if_icmp .ge 23, 3) := by decide +kernel
theorem d_X7_add_19 : decode (mC M_X7_add) 19 = .ok (.aload_n 0, 1) := by decide +kernel
theorem d_X7_add_20 : decode (mC M_X7_add) 20 = .ok (.getfield 9, 3) := by decide +kernel
theorem d_X7_add_23 : decode (mC M_X7_add) 23 = .ok (.aload_n 0, 1) := by decide +kernel
theorem d_X7_add_24 : decode (mC M_X7_add) 24 = .ok (.getfield 15, 3) := by decide +kernel
theorem d_X7_add_27 : decode (mC M_X7_add) 27 = .ok (.iload_n 1, 1) := by decide +kernel
theorem d_X7_add_28 : decode (mC M_X7_add) 28 = .ok (.iastore, 1) := by decide +kernel
theorem d_X7_add_29 : decode (mC M_X7_add) 29 = .ok (.aload_n 0, 1) := by decide +kernel
theorem d_X7_add_30 : decode (mC M_X7_add) 30 = .ok (.dup, 1) := by decide +kernel
theorem d_X7_add_31 : decode (mC M_X7_add) 31 = .ok (.getfield 15, 3) := by decide +kernel
theorem d_X7_add_34 : decode (mC M_X7_add) 34 = .ok (.iconst 1, 1) := by decide +kernel
theorem d_X7_add_35 : decode (mC M_X7_add) 35 = .ok (.iadd, 1) := by decide +kernel
theorem d_X7_add_36 : decode (mC M_X7_add) 36 = .ok (.putfield 15, 3) := by decide +kernel
theorem d_X7_add_39 : decode (mC M_X7_add) 39 = .ok (.return_, 1) := by decide +kernel
theorem d_X7_at_0 : decode (mC M_X7_at) 0 = .ok (.iload_n 1, 1) := by decide +kernel
theorem d_X7_at_1 : decode (mC M_X7_at) 1 = .ok (.ifCond .lt 29, 3) := by decide +kernel
theorem d_X7_at_4 : decode (mC M_X7_at) 4 = .ok (.iload_n 1, 1) := by decide +kernel
theorem d_X7_at_5 : decode (mC M_X7_at) 5 = .ok (.aload_n 0, 1) := by decide +kernel
theorem d_X7_at_6 : decode (mC M_X7_at) 6 = .ok (.getfield 15, 3) := by decide +kernel
theorem d_X7_at_9 : decode (mC M_X7_at) 9 = .ok (.if_icmp .ge 21, 3) := by decide +kernel
theorem d_X7_at_12 : decode (mC M_X7_at) 12 = .ok (.iload_n 1, 1) := by decide +kernel
theorem d_X7_at_13 : decode (mC M_X7_at) 13 = .ok (.aload_n 0, 1) := by decide +kernel
theorem d_X7_at_14 : decode (mC M_X7_at) 14 = .ok (.getfield 9, 3) := by decide +kernel
theorem d_X7_at_17 : decode (mC M_X7_at) 17 = .ok (.arraylength, 1) := by decide +kernel
theorem d_X7_at_18 : decode (mC M_X7_at) 18 = .ok (.if_icmp .ge 12, 3) := by decide +kernel
theorem d_X7_at_21 : decode (mC M_X7_at) 21 = .ok (.aload_n 0, 1) := by decide +kernel
theorem d_X7_at_22 : decode (mC M_X7_at) 22 = .ok (.getfield 9, 3) := by decide +kernel
theorem d_X7_at_25 : decode (mC M_X7_at) 25 = .ok (.iload_n 1, 1) := by decide +kernel
theorem d_X7_at_26 : decode (mC M_X7_at) 26 = .ok (.iaload, 1) := by decide +kernel
theorem d_X7_at_27 : decode (mC M_X7_at) 27 = .ok (.goto 4, 3) := by decide +kernel
theorem d_X7_at_30 : decode (mC M_X7_at) 30 = .ok (.iconst (-1), 1) := by decide +kernel
theorem d_X7_at_31 : decode (mC M_X7_at) 31 = .ok (.ireturn, 1) := by decide +kernel
theorem d_X7_init_0 : decode (mC M_X7_init) 0 = .ok (.aload_n 0, 1) := by decide +kernel
theorem d_X7_init_1 : decode (mC M_X7_init) 1 = .ok (.invokespecial 3, 3) := by decide +kernel
theorem d_X7_init_4 : decode (mC M_X7_init) 4 = .ok (.aload_n 0, 1) := by decide +kernel
theorem d_X7_init_5 : decode (mC M_X7_init) 5 = .ok (.iload_n 1, 1) := by decide +kernel
theorem d_X7_init_6 : decode (mC M_X7_init) 6 = .ok (.ifCond .lt 7, 3) := by decide +kernel
theorem d_X7_init_9 : decode (mC M_X7_init) 9 = .ok (.iload_n 1, 1) := by decide +kernel
theorem d_X7_init_10 : decode (mC M_X7_init) 10 = .ok (.goto 4, 3) := by decide +kernel
theorem d_X7_init_13 : decode (mC M_X7_init) 13 = .ok (.iconst 0, 1) := by decide +kernel
theorem d_X7_init_14 : decode (mC M_X7_init) 14 = .ok (.newarray .int, 2) := by decide +kernel
theorem d_X7_init_16 : decode (mC M_X7_init) 16 = .ok (.putfield 9, 3) := by decide +kernel
theorem d_X7_init_19 : decode (mC M_X7_init) 19 = .ok (.return_, 1) := by decide +kernel
theorem d_X8_init_0 : decode (mC M_X8_init) 0 = .ok (.aload_n 0, 1) := by decide +kernel
theorem d_X8_init_1 : decode (mC M_X8_init) 1 = .ok (.invokespecial 3, 3) := by decide +kernel
theorem d_X8_init_4 : decode (mC M_X8_init) 4 = .ok (.aload_n 0, 1) := by decide +kernel
theorem d_X8_init_5 : decode (mC M_X8_init) 5 = .ok (.iload_n 1, 1) := by decide +kernel
theorem d_X8_init_6 : decode (mC M_X8_init) 6 = .ok (.putfield 9, 3) := by decide +kernel
theorem d_X8_init_9 : decode (mC M_X8_init) 9 = .ok (.return_, 1) := by decide +kernel
theorem d_X8_kindAt_0 : decode (mC M_X8_kindAt) 0 = .ok (.aload_n 0, 1) := by decide +kernel
theorem d_X8_kindAt_1 : decode (mC M_X8_kindAt) 1 = .ok (.ldc 15, 2) := by decide +kernel
theorem d_X8_kindAt_3 : decode (mC M_X8_kindAt) 3 = .ok (.invokevirtual 17, 3) := by decide +kernel
theorem d_X8_kindAt_6 : decode (mC M_X8_kindAt) 6 = .ok (.ifCond .eq 5, 3) := by decide +kernel
theorem d_X8_kindAt_9 : decode (mC M_X8_kindAt) 9 = .ok (.iconst 0, 1) := by decide +kernel
theorem d_X8_kindAt_10 : decode (mC M_X8_kindAt) 10 = .ok (.ireturn, 1) := by decide +kernel
theorem d_X8_kindAt_11 : decode (mC M_X8_kindAt) 11 = .ok (.aload_n 0, 1) := by decide +kernel
theorem d_X8_kindAt_12 : decode (mC M_X8_kindAt) 12 = .ok (.ldc 23, 2) := by decide +kernel
theorem d_X8_kindAt_14 : decode (mC M_X8_kindAt) 14 = .ok (.invokevirtual 17, 3) := by decide +kernel
theorem d_X8_kindAt_17 : decode (mC M_X8_kindAt) 17 = .ok (.ifCond .eq 5, 3) := by decide +kernel
theorem d_X8_kindAt_20 : decode (mC M_X8_kindAt) 20 = .ok (.iconst 1, 1) := by decide +kernel
theorem d_X8_kindAt_21 : decode (mC M_X8_kindAt) 21 = .ok (.ireturn, 1) := by decide +kernel
theorem d_X8_kindAt_22 : decode (mC M_X8_kindAt) 22 = .ok (.aload_n 0, 1) := by decide +kernel
theorem d_X8_kindAt_23 : decode (mC M_X8_kindAt) 23 = .ok (.ldc 25, 2) := by decide +kernel
theorem d_X8_kindAt_25 : decode (mC M_X8_kindAt) 25 = .ok (.invokevirtual 17, 3) := by decide +kernel
theorem d_X8_kindAt_28 : decode (mC M_X8_kindAt) 28 = .ok (.ifCond .eq 5, 3) := by decide +kernel
theorem d_X8_kindAt_31 : decode (mC M_X8_kindAt) 31 = .ok (.iconst 2, 1) := by decide +kernel
theorem d_X8_kindAt_32 : decode (mC M_X8_kindAt) 32 = .ok (.ireturn, 1) := by decide +kernel
theorem d_X8_kindAt_33 : decode (mC M_X8_kindAt) 33 = .ok (.aload_n 0, 1) := by decide +kernel
theorem d_X8_kindAt_34 : decode (mC M_X8_kindAt) 34 = .ok (.ldc 27, 2) := by decide +kernel
theorem d_X8_kindAt_36 : decode (mC M_X8_kindAt) 36 = .ok (.invokevirtual 17, 3) := by decide +kernel
theorem d_X8_kindAt_39 : decode (mC M_X8_kindAt) 39 = .ok (.ifCond .eq 7, 3) := by decide +kernel
theorem d_X8_kindAt_42 : decode (mC M_X8_kindAt) 42 = .ok (.iconst 3, 1) := by decide +kernel
theorem d_X8_kindAt_43 : decode (mC M_X8_kindAt) 43 = .ok (.goto 4, 3) := by decide +kernel
theorem d_X8_kindAt_46 : decode (mC M_X8_kindAt) 46 = .ok (.iconst (-1), 1) := by decide +kernel
theorem d_X8_kindAt_47 : decode (mC M_X8_kindAt) 47 = .ok (.ireturn, 1) := by decide +kernel
theorem d_X8_quarters_0 : decode (mC M_X8_quarters) 0 = .ok (.iload_n 1, 1) := by decide +kernel
theorem d_X8_quarters_1 : decode (mC M_X8_quarters) 1 = .ok (.ifCond .gt 5, 3) := by decide +kernel
theorem d_X8_quarters_4 : decode (mC M_X8_quarters) 4 = .ok (.iconst 0, 1) := by decide +kernel
theorem d_X8_quarters_5 : decode (mC M_X8_quarters) 5 = .ok (.ireturn, 1) := by decide +kernel
theorem d_X8_quarters_6 : decode (mC M_X8_quarters) 6 = .ok (.aload_n 0, 1) := by decide +kernel
theorem d_X8_quarters_7 : decode (mC M_X8_quarters) 7 = .ok (.getfield 48, 3) := by decide +kernel
theorem d_X8_quarters_10 : decode (mC M_X8_quarters) 10 = .ok (.ifCond .eq 12, 3) := by decide +kernel
theorem d_X8_quarters_13 : decode (mC M_X8_quarters) 13 = .ok (.iload_n 1, 1) := by decide +kernel
theorem d_X8_quarters_14 : decode (mC M_X8_quarters) 14 = .ok (.bipush 15, 2) := by decide +kernel
theorem d_X8_quarters_16 : decode (mC M_X8_quarters) 16 = .ok (.iadd, 1) := by decide +kernel
theorem d_X8_quarters_17 : decode (mC M_X8_quarters) 17 = .ok (.iconst 1, 1) := by decide +kernel
theorem d_X8_quarters_18 : decode (mC M_X8_quarters) 18 = .ok (.isub, 1) := by decide +kernel
theorem d_X8_quarters_19 : decode (mC M_X8_quarters) 19 = .ok (.goto 4, 3) := by decide +kernel
theorem d_X8_quarters_22 : decode (mC M_X8_quarters) 22 = .ok (.iload_n 1, 1) := by decide +kernel
theorem d_X8_quarters_23 : decode (mC M_X8_quarters) 23 = .ok (.bipush 15, 2) := by decide +kernel
theorem d_X8_quarters_25 : decode (mC M_X8_quarters) 25 = .ok (.idiv, 1) := by decide +kernel
theorem d_X8_quarters_26 : decode (mC M_X8_quarters) 26 = .ok (.ireturn, 1) := by decide +kernel
theorem d_X8_readNumbers_0 : decode (mC M_X8_readNumbers) 0 = .ok (.aload_n 0, 1) := by decide +kernel
theorem d_X8_readNumbers_1 : decode (mC M_X8_readNumbers) 1 = .ok (.getfield 9, 3) := by decide +kernel
theorem d_X8_readNumbers_4 : decode (mC M_X8_readNumbers) 4 = .ok (.ifCond .ne 28, 3) := by decide +kernel
theorem d_X8_readNumbers_7 : decode (mC M_X8_readNumbers) 7 = .ok (.aload_n 0, 1) := by decide +kernel
theorem d_X8_readNumbers_8 : decode (mC M_X8_readNumbers) 8 = .ok (.aload_n 1, 1) := by decide +kernel
theorem d_X8_readNumbers_9 : decode (mC M_X8_readNumbers) 9 = .ok (.iconst 0, 1) := by decide +kernel
theorem d_X8_readNumbers_10 : decode (mC M_X8_readNumbers) 10 = .ok (.ldc 29, 2) := by decide +kernel
theorem d_X8_readNumbers_12 : decode (mC M_X8_readNumbers) 12 = .ok (.invokevirtual 30, 3) := by decide +kernel
theorem d_X8_readNumbers_15 : decode (mC M_X8_readNumbers) 15 = .ok (.putfield 34, 3) := by decide +kernel
theorem d_X8_readNumbers_18 : decode (mC M_X8_readNumbers) 18 = .ok (.aload_n 0, 1) := by decide +kernel
theorem d_X8_readNumbers_19 : decode (mC M_X8_readNumbers) 19 = .ok (.getfield 34, 3) := by decide +kernel
theorem d_X8_readNumbers_22 : decode (mC M_X8_readNumbers) 22 = .ok (.iconst (-1), 1) := by decide +kernel
theorem d_X8_readNumbers_23 : decode (mC M_X8_readNumbers) 23 = .ok (.if_icmp .eq 7, 3) := by decide +kernel
theorem d_X8_readNumbers_26 : decode (mC M_X8_readNumbers) 26 = .ok (.iconst 1, 1) := by decide +kernel
theorem d_X8_readNumbers_27 : decode (mC M_X8_readNumbers) 27 = .ok (.goto 4, 3) := by decide +kernel
theorem d_X8_readNumbers_30 : decode (mC M_X8_readNumbers) 30 = .ok (.iconst 0, 1) := by decide +kernel
theorem d_X8_readNumbers_31 : decode (mC M_X8_readNumbers) 31 = .ok (.ireturn, 1) := by decide +kernel
theorem d_X8_readNumbers_32 : decode (mC M_X8_readNumbers) 32 = .ok (.aload_n 0, 1) := by decide +kernel
theorem d_X8_readNumbers_33 : decode (mC M_X8_readNumbers) 33 = .ok (.aload_n 1, 1) := by decide +kernel
theorem d_X8_readNumbers_34 : decode (mC M_X8_readNumbers) 34 = .ok (.iconst 0, 1) := by decide +kernel
theorem d_X8_readNumbers_35 : decode (mC M_X8_readNumbers) 35 = .ok (.ldc 29, 2) := by decide +kernel
theorem d_X8_readNumbers_37 : decode (mC M_X8_readNumbers) 37 = .ok (.invokevirtual 30, 3) := by decide +kernel
theorem d_X8_readNumbers_40 : decode (mC M_X8_readNumbers) 40 = .ok (.putfield 37, 3) := by decide +kernel
theorem d_X8_readNumbers_43 : decode (mC M_X8_readNumbers) 43 = .ok (.aload_n 0, 1) := by decide +kernel
theorem d_X8_readNumbers_44 : decode (mC M_X8_readNumbers) 44 = .ok (.getfield 37, 3) := by decide +kernel
theorem d_X8_readNumbers_47 : decode (mC M_X8_readNumbers) 47 = .ok (.iconst (-1), 1) := by decide +kernel
theorem d_X8_readNumbers_48 : decode (mC M_X8_readNumbers) 48 = .ok (.if_icmp .ne 5, 3) := by decide +kernel
theorem d_X8_readNumbers_51 : decode (mC M_X8_readNumbers) 51 = .ok (.iconst 0, 1) := by decide +kernel
theorem d_X8_readNumbers_52 : decode (mC M_X8_readNumbers) 52 = .ok (.ireturn, 1) := by decide +kernel
theorem d_X8_readNumbers_53 : decode (mC M_X8_readNumbers) 53 = .ok (.aload_n 0, 1) := by decide +kernel
theorem d_X8_readNumbers_54 : decode (mC M_X8_readNumbers) 54 = .ok (.aload_n 1, 1) := by decide +kernel
theorem d_X8_readNumbers_55 : decode (mC M_X8_readNumbers) 55 = .ok (.ldc 40, 2) := by decide +kernel
theorem d_X8_readNumbers_57 : decode (mC M_X8_readNumbers) 57 = .ok (.iconst 0, 1) := by decide +kernel
theorem d_X8_readNumbers_58 : decode (mC M_X8_readNumbers) 58 = .ok (.ldc 29, 2) := by decide +kernel
theorem d_X8_readNumbers_60 : decode (mC M_X8_readNumbers) 60 = .ok (.invokevirtual 42, 3) := by decide +kernel
theorem d_X8_readNumbers_63 : decode (mC M_X8_readNumbers) 63 = .ok (.putfield 34, 3) := by decide +kernel
theorem d_X8_readNumbers_66 : decode (mC M_X8_readNumbers) 66 = .ok (.aload_n 0, 1) := by decide +kernel
theorem d_X8_readNumbers_67 : decode (mC M_X8_readNumbers) 67 = .ok (.getfield 34, 3) := by decide +kernel
theorem d_X8_readNumbers_70 : decode (mC M_X8_readNumbers) 70 = .ok (.iconst (-1), 1) := by decide +kernel
theorem d_X8_readNumbers_71 : decode (mC M_X8_readNumbers) 71 = .ok (.if_icmp .ne 5, 3) := by decide +kernel
theorem d_X8_readNumbers_74 : decode (mC M_X8_readNumbers) 74 = .ok (.iconst 0, 1) := by decide +kernel
theorem d_X8_readNumbers_75 : decode (mC M_X8_readNumbers) 75 = .ok (.ireturn, 1) := by decide +kernel
theorem d_X8_readNumbers_76 : decode (mC M_X8_readNumbers) 76 = .ok (.aload_n 0, 1) := by decide +kernel
theorem d_X8_readNumbers_77 : decode (mC M_X8_readNumbers) 77 = .ok (.aload_n 1, 1) := by decide +kernel
theorem d_X8_readNumbers_78 : decode (mC M_X8_readNumbers) 78 = .ok (.ldc 46, 2) := by decide +kernel
theorem d_X8_readNumbers_80 : decode (mC M_X8_readNumbers) 80 = .ok (.invokevirtual 17, 3) := by decide +kernel
theorem d_X8_readNumbers_83 : decode (mC M_X8_readNumbers) 83 = .ok (.putfield 48, 3) := by decide +kernel
theorem d_X8_readNumbers_86 : decode (mC M_X8_readNumbers) 86 = .ok (.aload_n 1, 1) := by decide +kernel
theorem d_X8_readNumbers_87 : decode (mC M_X8_readNumbers) 87 = .ok (.aload_n 0, 1) := by decide +kernel
theorem d_X8_readNumbers_88 : decode (mC M_X8_readNumbers) 88 = .ok (.getfield 48, 3) := by decide +kernel
theorem d_X8_readNumbers_91 : decode (mC M_X8_readNumbers) 91 = .ok (.ifCond .eq 8, 3) := by decide +kernel
theorem d_X8_readNumbers_94 : decode (mC M_X8_readNumbers) 94 = .ok (.ldc 46, 2) := by decide +kernel
theorem d_X8_readNumbers_96 : decode (mC M_X8_readNumbers) 96 = .ok (.goto 5, 3) := by decide +kernel
theorem d_X8_readNumbers_99 : decode (mC M_X8_readNumbers) 99 = .ok (.ldc 52, 2) := by decide +kernel
theorem d_X8_readNumbers_101 : decode (mC M_X8_readNumbers) 101 = .ok (.invokevirtual 54, 3) := by decide +kernel
theorem d_X8_readNumbers_104 : decode (mC M_X8_readNumbers) 104 = .ok (.ireturn, 1) := by decide +kernel
theorem d_X8_worth_0 : decode (mC M_X8_worth) 0 = .ok (.aload_n 0, 1) := by decide +kernel
theorem d_X8_worth_1 : decode (mC M_X8_worth) 1 = .ok (.getfield 9, 3) := by decide +kernel
theorem d_X8_worth_4 : decode (mC M_X8_worth) 4 = .ok (.tableswitch 87 0 3 #[32, 37, 55, 71], 32) := by decide +kernel
theorem d_X8_worth_36 : decode (mC M_X8_worth) 36 = .ok (.aload_n 0, 1) := by decide +kernel
theorem d_X8_worth_37 : decode (mC M_X8_worth) 37 = .ok (.getfield 34, 3) := by decide +kernel
theorem d_X8_worth_40 : decode (mC M_X8_worth) 40 = .ok (.ireturn, 1) := by decide +kernel
theorem d_X8_worth_41 : decode (mC M_X8_worth) 41 = .ok (.aload_n 0, 1) := by decide +kernel
theorem d_X8_worth_42 : decode (mC M_X8_worth) 42 = .ok (.iload_n 2, 1) := by decide +kernel
theorem d_X8_worth_43 : decode (mC M_X8_worth) 43 = .ok (.iload_n 1, 1) := by decide +kernel
theorem d_X8_worth_44 : decode (mC M_X8_worth) 44 = .ok (.isub, 1) := by decide +kernel
theorem d_X8_worth_45 : decode (mC M_X8_worth) 45 = .ok (.aload_n 0, 1) := by decide +kernel
theorem d_X8_worth_46 : decode (mC M_X8_worth) 46 = .ok (.getfield 37, 3) := by decide +kernel
theorem d_X8_worth_49 : decode (mC M_X8_worth) 49 = .ok (.isub, 1) := by decide +kernel
theorem d_X8_worth_50 : decode (mC M_X8_worth) 50 = .ok (.invokevirtual 57, 3) := by decide +kernel
theorem d_X8_worth_53 : decode (mC M_X8_worth) 53 = .ok (.aload_n 0, 1) := by decide +kernel
theorem d_X8_worth_54 : decode (mC M_X8_worth) 54 = .ok (.getfield 34, 3) := by decide +kernel
theorem d_X8_worth_57 : decode (mC M_X8_worth) 57 = .ok (.imul, 1) := by decide +kernel
theorem d_X8_worth_58 : decode (mC M_X8_worth) 58 = .ok (.ireturn, 1) := by decide +kernel
theorem d_X8_worth_59 : decode (mC M_X8_worth) 59 = .ok (.aload_n 0, 1) := by decide +kernel
theorem d_X8_worth_60 : decode (mC M_X8_worth) 60 = .ok (.aload_n 0, 1) := by decide +kernel
theorem d_X8_worth_61 : decode (mC M_X8_worth) 61 = .ok (.getfield 37, 3) := by decide +kernel
theorem d_X8_worth_64 : decode (mC M_X8_worth) 64 = .ok (.iload_n 1, 1) := by decide +kernel
theorem d_X8_worth_65 : decode (mC M_X8_worth) 65 = .ok (.isub, 1) := by decide +kernel
theorem d_X8_worth_66 : decode (mC M_X8_worth) 66 = .ok (.invokevirtual 57, 3) := by decide +kernel
theorem d_X8_worth_69 : decode (mC M_X8_worth) 69 = .ok (.aload_n 0, 1) := by decide +kernel
theorem d_X8_worth_70 : decode (mC M_X8_worth) 70 = .ok (.getfield 34, 3) := by decide +kernel
theorem d_X8_worth_73 : decode (mC M_X8_worth) 73 = .ok (.imul, 1) := by decide +kernel
theorem d_X8_worth_74 : decode (mC M_X8_worth) 74 = .ok (.ireturn, 1) := by decide +kernel
theorem d_X8_worth_75 : decode (mC M_X8_worth) 75 = .ok (.aload_n 0, 1) := by decide +kernel
theorem d_X8_worth_76 : decode (mC M_X8_worth) 76 = .ok (.iload_n 2, 1) := by decide +kernel
theorem d_X8_worth_77 : decode (mC M_X8_worth) 77 = .ok (.aload_n 0, 1) := by decide +kernel
theorem d_X8_worth_78 : decode (mC M_X8_worth) 78 = .ok (.getfield 37, 3) := by decide +kernel
theorem d_X8_worth_81 : decode (mC M_X8_worth) 81 = .ok (.isub, 1) := by decide +kernel
theorem d_X8_worth_82 : decode (mC M_X8_worth) 82 = .ok (.invokevirtual 57, 3) := by decide +kernel
theorem d_X8_worth_85 : decode (mC M_X8_worth) 85 = .ok (.aload_n 0, 1) := by decide +kernel
theorem d_X8_worth_86 : decode (mC M_X8_worth) 86 = .ok (.getfield 34, 3) := by decide +kernel
theorem d_X8_worth_89 : decode (mC M_X8_worth) 89 = .ok (.imul, 1) := by decide +kernel
theorem d_X8_worth_90 : decode (mC M_X8_worth) 90 = .ok (.ireturn, 1) := by decide +kernel
theorem d_X8_worth_91 : decode (mC M_X8_worth) 91 = .ok (.iconst 0, 1) := by decide +kernel
theorem d_X8_worth_92 : decode (mC M_X8_worth) 92 = .ok (.ireturn, 1) := by decide +kernel
theorem d_X9_advance_0 : decode (mC M_X9_advance) 0 = .ok (.aload_n 0, 1) := by decide +kernel
theorem d_X9_advance_1 : decode (mC M_X9_advance) 1 = .ok (.aload_n 0, 1) := by decide +kernel
theorem d_X9_advance_2 : decode (mC M_X9_advance) 2 = .ok (.getfield 27, 3) := by decide +kernel
theorem d_X9_advance_5 : decode (mC M_X9_advance) 5 = .ok (.putfield 33, 3) := by decide +kernel
theorem d_X9_advance_8 : decode (mC M_X9_advance) 8 = .ok (.aload_n 0, 1) := by decide +kernel
theorem d_X9_advance_9 : decode (mC M_X9_advance) 9 = .ok (.getfield 33, 3) := by decide +kernel
theorem d_X9_advance_12 : decode (mC M_X9_advance) 12 = .ok (.aload_n 0, 1) := by decide +kernel
theorem d_X9_advance_13 : decode (mC M_X9_advance) 13 = .ok (.getfield 14, 3) := by decide +kernel
theorem d_X9_advance_16 : decode (mC M_X9_advance) 16 = .ok (.getfield 36, 3) := by decide +kernel
theorem d_X9_advance_19 : decode (mC M_X9_advance) 19 = .ok (.if_icmp .ge 34, 3) := by decide +kernel
theorem d_X9_advance_22 : decode (mC M_X9_advance) 22 = .ok (.aload_n 0, 1) := by decide +kernel
theorem d_X9_advance_23 : decode (mC M_X9_advance) 23 = .ok (.getfield 14, 3) := by decide +kernel
theorem d_X9_advance_26 : decode (mC M_X9_advance) 26 = .ok (.aload_n 0, 1) := by decide +kernel
theorem d_X9_advance_27 : decode (mC M_X9_advance) 27 = .ok (.getfield 33, 3) := by decide +kernel
theorem d_X9_advance_30 : decode (mC M_X9_advance) 30 = .ok (.invokevirtual 39, 3) := by decide +kernel
theorem d_X9_advance_33 : decode (mC M_X9_advance) 33 = .ok (.invokestatic 43, 3) := by decide +kernel
theorem d_X9_advance_36 : decode (mC M_X9_advance) 36 = .ok (.iconst 1, 1) := by decide +kernel
theorem d_X9_advance_37 : decode (mC M_X9_advance) 37 = .ok (.if_icmp .ne 16, 3) := by decide +kernel
theorem d_X9_advance_40 : decode (mC M_X9_advance) 40 = .ok (.aload_n 0, 1) := by decide +kernel
theorem d_X9_advance_41 : decode (mC M_X9_advance) 41 = .ok (.dup, 1) := by decide +kernel
theorem d_X9_advance_42 : decode (mC M_X9_advance) 42 = .ok (.getfield 33, 3) := by decide +kernel
theorem d_X9_advance_45 : decode (mC M_X9_advance) 45 = .ok (.iconst 1, 1) := by decide +kernel
theorem d_X9_advance_46 : decode (mC M_X9_advance) 46 = .ok (.iadd, 1) := by decide +kernel
theorem d_X9_advance_47 : decode (mC M_X9_advance) 47 = .ok (.putfield 33, 3) := by decide +kernel
theorem d_X9_advance_50 : decode (mC M_X9_advance) 50 = .ok (.goto (-42), 3) := by decide +kernel
theorem d_X9_advance_53 : decode (mC M_X9_advance) 53 = .ok (.aload_n 0, 1) := by decide +kernel
theorem d_X9_advance_54 : decode (mC M_X9_advance) 54 = .ok (.aload_n 0, 1) := by decide +kernel
theorem d_X9_advance_55 : decode (mC M_X9_advance) 55 = .ok (.getfield 14, 3) := by decide +kernel
theorem d_X9_advance_58 : decode (mC M_X9_advance) 58 = .ok (.aload_n 0, 1) := by decide +kernel
theorem d_X9_advance_59 : decode (mC M_X9_advance) 59 = .ok (.getfield 33, 3) := by decide +kernel
theorem d_X9_advance_62 : decode (mC M_X9_advance) 62 = .ok (.invokevirtual 39, 3) := by decide +kernel
theorem d_X9_advance_65 : decode (mC M_X9_advance) 65 = .ok (.invokestatic 43, 3) := by decide +kernel
theorem d_X9_advance_68 : decode (mC M_X9_advance) 68 = .ok (.putfield 46, 3) := by decide +kernel
theorem d_X9_advance_71 : decode (mC M_X9_advance) 71 = .ok (.aload_n 0, 1) := by decide +kernel
theorem d_X9_advance_72 : decode (mC M_X9_advance) 72 = .ok (.iconst 0, 1) := by decide +kernel
theorem d_X9_advance_73 : decode (mC M_X9_advance) 73 = .ok (.putfield 49, 3) := by decide +kernel
theorem d_X9_advance_76 : decode (mC M_X9_advance) 76 = .ok (.aload_n 0, 1) := by decide +kernel
theorem d_X9_advance_77 : decode (mC M_X9_advance) 77 = .ok (.aload_n 0, 1) := by decide +kernel
theorem d_X9_advance_78 : decode (mC M_X9_advance) 78 = .ok (.getfield 46, 3) := by decide +kernel
theorem d_X9_advance_81 : decode (mC M_X9_advance) 81 = .ok (.iconst 4, 1) := by decide +kernel
theorem d_X9_advance_82 : decode (mC M_X9_advance) 82 = .ok (.if_icmp .ne 12, 3) := by decide +kernel
theorem d_X9_advance_85 : decode (mC M_X9_advance) 85 = .ok (.aload_n 0, 1) := by decide +kernel
theorem d_X9_advance_86 : decode (mC M_X9_advance) 86 = .ok (.getfield 33, 3) := by decide +kernel
theorem d_X9_advance_89 : decode (mC M_X9_advance) 89 = .ok (.iconst 1, 1) := by decide +kernel
theorem d_X9_advance_90 : decode (mC M_X9_advance) 90 = .ok (.iadd, 1) := by decide +kernel
theorem d_X9_advance_91 : decode (mC M_X9_advance) 91 = .ok (.goto 7, 3) := by decide +kernel
theorem d_X9_advance_94 : decode (mC M_X9_advance) 94 = .ok (.aload_n 0, 1) := by decide +kernel
theorem d_X9_advance_95 : decode (mC M_X9_advance) 95 = .ok (.getfield 33, 3) := by decide +kernel
theorem d_X9_advance_98 : decode (mC M_X9_advance) 98 = .ok (.putfield 27, 3) := by decide +kernel
theorem d_X9_advance_101 : decode (mC M_X9_advance) 101 = .ok (.aload_n 0, 1) := by decide +kernel
theorem d_X9_advance_102 : decode (mC M_X9_advance) 102 = .ok (.getfield 27, 3) := by decide +kernel
theorem d_X9_advance_105 : decode (mC M_X9_advance) 105 = .ok (.aload_n 0, 1) := by decide +kernel
theorem d_X9_advance_106 : decode (mC M_X9_advance) 106 = .ok (.getfield 14, 3) := by decide +kernel
theorem d_X9_advance_109 : decode (mC M_X9_advance) 109 = .ok (.getfield 36, 3) := by decide +kernel
theorem d_X9_advance_112 : decode (mC M_X9_advance) 112 = .ok (.if_icmp .ge 71, 3) := by decide +kernel
theorem d_X9_advance_115 : decode (mC M_X9_advance) 115 = .ok (.aload_n 0, 1) := by decide +kernel
theorem d_X9_advance_116 : decode (mC M_X9_advance) 116 = .ok (.getfield 46, 3) := by decide +kernel
theorem d_X9_advance_119 : decode (mC M_X9_advance) 119 = .ok (.iconst 4, 1) := by decide +kernel
theorem d_X9_advance_120 : decode (mC M_X9_advance) 120 = .ok (.if_icmp .eq 63, 3) := by decide +kernel
theorem d_X9_advance_123 : decode (mC M_X9_advance) 123 = .ok (.aload_n 0, 1) := by decide +kernel
theorem d_X9_advance_124 : decode (mC M_X9_advance) 124 = .ok (.getfield 14, 3) := by decide +kernel
theorem d_X9_advance_127 : decode (mC M_X9_advance) 127 = .ok (.aload_n 0, 1) := by decide +kernel
theorem d_X9_advance_128 : decode (mC M_X9_advance) 128 = .ok (.getfield 27, 3) := by decide +kernel
theorem d_X9_advance_131 : decode (mC M_X9_advance) 131 = .ok (.invokevirtual 39, 3) := by decide +kernel
theorem d_X9_advance_134 : decode (mC M_X9_advance) 134 = .ok (.invokestatic 43, 3) := by decide +kernel
theorem d_X9_advance_137 : decode (mC M_X9_advance) 137 = .ok (.aload_n 0, 1) := by decide +kernel
theorem d_X9_advance_138 : decode (mC M_X9_advance) 138 = .ok (.getfield 46, 3) := by decide +kernel
theorem d_X9_advance_141 : decode (mC M_X9_advance) 141 = .ok (.if_icmp .ne 42, 3) := by decide +kernel
theorem d_X9_advance_144 : decode (mC M_X9_advance) 144 = .ok (.aload_n 0, 1) := by decide +kernel
theorem d_X9_advance_145 : decode (mC M_X9_advance) 145 = .ok (.aload_n 0, 1) := by decide +kernel
theorem d_X9_advance_146 : decode (mC M_X9_advance) 146 = .ok (.getfield 49, 3) := by decide +kernel
theorem d_X9_advance_149 : decode (mC M_X9_advance) 149 = .ok (.bipush 10, 2) := by decide +kernel
theorem d_X9_advance_151 : decode (mC M_X9_advance) 151 = .ok (.imul, 1) := by decide +kernel
theorem d_X9_advance_152 : decode (mC M_X9_advance) 152 = .ok (.aload_n 0, 1) := by decide +kernel
theorem d_X9_advance_153 : decode (mC M_X9_advance) 153 = .ok (.getfield 14, 3) := by decide +kernel
theorem d_X9_advance_156 : decode (mC M_X9_advance) 156 = .ok (.aload_n 0, 1) := by decide +kernel
theorem d_X9_advance_157 : decode (mC M_X9_advance) 157 = .ok (.getfield 27, 3) := by decide +kernel
theorem d_X9_advance_160 : decode (mC M_X9_advance) 160 = .ok (.invokevirtual 39, 3) := by decide +kernel
theorem d_X9_advance_163 : decode (mC M_X9_advance) 163 = .ok (.iadd, 1) := by decide +kernel
theorem d_X9_advance_164 : decode (mC M_X9_advance) 164 = .ok (.bipush 48, 2) := by decide +kernel
theorem d_X9_advance_166 : decode (mC M_X9_advance) 166 = .ok (.isub, 1) := by decide +kernel
theorem d_X9_advance_167 : decode (mC M_X9_advance) 167 = .ok (.putfield 49, 3) := by decide +kernel
theorem d_X9_advance_170 : decode (mC M_X9_advance) 170 = .ok (.aload_n 0, 1) := by decide +kernel
theorem d_X9_advance_171 : decode (mC M_X9_advance) 171 = .ok (.dup, 1) := by decide +kernel
theorem d_X9_advance_172 : decode (mC M_X9_advance) 172 = .ok (.getfield 27, 3) := by decide +kernel
theorem d_X9_advance_175 : decode (mC M_X9_advance) 175 = .ok (.iconst 1, 1) := by decide +kernel
theorem d_X9_advance_176 : decode (mC M_X9_advance) 176 = .ok (.iadd, 1) := by decide +kernel
theorem d_X9_advance_177 : decode (mC M_X9_advance) 177 = .ok (.putfield 27, 3) := by decide +kernel
theorem d_X9_advance_180 : decode (mC M_X9_advance) 180 = .ok (.goto (-79), 3) := by decide +kernel
theorem d_X9_advance_183 : decode (mC M_X9_advance) 183 = .ok (.return_, 1) := by decide +kernel
theorem d_X9_atEnd_0 : decode (mC M_X9_atEnd) 0 = .ok (.aload_n 0, 1) := by decide +kernel
theorem d_X9_atEnd_1 : decode (mC M_X9_atEnd) 1 = .ok (.getfield 46, 3) := by decide +kernel
theorem d_X9_atEnd_4 : decode (mC M_X9_atEnd) 4 = .ok (.ifCond .ne 7, 3) := by decide +kernel
theorem d_X9_atEnd_7 : decode (mC M_X9_atEnd) 7 = .ok (.iconst 1, 1) := by decide +kernel
theorem d_X9_atEnd_8 : decode (mC M_X9_atEnd) 8 = .ok (.goto 4, 3) := by decide +kernel
theorem d_X9_atEnd_11 : decode (mC M_X9_atEnd) 11 = .ok (.iconst 0, 1) := by decide +kernel
theorem d_X9_atEnd_12 : decode (mC M_X9_atEnd) 12 = .ok (.ireturn, 1) := by decide +kernel
theorem d_X9_begin_0 : decode (mC M_X9_begin) 0 = .ok (.aload_n 0, 1) := by decide +kernel
theorem d_X9_begin_1 : decode (mC M_X9_begin) 1 = .ok (.iconst 0, 1) := by decide +kernel
theorem d_X9_begin_2 : decode (mC M_X9_begin) 2 = .ok (.putfield 24, 3) := by decide +kernel
theorem d_X9_begin_5 : decode (mC M_X9_begin) 5 = .ok (.aload_n 0, 1) := by decide +kernel
theorem d_X9_begin_6 : decode (mC M_X9_begin) 6 = .ok (.iconst (-1), 1) := by decide +kernel
theorem d_X9_begin_7 : decode (mC M_X9_begin) 7 = .ok (.putfield 20, 3) := by decide +kernel
theorem d_X9_begin_10 : decode (mC M_X9_begin) 10 = .ok (.aload_n 0, 1) := by decide +kernel
theorem d_X9_begin_11 : decode (mC M_X9_begin) 11 = .ok (.iconst 0, 1) := by decide +kernel
theorem d_X9_begin_12 : decode (mC M_X9_begin) 12 = .ok (.putfield 27, 3) := by decide +kernel
theorem d_X9_begin_15 : decode (mC M_X9_begin) 15 = .ok (.aload_n 0, 1) := by decide +kernel
theorem d_X9_begin_16 : decode (mC M_X9_begin) 16 = .ok (.invokevirtual 30, 3) := by decide +kernel
theorem d_X9_begin_19 : decode (mC M_X9_begin) 19 = .ok (.return_, 1) := by decide +kernel
theorem d_X9_fail_0 : decode (mC M_X9_fail) 0 = .ok (.aload_n 0, 1) := by decide +kernel
theorem d_X9_fail_1 : decode (mC M_X9_fail) 1 = .ok (.iload_n 1, 1) := by decide +kernel
theorem d_X9_fail_2 : decode (mC M_X9_fail) 2 = .ok (.putfield 24, 3) := by decide +kernel
theorem d_X9_fail_5 : decode (mC M_X9_fail) 5 = .ok (.aload_n 0, 1) := by decide +kernel
theorem d_X9_fail_6 : decode (mC M_X9_fail) 6 = .ok (.aload_n 0, 1) := by decide +kernel
theorem d_X9_fail_7 : decode (mC M_X9_fail) 7 = .ok (.getfield 33, 3) := by decide +kernel
theorem d_X9_fail_10 : decode (mC M_X9_fail) 10 = .ok (.putfield 20, 3) := by decide +kernel
theorem d_X9_fail_13 : decode (mC M_X9_fail) 13 = .ok (.iconst 0, 1) := by decide +kernel
theorem d_X9_fail_14 : decode (mC M_X9_fail) 14 = .ok (.ireturn, 1) := by decide +kernel
theorem d_X9_init_0 : decode (mC M_X9_init) 0 = .ok (.aload_n 0, 1) := by decide +kernel
theorem d_X9_init_1 : decode (mC M_X9_init) 1 = .ok (.invokespecial 3, 3) := by decide +kernel
theorem d_X9_init_4 : decode (mC M_X9_init) 4 = .ok (.aload_n 0, 1) := by decide +kernel
theorem d_X9_init_5 : decode (mC M_X9_init) 5 = .ok (.new 9, 3) := by decide +kernel
theorem d_X9_init_8 : decode (mC M_X9_init) 8 = .ok (.dup, 1) := by decide +kernel
theorem d_X9_init_9 : decode (mC M_X9_init) 9 = .ok (.sipush 1000, 3) := by decide +kernel
theorem d_X9_init_12 : decode (mC M_X9_init) 12 = .ok (.invokespecial 11, 3) := by decide +kernel
theorem d_X9_init_15 : decode (mC M_X9_init) 15 = .ok (.putfield 14, 3) := by decide +kernel
theorem d_X9_init_18 : decode (mC M_X9_init) 18 = .ok (.aload_n 0, 1) := by decide +kernel
theorem d_X9_init_19 : decode (mC M_X9_init) 19 = .ok (.iconst (-1), 1) := by decide +kernel
theorem d_X9_init_20 : decode (mC M_X9_init) 20 = .ok (.putfield 20, 3) := by decide +kernel
theorem d_X9_init_23 : decode (mC M_X9_init) 23 = .ok (.return_, 1) := by decide +kernel
theorem d_X9_isSign_0 : decode (mC M_X9_isSign) 0 = .ok (.aload_n 0, 1) := by decide +kernel
theorem d_X9_isSign_1 : decode (mC M_X9_isSign) 1 = .ok (.getfield 46, 3) := by decide +kernel
theorem d_X9_isSign_4 : decode (mC M_X9_isSign) 4 = .ok (.iconst 4, 1) := by decide +kernel
theorem d_X9_isSign_5 : decode (mC M_X9_isSign) 5 = .ok (.if_icmp .ne 22, 3) := by decide +kernel
theorem d_X9_isSign_8 : decode (mC M_X9_isSign) 8 = .ok (.aload_n 0, 1) := by decide +kernel
theorem d_X9_isSign_9 : decode (mC M_X9_isSign) 9 = .ok (.getfield 14, 3) := by decide +kernel
theorem d_X9_isSign_12 : decode (mC M_X9_isSign) 12 = .ok (.aload_n 0, 1) := by decide +kernel
theorem d_X9_isSign_13 : decode (mC M_X9_isSign) 13 = .ok (.getfield 33, 3) := by decide +kernel
theorem d_X9_isSign_16 : decode (mC M_X9_isSign) 16 = .ok (.invokevirtual 39, 3) := by decide +kernel
theorem d_X9_isSign_19 : decode (mC M_X9_isSign) 19 = .ok (.iload_n 1, 1) := by decide +kernel
theorem d_X9_isSign_20 : decode (mC M_X9_isSign) 20 = .ok (.if_icmp .ne 7, 3) := by decide +kernel
theorem d_X9_isSign_23 : decode (mC M_X9_isSign) 23 = .ok (.iconst 1, 1) := by decide +kernel
theorem d_X9_isSign_24 : decode (mC M_X9_isSign) 24 = .ok (.goto 4, 3) := by decide +kernel
theorem d_X9_isSign_27 : decode (mC M_X9_isSign) 27 = .ok (.iconst 0, 1) := by decide +kernel
theorem d_X9_isSign_28 : decode (mC M_X9_isSign) 28 = .ok (.ireturn, 1) := by decide +kernel
theorem d_X9_isWord_0 : decode (mC M_X9_isWord) 0 = .ok (.aload_n 0, 1) := by decide +kernel
theorem d_X9_isWord_1 : decode (mC M_X9_isWord) 1 = .ok (.getfield 46, 3) := by decide +kernel
theorem d_X9_isWord_4 : decode (mC M_X9_isWord) 4 = .ok (.iconst 2, 1) := by decide +kernel
theorem d_X9_isWord_5 : decode (mC M_X9_isWord) 5 = .ok (.if_icmp .ne 19, 3) := by decide +kernel
theorem d_X9_isWord_8 : decode (mC M_X9_isWord) 8 = .ok (.aload_n 0, 1) := by decide +kernel
theorem d_X9_isWord_9 : decode (mC M_X9_isWord) 9 = .ok (.getfield 27, 3) := by decide +kernel
theorem d_X9_isWord_12 : decode (mC M_X9_isWord) 12 = .ok (.aload_n 0, 1) := by decide +kernel
theorem d_X9_isWord_13 : decode (mC M_X9_isWord) 13 = .ok (.getfield 33, 3) := by decide +kernel
theorem d_X9_isWord_16 : decode (mC M_X9_isWord) 16 = .ok (.isub, 1) := by decide +kernel
theorem d_X9_isWord_17 : decode (mC M_X9_isWord) 17 = .ok (.aload_n 1, 1) := by decide +kernel
theorem d_X9_isWord_18 : decode (mC M_X9_isWord) 18 = .ok (.invokevirtual 52, 3) := by decide +kernel
theorem d_X9_isWord_21 : decode (mC M_X9_isWord) 21 = .ok (.if_icmp .eq 5, 3) := by decide +kernel
theorem d_X9_isWord_24 : decode (mC M_X9_isWord) 24 = .ok (.iconst 0, 1) := by decide +kernel
theorem d_X9_isWord_25 : decode (mC M_X9_isWord) 25 = .ok (.ireturn, 1) := by decide +kernel
theorem d_X9_isWord_26 : decode (mC M_X9_isWord) 26 = .ok (.iconst 0, 1) := by decide +kernel
theorem d_X9_isWord_27 : decode (mC M_X9_isWord) 27 = .ok (.istore_n 2, 1) := by decide +kernel
theorem d_X9_isWord_28 : decode (mC M_X9_isWord) 28 = .ok (.iload_n 2, 1) := by decide +kernel
theorem d_X9_isWord_29 : decode (mC M_X9_isWord) 29 = .ok (.aload_n 1, 1) := by decide +kernel
theorem d_X9_isWord_30 : decode (mC M_X9_isWord) 30 = .ok (.invokevirtual 52, 3) := by decide +kernel
theorem d_X9_isWord_33 : decode (mC M_X9_isWord) 33 = .ok (.if_icmp .ge 32, 3) := by decide +kernel
theorem d_X9_isWord_36 : decode (mC M_X9_isWord) 36 = .ok (.aload_n 0, 1) := by decide +kernel
theorem d_X9_isWord_37 : decode (mC M_X9_isWord) 37 = .ok (.getfield 14, 3) := by decide +kernel
theorem d_X9_isWord_40 : decode (mC M_X9_isWord) 40 = .ok (.aload_n 0, 1) := by decide +kernel
theorem d_X9_isWord_41 : decode (mC M_X9_isWord) 41 = .ok (.getfield 33, 3) := by decide +kernel
theorem d_X9_isWord_44 : decode (mC M_X9_isWord) 44 = .ok (.iload_n 2, 1) := by decide +kernel
theorem d_X9_isWord_45 : decode (mC M_X9_isWord) 45 = .ok (.iadd, 1) := by decide +kernel
theorem d_X9_isWord_46 : decode (mC M_X9_isWord) 46 = .ok (.invokevirtual 39, 3) := by decide +kernel
theorem d_X9_isWord_49 : decode (mC M_X9_isWord) 49 = .ok (.aload_n 1, 1) := by decide +kernel
theorem d_X9_isWord_50 : decode (mC M_X9_isWord) 50 = .ok (.iload_n 2, 1) := by decide +kernel
theorem d_X9_isWord_51 : decode (mC M_X9_isWord) 51 = .ok (.invokevirtual 58, 3) := by decide +kernel
theorem d_X9_isWord_54 : decode (mC M_X9_isWord) 54 = .ok (.if_icmp .eq 5, 3) := by decide +kernel
theorem d_X9_isWord_57 : decode (mC M_X9_isWord) 57 = .ok (.iconst 0, 1) := by decide +kernel
theorem d_X9_isWord_58 : decode (mC M_X9_isWord) 58 = .ok (.ireturn, 1) := by decide +kernel
theorem d_X9_isWord_59 : decode (mC M_X9_isWord) 59 = .ok (.iinc 2 1, 3) := by decide +kernel
theorem d_X9_isWord_62 : decode (mC M_X9_isWord) 62 = .ok (.goto (-34), 3) := by decide +kernel
theorem d_X9_isWord_65 : decode (mC M_X9_isWord) 65 = .ok (.iconst 1, 1) := by decide +kernel
theorem d_X9_isWord_66 : decode (mC M_X9_isWord) 66 = .ok (.ireturn, 1) := by decide +kernel
theorem d_X9_kindOf_0 : decode (mC M_X9_kindOf) 0 = .ok (.iload_n 0, 1) := by decide +kernel
theorem d_X9_kindOf_1 : decode (mC M_X9_kindOf) 1 = .ok (.iconst (-1), 1) := by decide +kernel
theorem d_X9_kindOf_2 : decode (mC M_X9_kindOf) 2 = .ok (.if_icmp .ne 5, 3) := by decide +kernel
theorem d_X9_kindOf_5 : decode (mC M_X9_kindOf) 5 = .ok (.iconst 0, 1) := by decide +kernel
theorem d_X9_kindOf_6 : decode (mC M_X9_kindOf) 6 = .ok (.ireturn, 1) := by decide +kernel
theorem d_X9_kindOf_7 : decode (mC M_X9_kindOf) 7 = .ok (.iload_n 0, 1) := by decide +kernel
theorem d_X9_kindOf_8 : decode (mC M_X9_kindOf) 8 = .ok (.bipush 32, 2) := by decide +kernel
theorem d_X9_kindOf_10 : decode (mC M_X9_kindOf) 10 = .ok (.if_icmp .eq 9, 3) := by decide +kernel
theorem d_X9_kindOf_13 : decode (mC M_X9_kindOf) 13 = .ok (.iload_n 0, 1) := by decide +kernel
theorem d_X9_kindOf_14 : decode (mC M_X9_kindOf) 14 = .ok (.bipush 10, 2) := by decide +kernel
theorem d_X9_kindOf_16 : decode (mC M_X9_kindOf) 16 = .ok (.if_icmp .ne 5, 3) := by decide +kernel
theorem d_X9_kindOf_19 : decode (mC M_X9_kindOf) 19 = .ok (.iconst 1, 1) := by decide +kernel
theorem d_X9_kindOf_20 : decode (mC M_X9_kindOf) 20 = .ok (.ireturn, 1) := by decide +kernel
theorem d_X9_kindOf_21 : decode (mC M_X9_kindOf) 21 = .ok (.iload_n 0, 1) := by decide +kernel
theorem d_X9_kindOf_22 : decode (mC M_X9_kindOf) 22 = .ok (.bipush 97, 2) := by decide +kernel
theorem d_X9_kindOf_24 : decode (mC M_X9_kindOf) 24 = .ok (.if_icmp .lt 11, 3) := by decide +kernel
theorem d_X9_kindOf_27 : decode (mC M_X9_kindOf) 27 = .ok (.iload_n 0, 1) := by decide +kernel
theorem d_X9_kindOf_28 : decode (mC M_X9_kindOf) 28 = .ok (.bipush 122, 2) := by decide +kernel
theorem d_X9_kindOf_30 : decode (mC M_X9_kindOf) 30 = .ok (.if_icmp .gt 5, 3) := by decide +kernel
theorem d_X9_kindOf_33 : decode (mC M_X9_kindOf) 33 = .ok (.iconst 2, 1) := by decide +kernel
theorem d_X9_kindOf_34 : decode (mC M_X9_kindOf) 34 = .ok (.ireturn, 1) := by decide +kernel
theorem d_X9_kindOf_35 : decode (mC M_X9_kindOf) 35 = .ok (.iload_n 0, 1) := by decide +kernel
theorem d_X9_kindOf_36 : decode (mC M_X9_kindOf) 36 = .ok (.bipush 48, 2) := by decide +kernel
theorem d_X9_kindOf_38 : decode (mC M_X9_kindOf) 38 = .ok (.if_icmp .lt 13, 3) := by decide +kernel
theorem d_X9_kindOf_41 : decode (mC M_X9_kindOf) 41 = .ok (.iload_n 0, 1) := by decide +kernel
theorem d_X9_kindOf_42 : decode (mC M_X9_kindOf) 42 = .ok (.bipush 57, 2) := by decide +kernel
theorem d_X9_kindOf_44 : decode (mC M_X9_kindOf) 44 = .ok (.if_icmp .gt 7, 3) := by decide +kernel
theorem d_X9_kindOf_47 : decode (mC M_X9_kindOf) 47 = .ok (.iconst 3, 1) := by decide +kernel
theorem d_X9_kindOf_48 : decode (mC M_X9_kindOf) 48 = .ok (.goto 4, 3) := by decide +kernel
theorem d_X9_kindOf_51 : decode (mC M_X9_kindOf) 51 = .ok (.iconst 4, 1) := by decide +kernel
theorem d_X9_kindOf_52 : decode (mC M_X9_kindOf) 52 = .ok (.ireturn, 1) := by decide +kernel
theorem d_X9_passNumber_0 : decode (mC M_X9_passNumber) 0 = .ok (.aload_n 0, 1) := by decide +kernel
theorem d_X9_passNumber_1 : decode (mC M_X9_passNumber) 1 = .ok (.getfield 46, 3) := by decide +kernel
theorem d_X9_passNumber_4 : decode (mC M_X9_passNumber) 4 = .ok (.iconst 3, 1) := by decide +kernel
theorem d_X9_passNumber_5 : decode (mC M_X9_passNumber) 5 = .ok (.if_icmp .ne 16, 3) := by decide +kernel
theorem d_X9_passNumber_8 : decode (mC M_X9_passNumber) 8 = .ok (.aload_n 0, 1) := by decide +kernel
theorem d_X9_passNumber_9 : decode (mC M_X9_passNumber) 9 = .ok (.getfield 27, 3) := by decide +kernel
theorem d_X9_passNumber_12 : decode (mC M_X9_passNumber) 12 = .ok (.aload_n 0, 1) := by decide +kernel
theorem d_X9_passNumber_13 : decode (mC M_X9_passNumber) 13 = .ok (.getfield 33, 3) := by decide +kernel
theorem d_X9_passNumber_16 : decode (mC M_X9_passNumber) 16 = .ok (.isub, 1) := by decide +kernel
theorem d_X9_passNumber_17 : decode (mC M_X9_passNumber) 17 = .ok (.iconst 5, 1) := by decide +kernel
theorem d_X9_passNumber_18 : decode (mC M_X9_passNumber) 18 = .ok (.if_icmp .le 11, 3) := by decide +kernel
theorem d_X9_passNumber_21 : decode (mC M_X9_passNumber) 21 = .ok (.aload_n 0, 1) := by decide +kernel
theorem d_X9_passNumber_22 : decode (mC M_X9_passNumber) 22 = .ok (.iconst 1, 1) := by decide +kernel
theorem d_X9_passNumber_23 : decode (mC M_X9_passNumber) 23 = .ok (.invokevirtual 66, 3) := by decide +kernel
theorem d_X9_passNumber_26 : decode (mC M_X9_passNumber) 26 = .ok (.pop, 1) := by decide +kernel
theorem d_X9_passNumber_27 : decode (mC M_X9_passNumber) 27 = .ok (.iconst (-1), 1) := by decide +kernel
theorem d_X9_passNumber_28 : decode (mC M_X9_passNumber) 28 = .ok (.ireturn, 1) := by decide +kernel
theorem d_X9_passNumber_29 : decode (mC M_X9_passNumber) 29 = .ok (.aload_n 0, 1) := by decide +kernel
theorem d_X9_passNumber_30 : decode (mC M_X9_passNumber) 30 = .ok (.getfield 49, 3) := by decide +kernel
theorem d_X9_passNumber_33 : decode (mC M_X9_passNumber) 33 = .ok (.iload_n 1, 1) := by decide +kernel
theorem d_X9_passNumber_34 : decode (mC M_X9_passNumber) 34 = .ok (.iload_n 2, 1) := by decide +kernel
theorem d_X9_passNumber_35 : decode (mC M_X9_passNumber) 35 = .ok (.invokestatic 74, 3) := by decide +kernel
theorem d_X9_passNumber_38 : decode (mC M_X9_passNumber) 38 = .ok (.ifCond .ne 11, 3) := by decide +kernel
theorem d_X9_passNumber_41 : decode (mC M_X9_passNumber) 41 = .ok (.aload_n 0, 1) := by decide +kernel
theorem d_X9_passNumber_42 : decode (mC M_X9_passNumber) 42 = .ok (.iconst 2, 1) := by decide +kernel
theorem d_X9_passNumber_43 : decode (mC M_X9_passNumber) 43 = .ok (.invokevirtual 66, 3) := by decide +kernel
theorem d_X9_passNumber_46 : decode (mC M_X9_passNumber) 46 = .ok (.pop, 1) := by decide +kernel
theorem d_X9_passNumber_47 : decode (mC M_X9_passNumber) 47 = .ok (.iconst (-1), 1) := by decide +kernel
theorem d_X9_passNumber_48 : decode (mC M_X9_passNumber) 48 = .ok (.ireturn, 1) := by decide +kernel
theorem d_X9_passNumber_49 : decode (mC M_X9_passNumber) 49 = .ok (.aload_n 0, 1) := by decide +kernel
theorem d_X9_passNumber_50 : decode (mC M_X9_passNumber) 50 = .ok (.getfield 49, 3) := by decide +kernel
theorem d_X9_passNumber_53 : decode (mC M_X9_passNumber) 53 = .ok (.istore_n 3, 1) := by decide +kernel
theorem d_X9_passNumber_54 : decode (mC M_X9_passNumber) 54 = .ok (.aload_n 0, 1) := by decide +kernel
theorem d_X9_passNumber_55 : decode (mC M_X9_passNumber) 55 = .ok (.invokevirtual 30, 3) := by decide +kernel
theorem d_X9_passNumber_58 : decode (mC M_X9_passNumber) 58 = .ok (.iload_n 3, 1) := by decide +kernel
theorem d_X9_passNumber_59 : decode (mC M_X9_passNumber) 59 = .ok (.ireturn, 1) := by decide +kernel
theorem d_X9_passNumberAfter_0 : decode (mC M_X9_passNumberAfter) 0 = .ok (.aload_n 0, 1) := by decide +kernel
theorem d_X9_passNumberAfter_1 : decode (mC M_X9_passNumberAfter) 1 = .ok (.aload_n 1, 1) := by decide +kernel
theorem d_X9_passNumberAfter_2 : decode (mC M_X9_passNumberAfter) 2 = .ok (.invokevirtual 78, 3) := by decide +kernel
theorem d_X9_passNumberAfter_5 : decode (mC M_X9_passNumberAfter) 5 = .ok (.ifCond .eq 12, 3) := by decide +kernel
theorem d_X9_passNumberAfter_8 : decode (mC M_X9_passNumberAfter) 8 = .ok (.aload_n 0, 1) := by decide +kernel
theorem d_X9_passNumberAfter_9 : decode (mC M_X9_passNumberAfter) 9 = .ok (.iload_n 2, 1) := by decide +kernel
theorem d_X9_passNumberAfter_10 : decode (mC M_X9_passNumberAfter) 10 = .ok (.iload_n 3, 1) := by decide +kernel
theorem d_X9_passNumberAfter_11 : decode (mC M_X9_passNumberAfter) 11 = .ok (.invokevirtual 81, 3) := by decide +kernel
theorem d_X9_passNumberAfter_14 : decode (mC M_X9_passNumberAfter) 14 = .ok (.goto 4, 3) := by decide +kernel
theorem d_X9_passNumberAfter_17 : decode (mC M_X9_passNumberAfter) 17 = .ok (.iconst (-1), 1) := by decide +kernel
theorem d_X9_passNumberAfter_18 : decode (mC M_X9_passNumberAfter) 18 = .ok (.ireturn, 1) := by decide +kernel
theorem d_X9_passSign_0 : decode (mC M_X9_passSign) 0 = .ok (.aload_n 0, 1) := by decide +kernel
theorem d_X9_passSign_1 : decode (mC M_X9_passSign) 1 = .ok (.iload_n 1, 1) := by decide +kernel
theorem d_X9_passSign_2 : decode (mC M_X9_passSign) 2 = .ok (.invokevirtual 70, 3) := by decide +kernel
theorem d_X9_passSign_5 : decode (mC M_X9_passSign) 5 = .ok (.ifCond .ne 9, 3) := by decide +kernel
theorem d_X9_passSign_8 : decode (mC M_X9_passSign) 8 = .ok (.aload_n 0, 1) := by decide +kernel
theorem d_X9_passSign_9 : decode (mC M_X9_passSign) 9 = .ok (.iconst 1, 1) := by decide +kernel
theorem d_X9_passSign_10 : decode (mC M_X9_passSign) 10 = .ok (.invokevirtual 66, 3) := by decide +kernel
theorem d_X9_passSign_13 : decode (mC M_X9_passSign) 13 = .ok (.ireturn, 1) := by decide +kernel
theorem d_X9_passSign_14 : decode (mC M_X9_passSign) 14 = .ok (.aload_n 0, 1) := by decide +kernel
theorem d_X9_passSign_15 : decode (mC M_X9_passSign) 15 = .ok (.invokevirtual 30, 3) := by decide +kernel
theorem d_X9_passSign_18 : decode (mC M_X9_passSign) 18 = .ok (.iconst 1, 1) := by decide +kernel
theorem d_X9_passSign_19 : decode (mC M_X9_passSign) 19 = .ok (.ireturn, 1) := by decide +kernel
theorem d_X9_passWord_0 : decode (mC M_X9_passWord) 0 = .ok (.aload_n 0, 1) := by decide +kernel
theorem d_X9_passWord_1 : decode (mC M_X9_passWord) 1 = .ok (.aload_n 1, 1) := by decide +kernel
theorem d_X9_passWord_2 : decode (mC M_X9_passWord) 2 = .ok (.invokevirtual 62, 3) := by decide +kernel
theorem d_X9_passWord_5 : decode (mC M_X9_passWord) 5 = .ok (.ifCond .ne 9, 3) := by decide +kernel
theorem d_X9_passWord_8 : decode (mC M_X9_passWord) 8 = .ok (.aload_n 0, 1) := by decide +kernel
theorem d_X9_passWord_9 : decode (mC M_X9_passWord) 9 = .ok (.iconst 1, 1) := by decide +kernel
theorem d_X9_passWord_10 : decode (mC M_X9_passWord) 10 = .ok (.invokevirtual 66, 3) := by decide +kernel
theorem d_X9_passWord_13 : decode (mC M_X9_passWord) 13 = .ok (.ireturn, 1) := by decide +kernel
theorem d_X9_passWord_14 : decode (mC M_X9_passWord) 14 = .ok (.aload_n 0, 1) := by decide +kernel
theorem d_X9_passWord_15 : decode (mC M_X9_passWord) 15 = .ok (.invokevirtual 30, 3) := by decide +kernel
theorem d_X9_passWord_18 : decode (mC M_X9_passWord) 18 = .ok (.iconst 1, 1) := by decide +kernel
theorem d_X9_passWord_19 : decode (mC M_X9_passWord) 19 = .ok (.ireturn, 1) := by decide +kernel

theorem dX7_init_22 : decode cX7_init 22 = .ok (.return_, 1) := by decide +kernel
theorem dX7_see_0 : decode cX7_see 0 = .ok (.aload_n 0, 1) := by decide +kernel
theorem dX7_see_1 : decode cX7_see 1 = .ok (.iconst 1, 1) := by decide +kernel
theorem dX7_see_2 : decode cX7_see 2 = .ok (.putfield 23, 3) := by decide +kernel
theorem dX7_see_5 : decode cX7_see 5 = .ok (.aload_n 0, 1) := by decide +kernel
theorem dX7_see_6 : decode cX7_see 6 = .ok (.iload_n 1, 1) := by decide +kernel
theorem dX7_see_7 : decode cX7_see 7 = .ok (.putfield 27, 3) := by decide +kernel
theorem dX7_see_10 : decode cX7_see 10 = .ok (.aload_n 0, 1) := by decide +kernel
theorem dX7_see_11 : decode cX7_see 11 = .ok (.iload_n 2, 1) := by decide +kernel
theorem dX7_see_12 : decode cX7_see 12 = .ok (.putfield 31, 3) := by decide +kernel
theorem dX7_see_15 : decode cX7_see 15 = .ok (.aload_n 0, 1) := by decide +kernel
theorem dX7_see_16 : decode cX7_see 16 = .ok (.iload_n 3, 1) := by decide +kernel
theorem dX7_see_17 : decode cX7_see 17 = .ok (.putfield 34, 3) := by decide +kernel
theorem dX7_see_20 : decode cX7_see 20 = .ok (.return_, 1) := by decide +kernel
theorem dX7_spread_0 : decode cX7_spread 0 = .ok (.lconst 0, 1) := by decide +kernel
theorem dX7_spread_1 : decode cX7_spread 1 = .ok (.lstore_n 1, 1) := by decide +kernel
theorem dX7_spread_2 : decode cX7_spread 2 = .ok (.iconst 0, 1) := by decide +kernel
theorem dX7_spread_3 : decode cX7_spread 3 = .ok (.istore_n 3, 1) := by decide +kernel
theorem dX7_spread_4 : decode cX7_spread 4 = .ok (.iload_n 3, 1) := by decide +kernel
theorem dX7_spread_5 : decode cX7_spread 5 = .ok (.bipush 60, 2) := by decide +kernel
theorem dX7_spread_7 : decode cX7_spread 7 = .ok (.if_icmp .ge 48, 3) := by decide +kernel
theorem dX7_spread_10 : decode cX7_spread 10 = .ok (.aload_n 0, 1) := by decide +kernel
theorem dX7_spread_11 : decode cX7_spread 11 = .ok (.getfield 23, 3) := by decide +kernel
theorem dX7_spread_14 : decode cX7_spread 14 = .ok (.ifCond .eq 21, 3) := by decide +kernel
theorem dX7_spread_17 : decode cX7_spread 17 = .ok (.iload_n 3, 1) := by decide +kernel
theorem dX7_spread_18 : decode cX7_spread 18 = .ok (.aload_n 0, 1) := by decide +kernel
theorem dX7_spread_19 : decode cX7_spread 19 = .ok (.getfield 31, 3) := by decide +kernel
theorem dX7_spread_22 : decode cX7_spread 22 = .ok (.if_icmp .ne 13, 3) := by decide +kernel
theorem dX7_spread_25 : decode cX7_spread 25 = .ok (.lconst 1, 1) := by decide +kernel
theorem dX7_spread_26 : decode cX7_spread 26 = .ok (.aload_n 0, 1) := by decide +kernel
theorem dX7_spread_27 : decode cX7_spread 27 = .ok (.getfield 27, 3) := by decide +kernel
theorem dX7_spread_30 : decode cX7_spread 30 = .ok (.lshl, 1) := by decide +kernel
theorem dX7_spread_31 : decode cX7_spread 31 = .ok (.lstore_n 1, 1) := by decide +kernel
theorem dX7_spread_32 : decode cX7_spread 32 = .ok (.goto 10, 3) := by decide +kernel
theorem dX7_spread_35 : decode cX7_spread 35 = .ok (.aload_n 0, 1) := by decide +kernel
theorem dX7_spread_36 : decode cX7_spread 36 = .ok (.lload_n 1, 1) := by decide +kernel
theorem dX7_spread_37 : decode cX7_spread 37 = .ok (.iload_n 3, 1) := by decide +kernel
theorem dX7_spread_38 : decode cX7_spread 38 = .ok (.invokevirtual 37, 3) := by decide +kernel
theorem dX7_spread_41 : decode cX7_spread 41 = .ok (.lstore_n 1, 1) := by decide +kernel
theorem dX7_spread_42 : decode cX7_spread 42 = .ok (.aload_n 0, 1) := by decide +kernel
theorem dX7_spread_43 : decode cX7_spread 43 = .ok (.getfield 9, 3) := by decide +kernel
theorem dX7_spread_46 : decode cX7_spread 46 = .ok (.iload_n 3, 1) := by decide +kernel
theorem dX7_spread_47 : decode cX7_spread 47 = .ok (.lload_n 1, 1) := by decide +kernel
theorem dX7_spread_48 : decode cX7_spread 48 = .ok (.lastore, 1) := by decide +kernel
theorem dX7_spread_49 : decode cX7_spread 49 = .ok (.iinc 3 1, 3) := by decide +kernel
theorem dX7_spread_52 : decode cX7_spread 52 = .ok (.goto (-48), 3) := by decide +kernel
theorem dX7_spread_55 : decode cX7_spread 55 = .ok (.return_, 1) := by decide +kernel
theorem dX7_spreadInto_0 : decode cX7_spreadInto 0 = .ok (.lload_n 1, 1) := by decide +kernel
theorem dX7_spreadInto_1 : decode cX7_spreadInto 1 = .ok (.lstore 4, 2) := by decide +kernel
theorem dX7_spreadInto_3 : decode cX7_spreadInto 3 = .ok (.iconst 0, 1) := by decide +kernel
theorem dX7_spreadInto_4 : decode cX7_spreadInto 4 = .ok (.istore 6, 2) := by decide +kernel
theorem dX7_spreadInto_6 : decode cX7_spreadInto 6 = .ok (.iload 6, 2) := by decide +kernel
theorem dX7_spreadInto_8 : decode cX7_spreadInto 8 = .ok (.aload_n 0, 1) := by decide +kernel
theorem dX7_spreadInto_9 : decode cX7_spreadInto 9 = .ok (.getfield 34, 3) := by decide +kernel
theorem dX7_spreadInto_12 : decode cX7_spreadInto 12 = .ok (.if_icmp .ge 37, 3) := by decide +kernel
theorem dX7_spreadInto_15 : decode cX7_spreadInto 15 = .ok (.lload 4, 2) := by decide +kernel
theorem dX7_spreadInto_17 : decode cX7_spreadInto 17 = .ok (.aload_n 0, 1) := by decide +kernel
theorem dX7_spreadInto_18 : decode cX7_spreadInto 18 = .ok (.getfield 15, 3) := by decide +kernel
theorem dX7_spreadInto_21 : decode cX7_spreadInto 21 = .ok (.lload 4, 2) := by decide +kernel
theorem dX7_spreadInto_23 : decode cX7_spreadInto 23 = .ok (.invokevirtual 41, 3) := by decide +kernel
theorem dX7_spreadInto_26 : decode cX7_spreadInto 26 = .ok (.aload_n 0, 1) := by decide +kernel
theorem dX7_spreadInto_27 : decode cX7_spreadInto 27 = .ok (.getfield 15, 3) := by decide +kernel
theorem dX7_spreadInto_30 : decode cX7_spreadInto 30 = .ok (.getfield 47, 3) := by decide +kernel
theorem dX7_spreadInto_33 : decode cX7_spreadInto 33 = .ok (.iload_n 3, 1) := by decide +kernel
theorem dX7_spreadInto_34 : decode cX7_spreadInto 34 = .ok (.laload, 1) := by decide +kernel
theorem dX7_spreadInto_35 : decode cX7_spreadInto 35 = .ok (.ldc2_w 50, 3) := by decide +kernel
theorem dX7_spreadInto_38 : decode cX7_spreadInto 38 = .ok (.lxor, 1) := by decide +kernel
theorem dX7_spreadInto_39 : decode cX7_spreadInto 39 = .ok (.land, 1) := by decide +kernel
theorem dX7_spreadInto_40 : decode cX7_spreadInto 40 = .ok (.lor, 1) := by decide +kernel
theorem dX7_spreadInto_41 : decode cX7_spreadInto 41 = .ok (.lstore 4, 2) := by decide +kernel
theorem dX7_spreadInto_43 : decode cX7_spreadInto 43 = .ok (.iinc 6 1, 3) := by decide +kernel
theorem dX7_spreadInto_46 : decode cX7_spreadInto 46 = .ok (.goto (-40), 3) := by decide +kernel
theorem dX7_spreadInto_49 : decode cX7_spreadInto 49 = .ok (.lload 4, 2) := by decide +kernel
theorem dX7_spreadInto_51 : decode cX7_spreadInto 51 = .ok (.lreturn, 1) := by decide +kernel
theorem dX7_firstTouch_0 : decode cX7_firstTouch 0 = .ok (.aload_n 1, 1) := by decide +kernel
theorem dX7_firstTouch_1 : decode cX7_firstTouch 1 = .ok (.getfield 52, 3) := by decide +kernel
theorem dX7_firstTouch_4 : decode cX7_firstTouch 4 = .ok (.iconst 0, 1) := by decide +kernel
theorem dX7_firstTouch_5 : decode cX7_firstTouch 5 = .ok (.invokestatic 57, 3) := by decide +kernel
theorem dX7_firstTouch_8 : decode cX7_firstTouch 8 = .ok (.istore_n 2, 1) := by decide +kernel
theorem dX7_firstTouch_9 : decode cX7_firstTouch 9 = .ok (.iload_n 2, 1) := by decide +kernel
theorem dX7_firstTouch_10 : decode cX7_firstTouch 10 = .ok (.aload_n 1, 1) := by decide +kernel
theorem dX7_firstTouch_11 : decode cX7_firstTouch 11 = .ok (.getfield 63, 3) := by decide +kernel
theorem dX7_firstTouch_14 : decode cX7_firstTouch 14 = .ok (.if_icmp .gt 34, 3) := by decide +kernel
theorem dX7_firstTouch_17 : decode cX7_firstTouch 17 = .ok (.iload_n 2, 1) := by decide +kernel
theorem dX7_firstTouch_18 : decode cX7_firstTouch 18 = .ok (.bipush 60, 2) := by decide +kernel
theorem dX7_firstTouch_20 : decode cX7_firstTouch 20 = .ok (.if_icmp .ge 28, 3) := by decide +kernel
theorem dX7_firstTouch_23 : decode cX7_firstTouch 23 = .ok (.aload_n 0, 1) := by decide +kernel
theorem dX7_firstTouch_24 : decode cX7_firstTouch 24 = .ok (.getfield 9, 3) := by decide +kernel
theorem dX7_firstTouch_27 : decode cX7_firstTouch 27 = .ok (.iload_n 2, 1) := by decide +kernel
theorem dX7_firstTouch_28 : decode cX7_firstTouch 28 = .ok (.laload, 1) := by decide +kernel
theorem dX7_firstTouch_29 : decode cX7_firstTouch 29 = .ok (.aload_n 1, 1) := by decide +kernel
theorem dX7_firstTouch_30 : decode cX7_firstTouch 30 = .ok (.iload_n 2, 1) := by decide +kernel
theorem dX7_firstTouch_31 : decode cX7_firstTouch 31 = .ok (.invokevirtual 66, 3) := by decide +kernel
theorem dX7_firstTouch_34 : decode cX7_firstTouch 34 = .ok (.invokestatic 70, 3) := by decide +kernel
theorem dX7_firstTouch_37 : decode cX7_firstTouch 37 = .ok (.ifCond .eq 5, 3) := by decide +kernel
theorem dX7_firstTouch_40 : decode cX7_firstTouch 40 = .ok (.iload_n 2, 1) := by decide +kernel
theorem dX7_firstTouch_41 : decode cX7_firstTouch 41 = .ok (.ireturn, 1) := by decide +kernel
theorem dX7_firstTouch_42 : decode cX7_firstTouch 42 = .ok (.iinc 2 1, 3) := by decide +kernel
theorem dX7_firstTouch_45 : decode cX7_firstTouch 45 = .ok (.goto (-36), 3) := by decide +kernel
theorem dX7_firstTouch_48 : decode cX7_firstTouch 48 = .ok (.ldc 74, 2) := by decide +kernel
theorem dX7_firstTouch_50 : decode cX7_firstTouch 50 = .ok (.ireturn, 1) := by decide +kernel
theorem dX7_touches_0 : decode cX7_touches 0 = .ok (.aload_n 0, 1) := by decide +kernel
theorem dX7_touches_1 : decode cX7_touches 1 = .ok (.getfield 19, 3) := by decide +kernel
theorem dX7_touches_4 : decode cX7_touches 4 = .ok (.getfield 75, 3) := by decide +kernel
theorem dX7_touches_7 : decode cX7_touches 7 = .ok (.iload_n 1, 1) := by decide +kernel
theorem dX7_touches_8 : decode cX7_touches 8 = .ok (.aaload, 1) := by decide +kernel
theorem dX7_touches_9 : decode cX7_touches 9 = .ok (.getfield 81, 3) := by decide +kernel
theorem dX7_touches_12 : decode cX7_touches 12 = .ok (.ifCond .eq 28, 3) := by decide +kernel
theorem dX7_touches_15 : decode cX7_touches 15 = .ok (.aload_n 0, 1) := by decide +kernel
theorem dX7_touches_16 : decode cX7_touches 16 = .ok (.aload_n 0, 1) := by decide +kernel
theorem dX7_touches_17 : decode cX7_touches 17 = .ok (.getfield 19, 3) := by decide +kernel
theorem dX7_touches_20 : decode cX7_touches 20 = .ok (.getfield 75, 3) := by decide +kernel
theorem dX7_touches_23 : decode cX7_touches 23 = .ok (.iload_n 1, 1) := by decide +kernel
theorem dX7_touches_24 : decode cX7_touches 24 = .ok (.aaload, 1) := by decide +kernel
theorem dX7_touches_25 : decode cX7_touches 25 = .ok (.getfield 86, 3) := by decide +kernel
theorem dX7_touches_28 : decode cX7_touches 28 = .ok (.invokevirtual 90, 3) := by decide +kernel
theorem dX7_touches_31 : decode cX7_touches 31 = .ok (.ldc 74, 2) := by decide +kernel
theorem dX7_touches_33 : decode cX7_touches 33 = .ok (.if_icmp .eq 7, 3) := by decide +kernel
theorem dX7_touches_36 : decode cX7_touches 36 = .ok (.iconst 1, 1) := by decide +kernel
theorem dX7_touches_37 : decode cX7_touches 37 = .ok (.goto 4, 3) := by decide +kernel
theorem dX7_touches_40 : decode cX7_touches 40 = .ok (.iconst 0, 1) := by decide +kernel
theorem dX7_touches_41 : decode cX7_touches 41 = .ok (.ireturn, 1) := by decide +kernel
theorem dX7_countTouched_0 : decode cX7_countTouched 0 = .ok (.iconst 0, 1) := by decide +kernel
theorem dX7_countTouched_1 : decode cX7_countTouched 1 = .ok (.istore_n 1, 1) := by decide +kernel
theorem dX7_countTouched_2 : decode cX7_countTouched 2 = .ok (.iconst 0, 1) := by decide +kernel
theorem dX7_countTouched_3 : decode cX7_countTouched 3 = .ok (.istore_n 2, 1) := by decide +kernel
theorem dX7_countTouched_4 : decode cX7_countTouched 4 = .ok (.iload_n 2, 1) := by decide +kernel
theorem dX7_countTouched_5 : decode cX7_countTouched 5 = .ok (.aload_n 0, 1) := by decide +kernel
theorem dX7_countTouched_6 : decode cX7_countTouched 6 = .ok (.getfield 19, 3) := by decide +kernel
theorem dX7_countTouched_9 : decode cX7_countTouched 9 = .ok (.getfield 94, 3) := by decide +kernel
theorem dX7_countTouched_12 : decode cX7_countTouched 12 = .ok (.if_icmp .ge 20, 3) := by decide +kernel
theorem dX7_countTouched_15 : decode cX7_countTouched 15 = .ok (.aload_n 0, 1) := by decide +kernel
theorem dX7_countTouched_16 : decode cX7_countTouched 16 = .ok (.iload_n 2, 1) := by decide +kernel
theorem dX7_countTouched_17 : decode cX7_countTouched 17 = .ok (.invokevirtual 97, 3) := by decide +kernel
theorem dX7_countTouched_20 : decode cX7_countTouched 20 = .ok (.ifCond .eq 6, 3) := by decide +kernel
theorem dX7_countTouched_23 : decode cX7_countTouched 23 = .ok (.iinc 1 1, 3) := by decide +kernel
theorem dX7_countTouched_26 : decode cX7_countTouched 26 = .ok (.iinc 2 1, 3) := by decide +kernel
theorem dX7_countTouched_29 : decode cX7_countTouched 29 = .ok (.goto (-25), 3) := by decide +kernel
theorem dX7_countTouched_32 : decode cX7_countTouched 32 = .ok (.iload_n 1, 1) := by decide +kernel
theorem dX7_countTouched_33 : decode cX7_countTouched 33 = .ok (.ireturn, 1) := by decide +kernel
theorem dX7_touched_0 : decode cX7_touched 0 = .ok (.iconst 0, 1) := by decide +kernel
theorem dX7_touched_1 : decode cX7_touched 1 = .ok (.istore_n 2, 1) := by decide +kernel
theorem dX7_touched_2 : decode cX7_touched 2 = .ok (.iconst 0, 1) := by decide +kernel
theorem dX7_touched_3 : decode cX7_touched 3 = .ok (.istore_n 3, 1) := by decide +kernel
theorem dX7_touched_4 : decode cX7_touched 4 = .ok (.iload_n 3, 1) := by decide +kernel
theorem dX7_touched_5 : decode cX7_touched 5 = .ok (.aload_n 0, 1) := by decide +kernel
theorem dX7_touched_6 : decode cX7_touched 6 = .ok (.getfield 19, 3) := by decide +kernel
theorem dX7_touched_9 : decode cX7_touched 9 = .ok (.getfield 94, 3) := by decide +kernel
theorem dX7_touched_12 : decode cX7_touched 12 = .ok (.if_icmp .ge 27, 3) := by decide +kernel
theorem dX7_touched_15 : decode cX7_touched 15 = .ok (.aload_n 0, 1) := by decide +kernel
theorem dX7_touched_16 : decode cX7_touched 16 = .ok (.iload_n 3, 1) := by decide +kernel
theorem dX7_touched_17 : decode cX7_touched 17 = .ok (.invokevirtual 97, 3) := by decide +kernel
theorem dX7_touched_20 : decode cX7_touched 20 = .ok (.ifCond .eq 13, 3) := by decide +kernel
theorem dX7_touched_23 : decode cX7_touched 23 = .ok (.iload_n 2, 1) := by decide +kernel
theorem dX7_touched_24 : decode cX7_touched 24 = .ok (.iload_n 1, 1) := by decide +kernel
theorem dX7_touched_25 : decode cX7_touched 25 = .ok (.if_icmp .ne 5, 3) := by decide +kernel
theorem dX7_touched_28 : decode cX7_touched 28 = .ok (.iload_n 3, 1) := by decide +kernel
theorem dX7_touched_29 : decode cX7_touched 29 = .ok (.ireturn, 1) := by decide +kernel
theorem dX7_touched_30 : decode cX7_touched 30 = .ok (.iinc 2 1, 3) := by decide +kernel
theorem dX7_touched_33 : decode cX7_touched 33 = .ok (.iinc 3 1, 3) := by decide +kernel
theorem dX7_touched_36 : decode cX7_touched 36 = .ok (.goto (-32), 3) := by decide +kernel
theorem dX7_touched_39 : decode cX7_touched 39 = .ok (.ldc 74, 2) := by decide +kernel
theorem dX7_touched_41 : decode cX7_touched 41 = .ok (.ireturn, 1) := by decide +kernel
theorem dX8_init_0 : decode cX8_init 0 = .ok (.aload_n 0, 1) := by decide +kernel
theorem dX8_init_1 : decode cX8_init 1 = .ok (.invokespecial 3, 3) := by decide +kernel
theorem dX8_init_4 : decode cX8_init 4 = .ok (.aload_n 0, 1) := by decide +kernel
theorem dX8_init_5 : decode cX8_init 5 = .ok (.iconst 1, 1) := by decide +kernel
theorem dX8_init_6 : decode cX8_init 6 = .ok (.putfield 9, 3) := by decide +kernel
theorem dX8_init_9 : decode cX8_init 9 = .ok (.aload_n 0, 1) := by decide +kernel
theorem dX8_init_10 : decode cX8_init 10 = .ok (.iconst 0, 1) := by decide +kernel
theorem dX8_init_11 : decode cX8_init 11 = .ok (.putfield 15, 3) := by decide +kernel
theorem dX8_init_14 : decode cX8_init 14 = .ok (.aload_n 0, 1) := by decide +kernel
theorem dX8_init_15 : decode cX8_init 15 = .ok (.bipush 36, 2) := by decide +kernel
theorem dX8_init_17 : decode cX8_init 17 = .ok (.newarray .int, 2) := by decide +kernel
theorem dX8_init_19 : decode cX8_init 19 = .ok (.putfield 18, 3) := by decide +kernel
theorem dX8_init_22 : decode cX8_init 22 = .ok (.aload_n 0, 1) := by decide +kernel
theorem dX8_init_23 : decode cX8_init 23 = .ok (.bipush 36, 2) := by decide +kernel
theorem dX8_init_25 : decode cX8_init 25 = .ok (.newarray .int, 2) := by decide +kernel
theorem dX8_init_27 : decode cX8_init 27 = .ok (.putfield 22, 3) := by decide +kernel
theorem dX8_init_30 : decode cX8_init 30 = .ok (.aload_n 0, 1) := by decide +kernel
theorem dX8_init_31 : decode cX8_init 31 = .ok (.bipush 36, 2) := by decide +kernel
theorem dX8_init_33 : decode cX8_init 33 = .ok (.newarray .long, 2) := by decide +kernel
theorem dX8_init_35 : decode cX8_init 35 = .ok (.putfield 25, 3) := by decide +kernel
theorem dX8_init_38 : decode cX8_init 38 = .ok (.aload_n 0, 1) := by decide +kernel
theorem dX8_init_39 : decode cX8_init 39 = .ok (.bipush 60, 2) := by decide +kernel
theorem dX8_init_41 : decode cX8_init 41 = .ok (.newarray .long, 2) := by decide +kernel
theorem dX8_init_43 : decode cX8_init 43 = .ok (.putfield 29, 3) := by decide +kernel
theorem dX8_init_46 : decode cX8_init 46 = .ok (.aload_n 0, 1) := by decide +kernel
theorem dX8_init_47 : decode cX8_init 47 = .ok (.bipush 60, 2) := by decide +kernel
theorem dX8_init_49 : decode cX8_init 49 = .ok (.newarray .long, 2) := by decide +kernel
theorem dX8_init_51 : decode cX8_init 51 = .ok (.putfield 32, 3) := by decide +kernel
theorem dX8_init_54 : decode cX8_init 54 = .ok (.aload_n 0, 1) := by decide +kernel
theorem dX8_init_55 : decode cX8_init 55 = .ok (.bipush 60, 2) := by decide +kernel
theorem dX8_init_57 : decode cX8_init 57 = .ok (.newarray .long, 2) := by decide +kernel
theorem dX8_init_59 : decode cX8_init 59 = .ok (.putfield 35, 3) := by decide +kernel
theorem dX8_init_62 : decode cX8_init 62 = .ok (.aload_n 0, 1) := by decide +kernel
theorem dX8_init_63 : decode cX8_init 63 = .ok (.iconst 4, 1) := by decide +kernel
theorem dX8_init_64 : decode cX8_init 64 = .ok (.iconst 4, 1) := by decide +kernel
theorem dX8_init_65 : decode cX8_init 65 = .ok (.invokevirtual 38, 3) := by decide +kernel
theorem dX8_init_68 : decode cX8_init 68 = .ok (.return_, 1) := by decide +kernel
theorem dX8_lay_0 : decode cX8_lay 0 = .ok (.aload_n 0, 1) := by decide +kernel
theorem dX8_lay_1 : decode cX8_lay 1 = .ok (.iload_n 1, 1) := by decide +kernel
theorem dX8_lay_2 : decode cX8_lay 2 = .ok (.putfield 42, 3) := by decide +kernel
theorem dX8_lay_5 : decode cX8_lay 5 = .ok (.aload_n 0, 1) := by decide +kernel
theorem dX8_lay_6 : decode cX8_lay 6 = .ok (.iload_n 1, 1) := by decide +kernel
theorem dX8_lay_7 : decode cX8_lay 7 = .ok (.iload_n 2, 1) := by decide +kernel
theorem dX8_lay_8 : decode cX8_lay 8 = .ok (.imul, 1) := by decide +kernel
theorem dX8_lay_9 : decode cX8_lay 9 = .ok (.bipush 36, 2) := by decide +kernel
theorem dX8_lay_11 : decode cX8_lay 11 = .ok (.invokestatic 45, 3) := by decide +kernel
theorem dX8_lay_14 : decode cX8_lay 14 = .ok (.putfield 51, 3) := by decide +kernel
theorem dX8_lay_17 : decode cX8_lay 17 = .ok (.aload_n 0, 1) := by decide +kernel
theorem dX8_lay_18 : decode cX8_lay 18 = .ok (.lconst 1, 1) := by decide +kernel
theorem dX8_lay_19 : decode cX8_lay 19 = .ok (.aload_n 0, 1) := by decide +kernel
theorem dX8_lay_20 : decode cX8_lay 20 = .ok (.getfield 51, 3) := by decide +kernel
theorem dX8_lay_23 : decode cX8_lay 23 = .ok (.lshl, 1) := by decide +kernel
theorem dX8_lay_24 : decode cX8_lay 24 = .ok (.lconst 1, 1) := by decide +kernel
theorem dX8_lay_25 : decode cX8_lay 25 = .ok (.lsub, 1) := by decide +kernel
theorem dX8_lay_26 : decode cX8_lay 26 = .ok (.putfield 54, 3) := by decide +kernel
theorem dX8_lay_29 : decode cX8_lay 29 = .ok (.aload_n 0, 1) := by decide +kernel
theorem dX8_lay_30 : decode cX8_lay 30 = .ok (.invokevirtual 58, 3) := by decide +kernel
theorem dX8_lay_33 : decode cX8_lay 33 = .ok (.aload_n 0, 1) := by decide +kernel
theorem dX8_lay_34 : decode cX8_lay 34 = .ok (.iconst 0, 1) := by decide +kernel
theorem dX8_lay_35 : decode cX8_lay 35 = .ok (.putfield 61, 3) := by decide +kernel
theorem dX8_lay_38 : decode cX8_lay 38 = .ok (.aload_n 0, 1) := by decide +kernel
theorem dX8_lay_39 : decode cX8_lay 39 = .ok (.iconst 0, 1) := by decide +kernel
theorem dX8_lay_40 : decode cX8_lay 40 = .ok (.putfield 64, 3) := by decide +kernel
theorem dX8_lay_43 : decode cX8_lay 43 = .ok (.iconst 0, 1) := by decide +kernel
theorem dX8_lay_44 : decode cX8_lay 44 = .ok (.istore_n 3, 1) := by decide +kernel
theorem dX8_lay_45 : decode cX8_lay 45 = .ok (.iload_n 3, 1) := by decide +kernel
theorem dX8_lay_46 : decode cX8_lay 46 = .ok (.bipush 60, 2) := by decide +kernel
theorem dX8_lay_48 : decode cX8_lay 48 = .ok (.if_icmp .ge 23, 3) := by decide +kernel
theorem dX8_lay_51 : decode cX8_lay 51 = .ok (.aload_n 0, 1) := by decide +kernel
theorem dX8_lay_52 : decode cX8_lay 52 = .ok (.getfield 29, 3) := by decide +kernel
theorem dX8_lay_55 : decode cX8_lay 55 = .ok (.iload_n 3, 1) := by decide +kernel
theorem dX8_lay_56 : decode cX8_lay 56 = .ok (.lconst 0, 1) := by decide +kernel
theorem dX8_lay_57 : decode cX8_lay 57 = .ok (.lastore, 1) := by decide +kernel
theorem dX8_lay_58 : decode cX8_lay 58 = .ok (.aload_n 0, 1) := by decide +kernel
theorem dX8_lay_59 : decode cX8_lay 59 = .ok (.getfield 32, 3) := by decide +kernel
theorem dX8_lay_62 : decode cX8_lay 62 = .ok (.iload_n 3, 1) := by decide +kernel
theorem dX8_lay_63 : decode cX8_lay 63 = .ok (.lconst 0, 1) := by decide +kernel
theorem dX8_lay_64 : decode cX8_lay 64 = .ok (.lastore, 1) := by decide +kernel
theorem dX8_lay_65 : decode cX8_lay 65 = .ok (.iinc 3 1, 3) := by decide +kernel
theorem dX8_lay_68 : decode cX8_lay 68 = .ok (.goto (-23), 3) := by decide +kernel
theorem dX8_lay_71 : decode cX8_lay 71 = .ok (.aload_n 0, 1) := by decide +kernel
theorem dX8_lay_72 : decode cX8_lay 72 = .ok (.invokevirtual 67, 3) := by decide +kernel
theorem dX8_lay_75 : decode cX8_lay 75 = .ok (.aload_n 0, 1) := by decide +kernel
theorem dX8_lay_76 : decode cX8_lay 76 = .ok (.invokevirtual 70, 3) := by decide +kernel
theorem dX8_lay_79 : decode cX8_lay 79 = .ok (.return_, 1) := by decide +kernel
theorem dX8_placeCells_0 : decode cX8_placeCells 0 = .ok (.aload_n 0, 1) := by decide +kernel
theorem dX8_placeCells_1 : decode cX8_placeCells 1 = .ok (.lconst 0, 1) := by decide +kernel
theorem dX8_placeCells_2 : decode cX8_placeCells 2 = .ok (.putfield 73, 3) := by decide +kernel
theorem dX8_placeCells_5 : decode cX8_placeCells 5 = .ok (.aload_n 0, 1) := by decide +kernel
theorem dX8_placeCells_6 : decode cX8_placeCells 6 = .ok (.lconst 0, 1) := by decide +kernel
theorem dX8_placeCells_7 : decode cX8_placeCells 7 = .ok (.putfield 76, 3) := by decide +kernel
theorem dX8_placeCells_10 : decode cX8_placeCells 10 = .ok (.iconst 0, 1) := by decide +kernel
theorem dX8_placeCells_11 : decode cX8_placeCells 11 = .ok (.istore_n 1, 1) := by decide +kernel
theorem dX8_placeCells_12 : decode cX8_placeCells 12 = .ok (.iconst 0, 1) := by decide +kernel
theorem dX8_placeCells_13 : decode cX8_placeCells 13 = .ok (.istore_n 2, 1) := by decide +kernel
theorem dX8_placeCells_14 : decode cX8_placeCells 14 = .ok (.iconst 0, 1) := by decide +kernel
theorem dX8_placeCells_15 : decode cX8_placeCells 15 = .ok (.istore_n 3, 1) := by decide +kernel
theorem dX8_placeCells_16 : decode cX8_placeCells 16 = .ok (.iload_n 3, 1) := by decide +kernel
theorem dX8_placeCells_17 : decode cX8_placeCells 17 = .ok (.aload_n 0, 1) := by decide +kernel
theorem dX8_placeCells_18 : decode cX8_placeCells 18 = .ok (.getfield 51, 3) := by decide +kernel
theorem dX8_placeCells_21 : decode cX8_placeCells 21 = .ok (.if_icmp .ge 67, 3) := by decide +kernel
theorem dX8_placeCells_24 : decode cX8_placeCells 24 = .ok (.aload_n 0, 1) := by decide +kernel
theorem dX8_placeCells_25 : decode cX8_placeCells 25 = .ok (.getfield 18, 3) := by decide +kernel
theorem dX8_placeCells_28 : decode cX8_placeCells 28 = .ok (.iload_n 3, 1) := by decide +kernel
theorem dX8_placeCells_29 : decode cX8_placeCells 29 = .ok (.iload_n 1, 1) := by decide +kernel
theorem dX8_placeCells_30 : decode cX8_placeCells 30 = .ok (.iastore, 1) := by decide +kernel
theorem dX8_placeCells_31 : decode cX8_placeCells 31 = .ok (.aload_n 0, 1) := by decide +kernel
theorem dX8_placeCells_32 : decode cX8_placeCells 32 = .ok (.getfield 22, 3) := by decide +kernel
theorem dX8_placeCells_35 : decode cX8_placeCells 35 = .ok (.iload_n 3, 1) := by decide +kernel
theorem dX8_placeCells_36 : decode cX8_placeCells 36 = .ok (.iload_n 2, 1) := by decide +kernel
theorem dX8_placeCells_37 : decode cX8_placeCells 37 = .ok (.iastore, 1) := by decide +kernel
theorem dX8_placeCells_38 : decode cX8_placeCells 38 = .ok (.iload_n 1, 1) := by decide +kernel
theorem dX8_placeCells_39 : decode cX8_placeCells 39 = .ok (.ifCond .ne 15, 3) := by decide +kernel
theorem dX8_placeCells_42 : decode cX8_placeCells 42 = .ok (.aload_n 0, 1) := by decide +kernel
theorem dX8_placeCells_43 : decode cX8_placeCells 43 = .ok (.dup, 1) := by decide +kernel
theorem dX8_placeCells_44 : decode cX8_placeCells 44 = .ok (.getfield 73, 3) := by decide +kernel
theorem dX8_placeCells_47 : decode cX8_placeCells 47 = .ok (.lconst 1, 1) := by decide +kernel
theorem dX8_placeCells_48 : decode cX8_placeCells 48 = .ok (.iload_n 3, 1) := by decide +kernel
theorem dX8_placeCells_49 : decode cX8_placeCells 49 = .ok (.lshl, 1) := by decide +kernel
theorem dX8_placeCells_50 : decode cX8_placeCells 50 = .ok (.lor, 1) := by decide +kernel
theorem dX8_placeCells_51 : decode cX8_placeCells 51 = .ok (.putfield 73, 3) := by decide +kernel
theorem dX8_placeCells_54 : decode cX8_placeCells 54 = .ok (.iinc 1 1, 3) := by decide +kernel
theorem dX8_placeCells_57 : decode cX8_placeCells 57 = .ok (.iload_n 1, 1) := by decide +kernel
theorem dX8_placeCells_58 : decode cX8_placeCells 58 = .ok (.aload_n 0, 1) := by decide +kernel
theorem dX8_placeCells_59 : decode cX8_placeCells 59 = .ok (.getfield 42, 3) := by decide +kernel
theorem dX8_placeCells_62 : decode cX8_placeCells 62 = .ok (.if_icmp .ne 20, 3) := by decide +kernel
theorem dX8_placeCells_65 : decode cX8_placeCells 65 = .ok (.aload_n 0, 1) := by decide +kernel
theorem dX8_placeCells_66 : decode cX8_placeCells 66 = .ok (.dup, 1) := by decide +kernel
theorem dX8_placeCells_67 : decode cX8_placeCells 67 = .ok (.getfield 76, 3) := by decide +kernel
theorem dX8_placeCells_70 : decode cX8_placeCells 70 = .ok (.lconst 1, 1) := by decide +kernel
theorem dX8_placeCells_71 : decode cX8_placeCells 71 = .ok (.iload_n 3, 1) := by decide +kernel
theorem dX8_placeCells_72 : decode cX8_placeCells 72 = .ok (.lshl, 1) := by decide +kernel
theorem dX8_placeCells_73 : decode cX8_placeCells 73 = .ok (.lor, 1) := by decide +kernel
theorem dX8_placeCells_74 : decode cX8_placeCells 74 = .ok (.putfield 76, 3) := by decide +kernel
theorem dX8_placeCells_77 : decode cX8_placeCells 77 = .ok (.iconst 0, 1) := by decide +kernel
theorem dX8_placeCells_78 : decode cX8_placeCells 78 = .ok (.istore_n 1, 1) := by decide +kernel
theorem dX8_placeCells_79 : decode cX8_placeCells 79 = .ok (.iinc 2 1, 3) := by decide +kernel
theorem dX8_placeCells_82 : decode cX8_placeCells 82 = .ok (.iinc 3 1, 3) := by decide +kernel
theorem dX8_placeCells_85 : decode cX8_placeCells 85 = .ok (.goto (-69), 3) := by decide +kernel
theorem dX8_placeCells_88 : decode cX8_placeCells 88 = .ok (.return_, 1) := by decide +kernel
theorem dX8_hasCell_0 : decode cX8_hasCell 0 = .ok (.iload_n 1, 1) := by decide +kernel
theorem dX8_hasCell_1 : decode cX8_hasCell 1 = .ok (.ifCond .lt 15, 3) := by decide +kernel
theorem dX8_hasCell_4 : decode cX8_hasCell 4 = .ok (.iload_n 1, 1) := by decide +kernel
theorem dX8_hasCell_5 : decode cX8_hasCell 5 = .ok (.aload_n 0, 1) := by decide +kernel
theorem dX8_hasCell_6 : decode cX8_hasCell 6 = .ok (.getfield 51, 3) := by decide +kernel
theorem dX8_hasCell_9 : decode cX8_hasCell 9 = .ok (.if_icmp .ge 7, 3) := by decide +kernel
theorem dX8_hasCell_12 : decode cX8_hasCell 12 = .ok (.iconst 1, 1) := by decide +kernel
theorem dX8_hasCell_13 : decode cX8_hasCell 13 = .ok (.goto 4, 3) := by decide +kernel
theorem dX8_hasCell_16 : decode cX8_hasCell 16 = .ok (.iconst 0, 1) := by decide +kernel
theorem dX8_hasCell_17 : decode cX8_hasCell 17 = .ok (.ireturn, 1) := by decide +kernel
theorem dX8_addShut_0 : decode cX8_addShut 0 = .ok (.aload_n 0, 1) := by decide +kernel
theorem dX8_addShut_1 : decode cX8_addShut 1 = .ok (.getfield 29, 3) := by decide +kernel
theorem dX8_addShut_4 : decode cX8_addShut 4 = .ok (.iload_n 1, 1) := by decide +kernel
theorem dX8_addShut_5 : decode cX8_addShut 5 = .ok (.iload_n 2, 1) := by decide +kernel
theorem dX8_addShut_6 : decode cX8_addShut 6 = .ok (.iload_n 3, 1) := by decide +kernel
theorem dX8_addShut_7 : decode cX8_addShut 7 = .ok (.invokestatic 79, 3) := by decide +kernel
theorem dX8_addShut_10 : decode cX8_addShut 10 = .ok (.aload_n 0, 1) := by decide +kernel
theorem dX8_addShut_11 : decode cX8_addShut 11 = .ok (.dup, 1) := by decide +kernel
theorem dX8_addShut_12 : decode cX8_addShut 12 = .ok (.getfield 61, 3) := by decide +kernel
theorem dX8_addShut_15 : decode cX8_addShut 15 = .ok (.iconst 1, 1) := by decide +kernel
theorem dX8_addShut_16 : decode cX8_addShut 16 = .ok (.iadd, 1) := by decide +kernel
theorem dX8_addShut_17 : decode cX8_addShut 17 = .ok (.putfield 61, 3) := by decide +kernel
theorem dX8_addShut_20 : decode cX8_addShut 20 = .ok (.aload_n 0, 1) := by decide +kernel
theorem dX8_addShut_21 : decode cX8_addShut 21 = .ok (.invokevirtual 70, 3) := by decide +kernel
theorem dX8_addShut_24 : decode cX8_addShut 24 = .ok (.aload_n 0, 1) := by decide +kernel
theorem dX8_addShut_25 : decode cX8_addShut 25 = .ok (.getfield 61, 3) := by decide +kernel
theorem dX8_addShut_28 : decode cX8_addShut 28 = .ok (.ireturn, 1) := by decide +kernel
theorem dX8_addFolk_0 : decode cX8_addFolk 0 = .ok (.aload_n 0, 1) := by decide +kernel
theorem dX8_addFolk_1 : decode cX8_addFolk 1 = .ok (.getfield 32, 3) := by decide +kernel
theorem dX8_addFolk_4 : decode cX8_addFolk 4 = .ok (.iload_n 1, 1) := by decide +kernel
theorem dX8_addFolk_5 : decode cX8_addFolk 5 = .ok (.iload_n 2, 1) := by decide +kernel
theorem dX8_addFolk_6 : decode cX8_addFolk 6 = .ok (.iload_n 3, 1) := by decide +kernel
theorem dX8_addFolk_7 : decode cX8_addFolk 7 = .ok (.invokestatic 79, 3) := by decide +kernel
theorem dX8_addFolk_10 : decode cX8_addFolk 10 = .ok (.aload_n 0, 1) := by decide +kernel
theorem dX8_addFolk_11 : decode cX8_addFolk 11 = .ok (.dup, 1) := by decide +kernel
theorem dX8_addFolk_12 : decode cX8_addFolk 12 = .ok (.getfield 64, 3) := by decide +kernel
theorem dX8_addFolk_15 : decode cX8_addFolk 15 = .ok (.iconst 1, 1) := by decide +kernel
theorem dX8_addFolk_16 : decode cX8_addFolk 16 = .ok (.iadd, 1) := by decide +kernel
theorem dX8_addFolk_17 : decode cX8_addFolk 17 = .ok (.putfield 64, 3) := by decide +kernel
theorem dX8_addFolk_20 : decode cX8_addFolk 20 = .ok (.aload_n 0, 1) := by decide +kernel
theorem dX8_addFolk_21 : decode cX8_addFolk 21 = .ok (.invokevirtual 70, 3) := by decide +kernel
theorem dX8_addFolk_24 : decode cX8_addFolk 24 = .ok (.aload_n 0, 1) := by decide +kernel
theorem dX8_addFolk_25 : decode cX8_addFolk 25 = .ok (.getfield 64, 3) := by decide +kernel
theorem dX8_addFolk_28 : decode cX8_addFolk 28 = .ok (.ireturn, 1) := by decide +kernel
theorem dX8_mark_0 : decode cX8_mark 0 = .ok (.iload_n 2, 1) := by decide +kernel
theorem dX8_mark_1 : decode cX8_mark 1 = .ok (.iconst 0, 1) := by decide +kernel
theorem dX8_mark_2 : decode cX8_mark 2 = .ok (.invokestatic 83, 3) := by decide +kernel
theorem dX8_mark_5 : decode cX8_mark 5 = .ok (.istore 4, 2) := by decide +kernel
theorem dX8_mark_7 : decode cX8_mark 7 = .ok (.iload 4, 2) := by decide +kernel
theorem dX8_mark_9 : decode cX8_mark 9 = .ok (.iload_n 3, 1) := by decide +kernel
theorem dX8_mark_10 : decode cX8_mark 10 = .ok (.if_icmp .gt 26, 3) := by decide +kernel
theorem dX8_mark_13 : decode cX8_mark 13 = .ok (.iload 4, 2) := by decide +kernel
theorem dX8_mark_15 : decode cX8_mark 15 = .ok (.bipush 60, 2) := by decide +kernel
theorem dX8_mark_17 : decode cX8_mark 17 = .ok (.if_icmp .ge 19, 3) := by decide +kernel
theorem dX8_mark_20 : decode cX8_mark 20 = .ok (.aload_n 0, 1) := by decide +kernel
theorem dX8_mark_21 : decode cX8_mark 21 = .ok (.iload 4, 2) := by decide +kernel
theorem dX8_mark_23 : decode cX8_mark 23 = .ok (.dup2, 1) := by decide +kernel
theorem dX8_mark_24 : decode cX8_mark 24 = .ok (.laload, 1) := by decide +kernel
theorem dX8_mark_25 : decode cX8_mark 25 = .ok (.lconst 1, 1) := by decide +kernel
theorem dX8_mark_26 : decode cX8_mark 26 = .ok (.iload_n 1, 1) := by decide +kernel
theorem dX8_mark_27 : decode cX8_mark 27 = .ok (.lshl, 1) := by decide +kernel
theorem dX8_mark_28 : decode cX8_mark 28 = .ok (.lor, 1) := by decide +kernel
theorem dX8_mark_29 : decode cX8_mark 29 = .ok (.lastore, 1) := by decide +kernel
theorem dX8_mark_30 : decode cX8_mark 30 = .ok (.iinc 4 1, 3) := by decide +kernel
theorem dX8_mark_33 : decode cX8_mark 33 = .ok (.goto (-26), 3) := by decide +kernel
theorem dX8_mark_36 : decode cX8_mark 36 = .ok (.return_, 1) := by decide +kernel
theorem dX8_changeGlide_0 : decode cX8_changeGlide 0 = .ok (.aload_n 0, 1) := by decide +kernel
theorem dX8_changeGlide_1 : decode cX8_changeGlide 1 = .ok (.getfield 9, 3) := by decide +kernel
theorem dX8_changeGlide_4 : decode cX8_changeGlide 4 = .ok (.istore_n 2, 1) := by decide +kernel
theorem dX8_changeGlide_5 : decode cX8_changeGlide 5 = .ok (.aload_n 0, 1) := by decide +kernel
theorem dX8_changeGlide_6 : decode cX8_changeGlide 6 = .ok (.iload_n 1, 1) := by decide +kernel
theorem dX8_changeGlide_7 : decode cX8_changeGlide 7 = .ok (.putfield 9, 3) := by decide +kernel
theorem dX8_changeGlide_10 : decode cX8_changeGlide 10 = .ok (.aload_n 0, 1) := by decide +kernel
theorem dX8_changeGlide_11 : decode cX8_changeGlide 11 = .ok (.invokevirtual 70, 3) := by decide +kernel
theorem dX8_changeGlide_14 : decode cX8_changeGlide 14 = .ok (.iload_n 2, 1) := by decide +kernel
theorem dX8_changeGlide_15 : decode cX8_changeGlide 15 = .ok (.ireturn, 1) := by decide +kernel
theorem dX8_changeNear_0 : decode cX8_changeNear 0 = .ok (.aload_n 0, 1) := by decide +kernel
theorem dX8_changeNear_1 : decode cX8_changeNear 1 = .ok (.getfield 15, 3) := by decide +kernel
theorem dX8_changeNear_4 : decode cX8_changeNear 4 = .ok (.istore_n 2, 1) := by decide +kernel
theorem dX8_changeNear_5 : decode cX8_changeNear 5 = .ok (.aload_n 0, 1) := by decide +kernel
theorem dX8_changeNear_6 : decode cX8_changeNear 6 = .ok (.iload_n 1, 1) := by decide +kernel
theorem dX8_changeNear_7 : decode cX8_changeNear 7 = .ok (.putfield 15, 3) := by decide +kernel
theorem dX8_changeNear_10 : decode cX8_changeNear 10 = .ok (.aload_n 0, 1) := by decide +kernel
theorem dX8_changeNear_11 : decode cX8_changeNear 11 = .ok (.invokevirtual 67, 3) := by decide +kernel
theorem dX8_changeNear_14 : decode cX8_changeNear 14 = .ok (.iload_n 2, 1) := by decide +kernel
theorem dX8_changeNear_15 : decode cX8_changeNear 15 = .ok (.ireturn, 1) := by decide +kernel
theorem dX8_refreshNear_0 : decode cX8_refreshNear 0 = .ok (.iconst 0, 1) := by decide +kernel
theorem dX8_refreshNear_1 : decode cX8_refreshNear 1 = .ok (.istore_n 1, 1) := by decide +kernel
theorem dX8_refreshNear_2 : decode cX8_refreshNear 2 = .ok (.iload_n 1, 1) := by decide +kernel
theorem dX8_refreshNear_3 : decode cX8_refreshNear 3 = .ok (.aload_n 0, 1) := by decide +kernel
theorem dX8_refreshNear_4 : decode cX8_refreshNear 4 = .ok (.getfield 51, 3) := by decide +kernel
theorem dX8_refreshNear_7 : decode cX8_refreshNear 7 = .ok (.if_icmp .ge 57, 3) := by decide +kernel
theorem dX8_refreshNear_10 : decode cX8_refreshNear 10 = .ok (.lconst 0, 1) := by decide +kernel
theorem dX8_refreshNear_11 : decode cX8_refreshNear 11 = .ok (.lstore_n 2, 1) := by decide +kernel
theorem dX8_refreshNear_12 : decode cX8_refreshNear 12 = .ok (.iconst 0, 1) := by decide +kernel
theorem dX8_refreshNear_13 : decode cX8_refreshNear 13 = .ok (.istore 4, 2) := by decide +kernel
theorem dX8_refreshNear_15 : decode cX8_refreshNear 15 = .ok (.iload 4, 2) := by decide +kernel
theorem dX8_refreshNear_17 : decode cX8_refreshNear 17 = .ok (.aload_n 0, 1) := by decide +kernel
theorem dX8_refreshNear_18 : decode cX8_refreshNear 18 = .ok (.getfield 51, 3) := by decide +kernel
theorem dX8_refreshNear_21 : decode cX8_refreshNear 21 = .ok (.if_icmp .ge 30, 3) := by decide +kernel
theorem dX8_refreshNear_24 : decode cX8_refreshNear 24 = .ok (.aload_n 0, 1) := by decide +kernel
theorem dX8_refreshNear_25 : decode cX8_refreshNear 25 = .ok (.iload_n 1, 1) := by decide +kernel
theorem dX8_refreshNear_26 : decode cX8_refreshNear 26 = .ok (.iload 4, 2) := by decide +kernel
theorem dX8_refreshNear_28 : decode cX8_refreshNear 28 = .ok (.invokevirtual 86, 3) := by decide +kernel
theorem dX8_refreshNear_31 : decode cX8_refreshNear 31 = .ok (.aload_n 0, 1) := by decide +kernel
theorem dX8_refreshNear_32 : decode cX8_refreshNear 32 = .ok (.getfield 15, 3) := by decide +kernel
theorem dX8_refreshNear_35 : decode cX8_refreshNear 35 = .ok (.if_icmp .gt 10, 3) := by decide +kernel
theorem dX8_refreshNear_38 : decode cX8_refreshNear 38 = .ok (.lload_n 2, 1) := by decide +kernel
theorem dX8_refreshNear_39 : decode cX8_refreshNear 39 = .ok (.lconst 1, 1) := by decide +kernel
theorem dX8_refreshNear_40 : decode cX8_refreshNear 40 = .ok (.iload 4, 2) := by decide +kernel
theorem dX8_refreshNear_42 : decode cX8_refreshNear 42 = .ok (.lshl, 1) := by decide +kernel
theorem dX8_refreshNear_43 : decode cX8_refreshNear 43 = .ok (.lor, 1) := by decide +kernel
theorem dX8_refreshNear_44 : decode cX8_refreshNear 44 = .ok (.lstore_n 2, 1) := by decide +kernel
theorem dX8_refreshNear_45 : decode cX8_refreshNear 45 = .ok (.iinc 4 1, 3) := by decide +kernel
theorem dX8_refreshNear_48 : decode cX8_refreshNear 48 = .ok (.goto (-33), 3) := by decide +kernel
theorem dX8_refreshNear_51 : decode cX8_refreshNear 51 = .ok (.aload_n 0, 1) := by decide +kernel
theorem dX8_refreshNear_52 : decode cX8_refreshNear 52 = .ok (.getfield 25, 3) := by decide +kernel
theorem dX8_refreshNear_55 : decode cX8_refreshNear 55 = .ok (.iload_n 1, 1) := by decide +kernel
theorem dX8_refreshNear_56 : decode cX8_refreshNear 56 = .ok (.lload_n 2, 1) := by decide +kernel
theorem dX8_refreshNear_57 : decode cX8_refreshNear 57 = .ok (.lastore, 1) := by decide +kernel
theorem dX8_refreshNear_58 : decode cX8_refreshNear 58 = .ok (.iinc 1 1, 3) := by decide +kernel
theorem dX8_refreshNear_61 : decode cX8_refreshNear 61 = .ok (.goto (-59), 3) := by decide +kernel
theorem dX8_refreshNear_64 : decode cX8_refreshNear 64 = .ok (.return_, 1) := by decide +kernel
theorem dX8_refreshOpen_0 : decode cX8_refreshOpen 0 = .ok (.iconst 0, 1) := by decide +kernel
theorem dX8_refreshOpen_1 : decode cX8_refreshOpen 1 = .ok (.istore_n 1, 1) := by decide +kernel
theorem dX8_refreshOpen_2 : decode cX8_refreshOpen 2 = .ok (.iload_n 1, 1) := by decide +kernel
theorem dX8_refreshOpen_3 : decode cX8_refreshOpen 3 = .ok (.bipush 60, 2) := by decide +kernel
theorem dX8_refreshOpen_5 : decode cX8_refreshOpen 5 = .ok (.if_icmp .ge 57, 3) := by decide +kernel
theorem dX8_refreshOpen_8 : decode cX8_refreshOpen 8 = .ok (.lconst 0, 1) := by decide +kernel
theorem dX8_refreshOpen_9 : decode cX8_refreshOpen 9 = .ok (.lstore_n 2, 1) := by decide +kernel
theorem dX8_refreshOpen_10 : decode cX8_refreshOpen 10 = .ok (.iconst 0, 1) := by decide +kernel
theorem dX8_refreshOpen_11 : decode cX8_refreshOpen 11 = .ok (.istore 4, 2) := by decide +kernel
theorem dX8_refreshOpen_13 : decode cX8_refreshOpen 13 = .ok (.iload 4, 2) := by decide +kernel
theorem dX8_refreshOpen_15 : decode cX8_refreshOpen 15 = .ok (.aload_n 0, 1) := by decide +kernel
theorem dX8_refreshOpen_16 : decode cX8_refreshOpen 16 = .ok (.getfield 9, 3) := by decide +kernel
theorem dX8_refreshOpen_19 : decode cX8_refreshOpen 19 = .ok (.if_icmp .gt 19, 3) := by decide +kernel
theorem dX8_refreshOpen_22 : decode cX8_refreshOpen 22 = .ok (.lload_n 2, 1) := by decide +kernel
theorem dX8_refreshOpen_23 : decode cX8_refreshOpen 23 = .ok (.aload_n 0, 1) := by decide +kernel
theorem dX8_refreshOpen_24 : decode cX8_refreshOpen 24 = .ok (.iload 4, 2) := by decide +kernel
theorem dX8_refreshOpen_26 : decode cX8_refreshOpen 26 = .ok (.iload_n 1, 1) := by decide +kernel
theorem dX8_refreshOpen_27 : decode cX8_refreshOpen 27 = .ok (.invokevirtual 89, 3) := by decide +kernel
theorem dX8_refreshOpen_30 : decode cX8_refreshOpen 30 = .ok (.lor, 1) := by decide +kernel
theorem dX8_refreshOpen_31 : decode cX8_refreshOpen 31 = .ok (.lstore_n 2, 1) := by decide +kernel
theorem dX8_refreshOpen_32 : decode cX8_refreshOpen 32 = .ok (.iinc 4 1, 3) := by decide +kernel
theorem dX8_refreshOpen_35 : decode cX8_refreshOpen 35 = .ok (.goto (-22), 3) := by decide +kernel
theorem dX8_refreshOpen_38 : decode cX8_refreshOpen 38 = .ok (.aload_n 0, 1) := by decide +kernel
theorem dX8_refreshOpen_39 : decode cX8_refreshOpen 39 = .ok (.getfield 35, 3) := by decide +kernel
theorem dX8_refreshOpen_42 : decode cX8_refreshOpen 42 = .ok (.iload_n 1, 1) := by decide +kernel
theorem dX8_refreshOpen_43 : decode cX8_refreshOpen 43 = .ok (.lload_n 2, 1) := by decide +kernel
theorem dX8_refreshOpen_44 : decode cX8_refreshOpen 44 = .ok (.aload_n 0, 1) := by decide +kernel
theorem dX8_refreshOpen_45 : decode cX8_refreshOpen 45 = .ok (.getfield 29, 3) := by decide +kernel
theorem dX8_refreshOpen_48 : decode cX8_refreshOpen 48 = .ok (.iload_n 1, 1) := by decide +kernel
theorem dX8_refreshOpen_49 : decode cX8_refreshOpen 49 = .ok (.laload, 1) := by decide +kernel
theorem dX8_refreshOpen_50 : decode cX8_refreshOpen 50 = .ok (.ldc2_w 93, 3) := by decide +kernel
theorem dX8_refreshOpen_53 : decode cX8_refreshOpen 53 = .ok (.lxor, 1) := by decide +kernel
theorem dX8_refreshOpen_54 : decode cX8_refreshOpen 54 = .ok (.land, 1) := by decide +kernel
theorem dX8_refreshOpen_55 : decode cX8_refreshOpen 55 = .ok (.lastore, 1) := by decide +kernel
theorem dX8_refreshOpen_56 : decode cX8_refreshOpen 56 = .ok (.iinc 1 1, 3) := by decide +kernel
theorem dX8_refreshOpen_59 : decode cX8_refreshOpen 59 = .ok (.goto (-57), 3) := by decide +kernel
theorem dX8_refreshOpen_62 : decode cX8_refreshOpen 62 = .ok (.return_, 1) := by decide +kernel
theorem dX8_downBy_0 : decode cX8_downBy 0 = .ok (.iload_n 2, 1) := by decide +kernel
theorem dX8_downBy_1 : decode cX8_downBy 1 = .ok (.iload_n 1, 1) := by decide +kernel
theorem dX8_downBy_2 : decode cX8_downBy 2 = .ok (.iadd, 1) := by decide +kernel
theorem dX8_downBy_3 : decode cX8_downBy 3 = .ok (.istore_n 3, 1) := by decide +kernel
theorem dX8_downBy_4 : decode cX8_downBy 4 = .ok (.iload_n 3, 1) := by decide +kernel
theorem dX8_downBy_5 : decode cX8_downBy 5 = .ok (.invokestatic 95, 3) := by decide +kernel
theorem dX8_downBy_8 : decode cX8_downBy 8 = .ok (.ifCond .eq 21, 3) := by decide +kernel
theorem dX8_downBy_11 : decode cX8_downBy 11 = .ok (.aload_n 0, 1) := by decide +kernel
theorem dX8_downBy_12 : decode cX8_downBy 12 = .ok (.getfield 54, 3) := by decide +kernel
theorem dX8_downBy_15 : decode cX8_downBy 15 = .ok (.aload_n 0, 1) := by decide +kernel
theorem dX8_downBy_16 : decode cX8_downBy 16 = .ok (.getfield 32, 3) := by decide +kernel
theorem dX8_downBy_19 : decode cX8_downBy 19 = .ok (.iload_n 3, 1) := by decide +kernel
theorem dX8_downBy_20 : decode cX8_downBy 20 = .ok (.laload, 1) := by decide +kernel
theorem dX8_downBy_21 : decode cX8_downBy 21 = .ok (.ldc2_w 93, 3) := by decide +kernel
theorem dX8_downBy_24 : decode cX8_downBy 24 = .ok (.lxor, 1) := by decide +kernel
theorem dX8_downBy_25 : decode cX8_downBy 25 = .ok (.land, 1) := by decide +kernel
theorem dX8_downBy_26 : decode cX8_downBy 26 = .ok (.goto 7, 3) := by decide +kernel
theorem dX8_downBy_29 : decode cX8_downBy 29 = .ok (.aload_n 0, 1) := by decide +kernel
theorem dX8_downBy_30 : decode cX8_downBy 30 = .ok (.getfield 54, 3) := by decide +kernel
theorem dX8_downBy_33 : decode cX8_downBy 33 = .ok (.lstore 4, 2) := by decide +kernel
theorem dX8_downBy_35 : decode cX8_downBy 35 = .ok (.iconst 0, 1) := by decide +kernel
theorem dX8_downBy_36 : decode cX8_downBy 36 = .ok (.istore 6, 2) := by decide +kernel
theorem dX8_downBy_38 : decode cX8_downBy 38 = .ok (.iload 6, 2) := by decide +kernel
theorem dX8_downBy_40 : decode cX8_downBy 40 = .ok (.iload_n 1, 1) := by decide +kernel
theorem dX8_downBy_41 : decode cX8_downBy 41 = .ok (.if_icmp .ge 17, 3) := by decide +kernel
theorem dX8_downBy_44 : decode cX8_downBy 44 = .ok (.aload_n 0, 1) := by decide +kernel
theorem dX8_downBy_45 : decode cX8_downBy 45 = .ok (.lload 4, 2) := by decide +kernel
theorem dX8_downBy_47 : decode cX8_downBy 47 = .ok (.invokevirtual 99, 3) := by decide +kernel
theorem dX8_downBy_50 : decode cX8_downBy 50 = .ok (.lstore 4, 2) := by decide +kernel
theorem dX8_downBy_52 : decode cX8_downBy 52 = .ok (.iinc 6 1, 3) := by decide +kernel
theorem dX8_downBy_55 : decode cX8_downBy 55 = .ok (.goto (-17), 3) := by decide +kernel
theorem dX8_downBy_58 : decode cX8_downBy 58 = .ok (.lload 4, 2) := by decide +kernel
theorem dX8_downBy_60 : decode cX8_downBy 60 = .ok (.lreturn, 1) := by decide +kernel
theorem dX8_stepsDown_0 : decode cX8_stepsDown 0 = .ok (.iconst 0, 1) := by decide +kernel
theorem dX8_stepsDown_1 : decode cX8_stepsDown 1 = .ok (.istore_n 3, 1) := by decide +kernel
theorem dX8_stepsDown_2 : decode cX8_stepsDown 2 = .ok (.iload_n 3, 1) := by decide +kernel
theorem dX8_stepsDown_3 : decode cX8_stepsDown 3 = .ok (.aload_n 0, 1) := by decide +kernel
theorem dX8_stepsDown_4 : decode cX8_stepsDown 4 = .ok (.getfield 9, 3) := by decide +kernel
theorem dX8_stepsDown_7 : decode cX8_stepsDown 7 = .ok (.if_icmp .gt 24, 3) := by decide +kernel
theorem dX8_stepsDown_10 : decode cX8_stepsDown 10 = .ok (.aload_n 0, 1) := by decide +kernel
theorem dX8_stepsDown_11 : decode cX8_stepsDown 11 = .ok (.iload_n 3, 1) := by decide +kernel
theorem dX8_stepsDown_12 : decode cX8_stepsDown 12 = .ok (.iload_n 2, 1) := by decide +kernel
theorem dX8_stepsDown_13 : decode cX8_stepsDown 13 = .ok (.invokevirtual 89, 3) := by decide +kernel
theorem dX8_stepsDown_16 : decode cX8_stepsDown 16 = .ok (.iload_n 1, 1) := by decide +kernel
theorem dX8_stepsDown_17 : decode cX8_stepsDown 17 = .ok (.invokestatic 103, 3) := by decide +kernel
theorem dX8_stepsDown_20 : decode cX8_stepsDown 20 = .ok (.ifCond .eq 5, 3) := by decide +kernel
theorem dX8_stepsDown_23 : decode cX8_stepsDown 23 = .ok (.iload_n 3, 1) := by decide +kernel
theorem dX8_stepsDown_24 : decode cX8_stepsDown 24 = .ok (.ireturn, 1) := by decide +kernel
theorem dX8_stepsDown_25 : decode cX8_stepsDown 25 = .ok (.iinc 3 1, 3) := by decide +kernel
theorem dX8_stepsDown_28 : decode cX8_stepsDown 28 = .ok (.goto (-26), 3) := by decide +kernel
theorem dX8_stepsDown_31 : decode cX8_stepsDown 31 = .ok (.ldc 107, 2) := by decide +kernel
theorem dX8_stepsDown_33 : decode cX8_stepsDown 33 = .ok (.ireturn, 1) := by decide +kernel
theorem dX8_besideOf_0 : decode cX8_besideOf 0 = .ok (.lload_n 1, 1) := by decide +kernel
theorem dX8_besideOf_1 : decode cX8_besideOf 1 = .ok (.aload_n 0, 1) := by decide +kernel
theorem dX8_besideOf_2 : decode cX8_besideOf 2 = .ok (.getfield 76, 3) := by decide +kernel
theorem dX8_besideOf_5 : decode cX8_besideOf 5 = .ok (.ldc2_w 93, 3) := by decide +kernel
theorem dX8_besideOf_8 : decode cX8_besideOf 8 = .ok (.lxor, 1) := by decide +kernel
theorem dX8_besideOf_9 : decode cX8_besideOf 9 = .ok (.land, 1) := by decide +kernel
theorem dX8_besideOf_10 : decode cX8_besideOf 10 = .ok (.iconst 1, 1) := by decide +kernel
theorem dX8_besideOf_11 : decode cX8_besideOf 11 = .ok (.lshl, 1) := by decide +kernel
theorem dX8_besideOf_12 : decode cX8_besideOf 12 = .ok (.lload_n 1, 1) := by decide +kernel
theorem dX8_besideOf_13 : decode cX8_besideOf 13 = .ok (.aload_n 0, 1) := by decide +kernel
theorem dX8_besideOf_14 : decode cX8_besideOf 14 = .ok (.getfield 42, 3) := by decide +kernel
theorem dX8_besideOf_17 : decode cX8_besideOf 17 = .ok (.lshl, 1) := by decide +kernel
theorem dX8_besideOf_18 : decode cX8_besideOf 18 = .ok (.lor, 1) := by decide +kernel
theorem dX8_besideOf_19 : decode cX8_besideOf 19 = .ok (.lload_n 1, 1) := by decide +kernel
theorem dX8_besideOf_20 : decode cX8_besideOf 20 = .ok (.aload_n 0, 1) := by decide +kernel
theorem dX8_besideOf_21 : decode cX8_besideOf 21 = .ok (.getfield 73, 3) := by decide +kernel
theorem dX8_besideOf_24 : decode cX8_besideOf 24 = .ok (.ldc2_w 93, 3) := by decide +kernel
theorem dX8_besideOf_27 : decode cX8_besideOf 27 = .ok (.lxor, 1) := by decide +kernel
theorem dX8_besideOf_28 : decode cX8_besideOf 28 = .ok (.land, 1) := by decide +kernel
theorem dX8_besideOf_29 : decode cX8_besideOf 29 = .ok (.iconst 1, 1) := by decide +kernel
theorem dX8_besideOf_30 : decode cX8_besideOf 30 = .ok (.lushr, 1) := by decide +kernel
theorem dX8_besideOf_31 : decode cX8_besideOf 31 = .ok (.lor, 1) := by decide +kernel
theorem dX8_besideOf_32 : decode cX8_besideOf 32 = .ok (.lload_n 1, 1) := by decide +kernel
theorem dX8_besideOf_33 : decode cX8_besideOf 33 = .ok (.aload_n 0, 1) := by decide +kernel
theorem dX8_besideOf_34 : decode cX8_besideOf 34 = .ok (.getfield 42, 3) := by decide +kernel
theorem dX8_besideOf_37 : decode cX8_besideOf 37 = .ok (.lushr, 1) := by decide +kernel
theorem dX8_besideOf_38 : decode cX8_besideOf 38 = .ok (.lor, 1) := by decide +kernel
theorem dX8_besideOf_39 : decode cX8_besideOf 39 = .ok (.lstore_n 3, 1) := by decide +kernel
theorem dX8_besideOf_40 : decode cX8_besideOf 40 = .ok (.lload_n 3, 1) := by decide +kernel
theorem dX8_besideOf_41 : decode cX8_besideOf 41 = .ok (.aload_n 0, 1) := by decide +kernel
theorem dX8_besideOf_42 : decode cX8_besideOf 42 = .ok (.getfield 54, 3) := by decide +kernel
theorem dX8_besideOf_45 : decode cX8_besideOf 45 = .ok (.land, 1) := by decide +kernel
theorem dX8_besideOf_46 : decode cX8_besideOf 46 = .ok (.lreturn, 1) := by decide +kernel
theorem dX8_stepFrom_0 : decode cX8_stepFrom 0 = .ok (.iload_n 1, 1) := by decide +kernel
theorem dX8_stepFrom_1 : decode cX8_stepFrom 1 = .ok (.ifCond .lt 11, 3) := by decide +kernel
theorem dX8_stepFrom_4 : decode cX8_stepFrom 4 = .ok (.iload_n 1, 1) := by decide +kernel
theorem dX8_stepFrom_5 : decode cX8_stepFrom 5 = .ok (.aload_n 0, 1) := by decide +kernel
theorem dX8_stepFrom_6 : decode cX8_stepFrom 6 = .ok (.getfield 51, 3) := by decide +kernel
theorem dX8_stepFrom_9 : decode cX8_stepFrom 9 = .ok (.if_icmp .lt 5, 3) := by decide +kernel
theorem dX8_stepFrom_12 : decode cX8_stepFrom 12 = .ok (.iconst (-1), 1) := by decide +kernel
theorem dX8_stepFrom_13 : decode cX8_stepFrom 13 = .ok (.ireturn, 1) := by decide +kernel
theorem dX8_stepFrom_14 : decode cX8_stepFrom 14 = .ok (.iload_n 2, 1) := by decide +kernel
theorem dX8_stepFrom_15 : decode cX8_stepFrom 15 = .ok (.tableswitch 113 0 3 #[29, 52, 76, 93], 29) := by decide +kernel
theorem dX8_stepFrom_44 : decode cX8_stepFrom 44 = .ok (.aload_n 0, 1) := by decide +kernel
theorem dX8_stepFrom_45 : decode cX8_stepFrom 45 = .ok (.getfield 18, 3) := by decide +kernel
theorem dX8_stepFrom_48 : decode cX8_stepFrom 48 = .ok (.iload_n 1, 1) := by decide +kernel
theorem dX8_stepFrom_49 : decode cX8_stepFrom 49 = .ok (.iaload, 1) := by decide +kernel
theorem dX8_stepFrom_50 : decode cX8_stepFrom 50 = .ok (.iconst 1, 1) := by decide +kernel
theorem dX8_stepFrom_51 : decode cX8_stepFrom 51 = .ok (.iadd, 1) := by decide +kernel
theorem dX8_stepFrom_52 : decode cX8_stepFrom 52 = .ok (.aload_n 0, 1) := by decide +kernel
theorem dX8_stepFrom_53 : decode cX8_stepFrom 53 = .ok (.getfield 42, 3) := by decide +kernel
theorem dX8_stepFrom_56 : decode cX8_stepFrom 56 = .ok (.if_icmp .ge 9, 3) := by decide +kernel
theorem dX8_stepFrom_59 : decode cX8_stepFrom 59 = .ok (.iload_n 1, 1) := by decide +kernel
theorem dX8_stepFrom_60 : decode cX8_stepFrom 60 = .ok (.iconst 1, 1) := by decide +kernel
theorem dX8_stepFrom_61 : decode cX8_stepFrom 61 = .ok (.iadd, 1) := by decide +kernel
theorem dX8_stepFrom_62 : decode cX8_stepFrom 62 = .ok (.goto 4, 3) := by decide +kernel
theorem dX8_stepFrom_65 : decode cX8_stepFrom 65 = .ok (.iconst (-1), 1) := by decide +kernel
theorem dX8_stepFrom_66 : decode cX8_stepFrom 66 = .ok (.ireturn, 1) := by decide +kernel
theorem dX8_stepFrom_67 : decode cX8_stepFrom 67 = .ok (.iload_n 1, 1) := by decide +kernel
theorem dX8_stepFrom_68 : decode cX8_stepFrom 68 = .ok (.aload_n 0, 1) := by decide +kernel
theorem dX8_stepFrom_69 : decode cX8_stepFrom 69 = .ok (.getfield 42, 3) := by decide +kernel
theorem dX8_stepFrom_72 : decode cX8_stepFrom 72 = .ok (.iadd, 1) := by decide +kernel
theorem dX8_stepFrom_73 : decode cX8_stepFrom 73 = .ok (.aload_n 0, 1) := by decide +kernel
theorem dX8_stepFrom_74 : decode cX8_stepFrom 74 = .ok (.getfield 51, 3) := by decide +kernel
theorem dX8_stepFrom_77 : decode cX8_stepFrom 77 = .ok (.if_icmp .ge 12, 3) := by decide +kernel
theorem dX8_stepFrom_80 : decode cX8_stepFrom 80 = .ok (.iload_n 1, 1) := by decide +kernel
theorem dX8_stepFrom_81 : decode cX8_stepFrom 81 = .ok (.aload_n 0, 1) := by decide +kernel
theorem dX8_stepFrom_82 : decode cX8_stepFrom 82 = .ok (.getfield 42, 3) := by decide +kernel
theorem dX8_stepFrom_85 : decode cX8_stepFrom 85 = .ok (.iadd, 1) := by decide +kernel
theorem dX8_stepFrom_86 : decode cX8_stepFrom 86 = .ok (.goto 4, 3) := by decide +kernel
theorem dX8_stepFrom_89 : decode cX8_stepFrom 89 = .ok (.iconst (-1), 1) := by decide +kernel
theorem dX8_stepFrom_90 : decode cX8_stepFrom 90 = .ok (.ireturn, 1) := by decide +kernel
theorem dX8_stepFrom_91 : decode cX8_stepFrom 91 = .ok (.aload_n 0, 1) := by decide +kernel
theorem dX8_stepFrom_92 : decode cX8_stepFrom 92 = .ok (.getfield 18, 3) := by decide +kernel
theorem dX8_stepFrom_95 : decode cX8_stepFrom 95 = .ok (.iload_n 1, 1) := by decide +kernel
theorem dX8_stepFrom_96 : decode cX8_stepFrom 96 = .ok (.iaload, 1) := by decide +kernel
theorem dX8_stepFrom_97 : decode cX8_stepFrom 97 = .ok (.ifCond .le 9, 3) := by decide +kernel
theorem dX8_stepFrom_100 : decode cX8_stepFrom 100 = .ok (.iload_n 1, 1) := by decide +kernel
theorem dX8_stepFrom_101 : decode cX8_stepFrom 101 = .ok (.iconst 1, 1) := by decide +kernel
theorem dX8_stepFrom_102 : decode cX8_stepFrom 102 = .ok (.isub, 1) := by decide +kernel
theorem dX8_stepFrom_103 : decode cX8_stepFrom 103 = .ok (.goto 4, 3) := by decide +kernel
theorem dX8_stepFrom_106 : decode cX8_stepFrom 106 = .ok (.iconst (-1), 1) := by decide +kernel
theorem dX8_stepFrom_107 : decode cX8_stepFrom 107 = .ok (.ireturn, 1) := by decide +kernel
theorem dX8_stepFrom_108 : decode cX8_stepFrom 108 = .ok (.iload_n 1, 1) := by decide +kernel
theorem dX8_stepFrom_109 : decode cX8_stepFrom 109 = .ok (.aload_n 0, 1) := by decide +kernel
theorem dX8_stepFrom_110 : decode cX8_stepFrom 110 = .ok (.getfield 42, 3) := by decide +kernel
theorem dX8_stepFrom_113 : decode cX8_stepFrom 113 = .ok (.isub, 1) := by decide +kernel
theorem dX8_stepFrom_114 : decode cX8_stepFrom 114 = .ok (.ifCond .lt 12, 3) := by decide +kernel
theorem dX8_stepFrom_117 : decode cX8_stepFrom 117 = .ok (.iload_n 1, 1) := by decide +kernel
theorem dX8_stepFrom_118 : decode cX8_stepFrom 118 = .ok (.aload_n 0, 1) := by decide +kernel
theorem dX8_stepFrom_119 : decode cX8_stepFrom 119 = .ok (.getfield 42, 3) := by decide +kernel
theorem dX8_stepFrom_122 : decode cX8_stepFrom 122 = .ok (.isub, 1) := by decide +kernel
theorem dX8_stepFrom_123 : decode cX8_stepFrom 123 = .ok (.goto 4, 3) := by decide +kernel
theorem dX8_stepFrom_126 : decode cX8_stepFrom 126 = .ok (.iconst (-1), 1) := by decide +kernel
theorem dX8_stepFrom_127 : decode cX8_stepFrom 127 = .ok (.ireturn, 1) := by decide +kernel
theorem dX8_stepFrom_128 : decode cX8_stepFrom 128 = .ok (.iload_n 1, 1) := by decide +kernel
theorem dX8_stepFrom_129 : decode cX8_stepFrom 129 = .ok (.ireturn, 1) := by decide +kernel
theorem dX8_apart_0 : decode cX8_apart 0 = .ok (.aload_n 0, 1) := by decide +kernel
theorem dX8_apart_1 : decode cX8_apart 1 = .ok (.iload_n 1, 1) := by decide +kernel
theorem dX8_apart_2 : decode cX8_apart 2 = .ok (.invokevirtual 108, 3) := by decide +kernel
theorem dX8_apart_5 : decode cX8_apart 5 = .ok (.ifCond .eq 11, 3) := by decide +kernel
theorem dX8_apart_8 : decode cX8_apart 8 = .ok (.aload_n 0, 1) := by decide +kernel
theorem dX8_apart_9 : decode cX8_apart 9 = .ok (.iload_n 2, 1) := by decide +kernel
theorem dX8_apart_10 : decode cX8_apart 10 = .ok (.invokevirtual 108, 3) := by decide +kernel
theorem dX8_apart_13 : decode cX8_apart 13 = .ok (.ifCond .ne 6, 3) := by decide +kernel
theorem dX8_apart_16 : decode cX8_apart 16 = .ok (.ldc 111, 2) := by decide +kernel
theorem dX8_apart_18 : decode cX8_apart 18 = .ok (.ireturn, 1) := by decide +kernel
theorem dX8_apart_19 : decode cX8_apart 19 = .ok (.aload_n 0, 1) := by decide +kernel
theorem dX8_apart_20 : decode cX8_apart 20 = .ok (.getfield 18, 3) := by decide +kernel
theorem dX8_apart_23 : decode cX8_apart 23 = .ok (.iload_n 1, 1) := by decide +kernel
theorem dX8_apart_24 : decode cX8_apart 24 = .ok (.iaload, 1) := by decide +kernel
theorem dX8_apart_25 : decode cX8_apart 25 = .ok (.aload_n 0, 1) := by decide +kernel
theorem dX8_apart_26 : decode cX8_apart 26 = .ok (.getfield 18, 3) := by decide +kernel
theorem dX8_apart_29 : decode cX8_apart 29 = .ok (.iload_n 2, 1) := by decide +kernel
theorem dX8_apart_30 : decode cX8_apart 30 = .ok (.iaload, 1) := by decide +kernel
theorem dX8_apart_31 : decode cX8_apart 31 = .ok (.isub, 1) := by decide +kernel
theorem dX8_apart_32 : decode cX8_apart 32 = .ok (.invokestatic 112, 3) := by decide +kernel
theorem dX8_apart_35 : decode cX8_apart 35 = .ok (.aload_n 0, 1) := by decide +kernel
theorem dX8_apart_36 : decode cX8_apart 36 = .ok (.getfield 22, 3) := by decide +kernel
theorem dX8_apart_39 : decode cX8_apart 39 = .ok (.iload_n 1, 1) := by decide +kernel
theorem dX8_apart_40 : decode cX8_apart 40 = .ok (.iaload, 1) := by decide +kernel
theorem dX8_apart_41 : decode cX8_apart 41 = .ok (.aload_n 0, 1) := by decide +kernel
theorem dX8_apart_42 : decode cX8_apart 42 = .ok (.getfield 22, 3) := by decide +kernel
theorem dX8_apart_45 : decode cX8_apart 45 = .ok (.iload_n 2, 1) := by decide +kernel
theorem dX8_apart_46 : decode cX8_apart 46 = .ok (.iaload, 1) := by decide +kernel
theorem dX8_apart_47 : decode cX8_apart 47 = .ok (.isub, 1) := by decide +kernel
theorem dX8_apart_48 : decode cX8_apart 48 = .ok (.invokestatic 112, 3) := by decide +kernel
theorem dX8_apart_51 : decode cX8_apart 51 = .ok (.invokestatic 83, 3) := by decide +kernel
theorem dX8_apart_54 : decode cX8_apart 54 = .ok (.ireturn, 1) := by decide +kernel
theorem dX9_init_0 : decode cX9_init 0 = .ok (.aload_n 0, 1) := by decide +kernel
theorem dX9_init_1 : decode cX9_init 1 = .ok (.invokespecial 3, 3) := by decide +kernel
theorem dX9_init_4 : decode cX9_init 4 = .ok (.aload_n 0, 1) := by decide +kernel
theorem dX9_init_5 : decode cX9_init 5 = .ok (.bipush 31, 2) := by decide +kernel
theorem dX9_init_7 : decode cX9_init 7 = .ok (.newarray .int, 2) := by decide +kernel
theorem dX9_init_9 : decode cX9_init 9 = .ok (.putfield 9, 3) := by decide +kernel
theorem dX9_init_12 : decode cX9_init 12 = .ok (.aload_n 0, 1) := by decide +kernel
theorem dX9_init_13 : decode cX9_init 13 = .ok (.bipush 30, 2) := by decide +kernel
theorem dX9_init_15 : decode cX9_init 15 = .ok (.newarray .int, 2) := by decide +kernel
theorem dX9_init_17 : decode cX9_init 17 = .ok (.putfield 15, 3) := by decide +kernel
theorem dX9_init_20 : decode cX9_init 20 = .ok (.return_, 1) := by decide +kernel
theorem dX9_length_0 : decode cX9_length 0 = .ok (.aload_n 0, 1) := by decide +kernel
theorem dX9_length_1 : decode cX9_length 1 = .ok (.getfield 18, 3) := by decide +kernel
theorem dX9_length_4 : decode cX9_length 4 = .ok (.aload_n 0, 1) := by decide +kernel
theorem dX9_length_5 : decode cX9_length 5 = .ok (.getfield 22, 3) := by decide +kernel
theorem dX9_length_8 : decode cX9_length 8 = .ok (.isub, 1) := by decide +kernel
theorem dX9_length_9 : decode cX9_length 9 = .ok (.ireturn, 1) := by decide +kernel
theorem dX9_cellAt_0 : decode cX9_cellAt 0 = .ok (.iload_n 1, 1) := by decide +kernel
theorem dX9_cellAt_1 : decode cX9_cellAt 1 = .ok (.aload_n 0, 1) := by decide +kernel
theorem dX9_cellAt_2 : decode cX9_cellAt 2 = .ok (.getfield 22, 3) := by decide +kernel
theorem dX9_cellAt_5 : decode cX9_cellAt 5 = .ok (.isub, 1) := by decide +kernel
theorem dX9_cellAt_6 : decode cX9_cellAt 6 = .ok (.istore_n 2, 1) := by decide +kernel
theorem dX9_cellAt_7 : decode cX9_cellAt 7 = .ok (.iload_n 1, 1) := by decide +kernel
theorem dX9_cellAt_8 : decode cX9_cellAt 8 = .ok (.aload_n 0, 1) := by decide +kernel
theorem dX9_cellAt_9 : decode cX9_cellAt 9 = .ok (.getfield 18, 3) := by decide +kernel
theorem dX9_cellAt_12 : decode cX9_cellAt 12 = .ok (.if_icmp .gt 25, 3) := by decide +kernel
theorem dX9_cellAt_15 : decode cX9_cellAt 15 = .ok (.iload_n 2, 1) := by decide +kernel
theorem dX9_cellAt_16 : decode cX9_cellAt 16 = .ok (.ifCond .lt 21, 3) := by decide +kernel
theorem dX9_cellAt_19 : decode cX9_cellAt 19 = .ok (.iload_n 2, 1) := by decide +kernel
theorem dX9_cellAt_20 : decode cX9_cellAt 20 = .ok (.aload_n 0, 1) := by decide +kernel
theorem dX9_cellAt_21 : decode cX9_cellAt 21 = .ok (.getfield 9, 3) := by decide +kernel
theorem dX9_cellAt_24 : decode cX9_cellAt 24 = .ok (.arraylength, 1) := by decide +kernel
theorem dX9_cellAt_25 : decode cX9_cellAt 25 = .ok (.if_icmp .ge 12, 3) := by decide +kernel
theorem dX9_cellAt_28 : decode cX9_cellAt 28 = .ok (.aload_n 0, 1) := by decide +kernel
theorem dX9_cellAt_29 : decode cX9_cellAt 29 = .ok (.getfield 9, 3) := by decide +kernel
theorem dX9_cellAt_32 : decode cX9_cellAt 32 = .ok (.iload_n 2, 1) := by decide +kernel
theorem dX9_cellAt_33 : decode cX9_cellAt 33 = .ok (.iaload, 1) := by decide +kernel
theorem dX9_cellAt_34 : decode cX9_cellAt 34 = .ok (.goto 4, 3) := by decide +kernel
theorem dX9_cellAt_37 : decode cX9_cellAt 37 = .ok (.iconst (-1), 1) := by decide +kernel
theorem dX9_cellAt_38 : decode cX9_cellAt 38 = .ok (.ireturn, 1) := by decide +kernel
theorem dX9_stepAt_0 : decode cX9_stepAt 0 = .ok (.iload_n 1, 1) := by decide +kernel
theorem dX9_stepAt_1 : decode cX9_stepAt 1 = .ok (.aload_n 0, 1) := by decide +kernel
theorem dX9_stepAt_2 : decode cX9_stepAt 2 = .ok (.getfield 22, 3) := by decide +kernel
theorem dX9_stepAt_5 : decode cX9_stepAt 5 = .ok (.isub, 1) := by decide +kernel
theorem dX9_stepAt_6 : decode cX9_stepAt 6 = .ok (.istore_n 2, 1) := by decide +kernel
theorem dX9_stepAt_7 : decode cX9_stepAt 7 = .ok (.iload_n 1, 1) := by decide +kernel
theorem dX9_stepAt_8 : decode cX9_stepAt 8 = .ok (.aload_n 0, 1) := by decide +kernel
theorem dX9_stepAt_9 : decode cX9_stepAt 9 = .ok (.getfield 18, 3) := by decide +kernel
theorem dX9_stepAt_12 : decode cX9_stepAt 12 = .ok (.if_icmp .ge 25, 3) := by decide +kernel
theorem dX9_stepAt_15 : decode cX9_stepAt 15 = .ok (.iload_n 2, 1) := by decide +kernel
theorem dX9_stepAt_16 : decode cX9_stepAt 16 = .ok (.ifCond .lt 21, 3) := by decide +kernel
theorem dX9_stepAt_19 : decode cX9_stepAt 19 = .ok (.iload_n 2, 1) := by decide +kernel
theorem dX9_stepAt_20 : decode cX9_stepAt 20 = .ok (.aload_n 0, 1) := by decide +kernel
theorem dX9_stepAt_21 : decode cX9_stepAt 21 = .ok (.getfield 15, 3) := by decide +kernel
theorem dX9_stepAt_24 : decode cX9_stepAt 24 = .ok (.arraylength, 1) := by decide +kernel
theorem dX9_stepAt_25 : decode cX9_stepAt 25 = .ok (.if_icmp .ge 12, 3) := by decide +kernel
theorem dX9_stepAt_28 : decode cX9_stepAt 28 = .ok (.aload_n 0, 1) := by decide +kernel
theorem dX9_stepAt_29 : decode cX9_stepAt 29 = .ok (.getfield 15, 3) := by decide +kernel
theorem dX9_stepAt_32 : decode cX9_stepAt 32 = .ok (.iload_n 2, 1) := by decide +kernel
theorem dX9_stepAt_33 : decode cX9_stepAt 33 = .ok (.iaload, 1) := by decide +kernel
theorem dX9_stepAt_34 : decode cX9_stepAt 34 = .ok (.goto 4, 3) := by decide +kernel
theorem dX9_stepAt_37 : decode cX9_stepAt 37 = .ok (.iconst 4, 1) := by decide +kernel
theorem dX9_stepAt_38 : decode cX9_stepAt 38 = .ok (.ireturn, 1) := by decide +kernel
theorem dX9_begin_0 : decode cX9_begin 0 = .ok (.aload_n 0, 1) := by decide +kernel
theorem dX9_begin_1 : decode cX9_begin 1 = .ok (.iload_n 1, 1) := by decide +kernel
theorem dX9_begin_2 : decode cX9_begin 2 = .ok (.putfield 22, 3) := by decide +kernel
theorem dX9_begin_5 : decode cX9_begin 5 = .ok (.aload_n 0, 1) := by decide +kernel
theorem dX9_begin_6 : decode cX9_begin 6 = .ok (.iload_n 1, 1) := by decide +kernel
theorem dX9_begin_7 : decode cX9_begin 7 = .ok (.putfield 18, 3) := by decide +kernel
theorem dX9_begin_10 : decode cX9_begin 10 = .ok (.aload_n 0, 1) := by decide +kernel
theorem dX9_begin_11 : decode cX9_begin 11 = .ok (.getfield 9, 3) := by decide +kernel
theorem dX9_begin_14 : decode cX9_begin 14 = .ok (.iconst 0, 1) := by decide +kernel
theorem dX9_begin_15 : decode cX9_begin 15 = .ok (.iload_n 2, 1) := by decide +kernel
theorem dX9_begin_16 : decode cX9_begin 16 = .ok (.iastore, 1) := by decide +kernel
theorem dX9_begin_17 : decode cX9_begin 17 = .ok (.return_, 1) := by decide +kernel
theorem dX9_goOn_0 : decode cX9_goOn 0 = .ok (.aload_n 0, 1) := by decide +kernel
theorem dX9_goOn_1 : decode cX9_goOn 1 = .ok (.invokevirtual 25, 3) := by decide +kernel
theorem dX9_goOn_4 : decode cX9_goOn 4 = .ok (.istore_n 3, 1) := by decide +kernel
theorem dX9_goOn_5 : decode cX9_goOn 5 = .ok (.iload_n 3, 1) := by decide +kernel
theorem dX9_goOn_6 : decode cX9_goOn 6 = .ok (.ifCond .lt 38, 3) := by decide +kernel
theorem dX9_goOn_9 : decode cX9_goOn 9 = .ok (.iload_n 3, 1) := by decide +kernel
theorem dX9_goOn_10 : decode cX9_goOn 10 = .ok (.aload_n 0, 1) := by decide +kernel
theorem dX9_goOn_11 : decode cX9_goOn 11 = .ok (.getfield 15, 3) := by decide +kernel
theorem dX9_goOn_14 : decode cX9_goOn 14 = .ok (.arraylength, 1) := by decide +kernel
theorem dX9_goOn_15 : decode cX9_goOn 15 = .ok (.if_icmp .ge 29, 3) := by decide +kernel
theorem dX9_goOn_18 : decode cX9_goOn 18 = .ok (.aload_n 0, 1) := by decide +kernel
theorem dX9_goOn_19 : decode cX9_goOn 19 = .ok (.getfield 15, 3) := by decide +kernel
theorem dX9_goOn_22 : decode cX9_goOn 22 = .ok (.iload_n 3, 1) := by decide +kernel
theorem dX9_goOn_23 : decode cX9_goOn 23 = .ok (.iload_n 1, 1) := by decide +kernel
theorem dX9_goOn_24 : decode cX9_goOn 24 = .ok (.iastore, 1) := by decide +kernel
theorem dX9_goOn_25 : decode cX9_goOn 25 = .ok (.aload_n 0, 1) := by decide +kernel
theorem dX9_goOn_26 : decode cX9_goOn 26 = .ok (.getfield 9, 3) := by decide +kernel
theorem dX9_goOn_29 : decode cX9_goOn 29 = .ok (.iload_n 3, 1) := by decide +kernel
theorem dX9_goOn_30 : decode cX9_goOn 30 = .ok (.iconst 1, 1) := by decide +kernel
theorem dX9_goOn_31 : decode cX9_goOn 31 = .ok (.iadd, 1) := by decide +kernel
theorem dX9_goOn_32 : decode cX9_goOn 32 = .ok (.iload_n 2, 1) := by decide +kernel
theorem dX9_goOn_33 : decode cX9_goOn 33 = .ok (.iastore, 1) := by decide +kernel
theorem dX9_goOn_34 : decode cX9_goOn 34 = .ok (.aload_n 0, 1) := by decide +kernel
theorem dX9_goOn_35 : decode cX9_goOn 35 = .ok (.dup, 1) := by decide +kernel
theorem dX9_goOn_36 : decode cX9_goOn 36 = .ok (.getfield 18, 3) := by decide +kernel
theorem dX9_goOn_39 : decode cX9_goOn 39 = .ok (.iconst 1, 1) := by decide +kernel
theorem dX9_goOn_40 : decode cX9_goOn 40 = .ok (.iadd, 1) := by decide +kernel
theorem dX9_goOn_41 : decode cX9_goOn 41 = .ok (.putfield 18, 3) := by decide +kernel
theorem dX9_goOn_44 : decode cX9_goOn 44 = .ok (.return_, 1) := by decide +kernel
theorem dX9_tell_0 : decode cX9_tell 0 = .ok (.iload_n 1, 1) := by decide +kernel
theorem dX9_tell_1 : decode cX9_tell 1 = .ok (.ifCond .ne 8, 3) := by decide +kernel
theorem dX9_tell_4 : decode cX9_tell 4 = .ok (.aload_n 0, 1) := by decide +kernel
theorem dX9_tell_5 : decode cX9_tell 5 = .ok (.getfield 22, 3) := by decide +kernel
theorem dX9_tell_8 : decode cX9_tell 8 = .ok (.ireturn, 1) := by decide +kernel
theorem dX9_tell_9 : decode cX9_tell 9 = .ok (.iload_n 2, 1) := by decide +kernel
theorem dX9_tell_10 : decode cX9_tell 10 = .ok (.ifCond .lt 29, 3) := by decide +kernel
theorem dX9_tell_13 : decode cX9_tell 13 = .ok (.iload_n 2, 1) := by decide +kernel
theorem dX9_tell_14 : decode cX9_tell 14 = .ok (.aload_n 0, 1) := by decide +kernel
theorem dX9_tell_15 : decode cX9_tell 15 = .ok (.invokevirtual 25, 3) := by decide +kernel
theorem dX9_tell_18 : decode cX9_tell 18 = .ok (.if_icmp .ge 21, 3) := by decide +kernel
theorem dX9_tell_21 : decode cX9_tell 21 = .ok (.iload_n 2, 1) := by decide +kernel
theorem dX9_tell_22 : decode cX9_tell 22 = .ok (.aload_n 0, 1) := by decide +kernel
theorem dX9_tell_23 : decode cX9_tell 23 = .ok (.getfield 15, 3) := by decide +kernel
theorem dX9_tell_26 : decode cX9_tell 26 = .ok (.arraylength, 1) := by decide +kernel
theorem dX9_tell_27 : decode cX9_tell 27 = .ok (.if_icmp .ge 12, 3) := by decide +kernel
theorem dX9_tell_30 : decode cX9_tell 30 = .ok (.aload_n 0, 1) := by decide +kernel
theorem dX9_tell_31 : decode cX9_tell 31 = .ok (.getfield 15, 3) := by decide +kernel
theorem dX9_tell_34 : decode cX9_tell 34 = .ok (.iload_n 2, 1) := by decide +kernel
theorem dX9_tell_35 : decode cX9_tell 35 = .ok (.iaload, 1) := by decide +kernel
theorem dX9_tell_36 : decode cX9_tell 36 = .ok (.goto 5, 3) := by decide +kernel
theorem dX9_tell_39 : decode cX9_tell 39 = .ok (.ldc 29, 2) := by decide +kernel
theorem dX9_tell_41 : decode cX9_tell 41 = .ok (.ireturn, 1) := by decide +kernel
theorem dX10_init_0 : decode cX10_init 0 = .ok (.aload_n 0, 1) := by decide +kernel
theorem dX10_init_1 : decode cX10_init 1 = .ok (.invokespecial 1, 3) := by decide +kernel
theorem dX10_init_4 : decode cX10_init 4 = .ok (.aload_n 0, 1) := by decide +kernel
theorem dX10_init_5 : decode cX10_init 5 = .ok (.new 7, 3) := by decide +kernel
theorem dX10_init_8 : decode cX10_init 8 = .ok (.dup, 1) := by decide +kernel
theorem dX10_init_9 : decode cX10_init 9 = .ok (.invokespecial 9, 3) := by decide +kernel
theorem dX10_init_12 : decode cX10_init 12 = .ok (.putfield 10, 3) := by decide +kernel
theorem dX10_init_15 : decode cX10_init 15 = .ok (.aload_n 0, 1) := by decide +kernel
theorem dX10_init_16 : decode cX10_init 16 = .ok (.new 16, 3) := by decide +kernel
theorem dX10_init_19 : decode cX10_init 19 = .ok (.dup, 1) := by decide +kernel
theorem dX10_init_20 : decode cX10_init 20 = .ok (.invokespecial 18, 3) := by decide +kernel
theorem dX10_init_23 : decode cX10_init 23 = .ok (.putfield 19, 3) := by decide +kernel
theorem dX10_init_26 : decode cX10_init 26 = .ok (.aload_n 0, 1) := by decide +kernel
theorem dX10_init_27 : decode cX10_init 27 = .ok (.new 23, 3) := by decide +kernel
theorem dX10_init_30 : decode cX10_init 30 = .ok (.dup, 1) := by decide +kernel
theorem dX10_init_31 : decode cX10_init 31 = .ok (.aload_n 0, 1) := by decide +kernel
theorem dX10_init_32 : decode cX10_init 32 = .ok (.getfield 10, 3) := by decide +kernel
theorem dX10_init_35 : decode cX10_init 35 = .ok (.aload_n 0, 1) := by decide +kernel
theorem dX10_init_36 : decode cX10_init 36 = .ok (.getfield 19, 3) := by decide +kernel
theorem dX10_init_39 : decode cX10_init 39 = .ok (.invokespecial 25, 3) := by decide +kernel
theorem dX10_init_42 : decode cX10_init 42 = .ok (.putfield 28, 3) := by decide +kernel
theorem dX10_init_45 : decode cX10_init 45 = .ok (.aload_n 0, 1) := by decide +kernel
theorem dX10_init_46 : decode cX10_init 46 = .ok (.new 32, 3) := by decide +kernel
theorem dX10_init_49 : decode cX10_init 49 = .ok (.dup, 1) := by decide +kernel
theorem dX10_init_50 : decode cX10_init 50 = .ok (.aload_n 0, 1) := by decide +kernel
theorem dX10_init_51 : decode cX10_init 51 = .ok (.getfield 10, 3) := by decide +kernel
theorem dX10_init_54 : decode cX10_init 54 = .ok (.aload_n 0, 1) := by decide +kernel
theorem dX10_init_55 : decode cX10_init 55 = .ok (.getfield 19, 3) := by decide +kernel
theorem dX10_init_58 : decode cX10_init 58 = .ok (.invokespecial 34, 3) := by decide +kernel
theorem dX10_init_61 : decode cX10_init 61 = .ok (.putfield 35, 3) := by decide +kernel
theorem dX10_init_64 : decode cX10_init 64 = .ok (.aload_n 0, 1) := by decide +kernel
theorem dX10_init_65 : decode cX10_init 65 = .ok (.new 39, 3) := by decide +kernel
theorem dX10_init_68 : decode cX10_init 68 = .ok (.dup, 1) := by decide +kernel
theorem dX10_init_69 : decode cX10_init 69 = .ok (.aload_n 0, 1) := by decide +kernel
theorem dX10_init_70 : decode cX10_init 70 = .ok (.getfield 10, 3) := by decide +kernel
theorem dX10_init_73 : decode cX10_init 73 = .ok (.aload_n 0, 1) := by decide +kernel
theorem dX10_init_74 : decode cX10_init 74 = .ok (.getfield 35, 3) := by decide +kernel
theorem dX10_init_77 : decode cX10_init 77 = .ok (.aload_n 0, 1) := by decide +kernel
theorem dX10_init_78 : decode cX10_init 78 = .ok (.getfield 28, 3) := by decide +kernel
theorem dX10_init_81 : decode cX10_init 81 = .ok (.invokespecial 41, 3) := by decide +kernel
theorem dX10_init_84 : decode cX10_init 84 = .ok (.putfield 44, 3) := by decide +kernel
theorem dX10_init_87 : decode cX10_init 87 = .ok (.aload_n 0, 1) := by decide +kernel
theorem dX10_init_88 : decode cX10_init 88 = .ok (.new 48, 3) := by decide +kernel
theorem dX10_init_91 : decode cX10_init 91 = .ok (.dup, 1) := by decide +kernel
theorem dX10_init_92 : decode cX10_init 92 = .ok (.aload_n 0, 1) := by decide +kernel
theorem dX10_init_93 : decode cX10_init 93 = .ok (.getfield 19, 3) := by decide +kernel
theorem dX10_init_96 : decode cX10_init 96 = .ok (.aload_n 0, 1) := by decide +kernel
theorem dX10_init_97 : decode cX10_init 97 = .ok (.getfield 35, 3) := by decide +kernel
theorem dX10_init_100 : decode cX10_init 100 = .ok (.invokespecial 50, 3) := by decide +kernel
theorem dX10_init_103 : decode cX10_init 103 = .ok (.putfield 53, 3) := by decide +kernel
theorem dX10_init_106 : decode cX10_init 106 = .ok (.aload_n 0, 1) := by decide +kernel
theorem dX10_init_107 : decode cX10_init 107 = .ok (.new 57, 3) := by decide +kernel
theorem dX10_init_110 : decode cX10_init 110 = .ok (.dup, 1) := by decide +kernel
theorem dX10_init_111 : decode cX10_init 111 = .ok (.aload_n 0, 1) := by decide +kernel
theorem dX10_init_112 : decode cX10_init 112 = .ok (.getfield 19, 3) := by decide +kernel
theorem dX10_init_115 : decode cX10_init 115 = .ok (.aload_n 0, 1) := by decide +kernel
theorem dX10_init_116 : decode cX10_init 116 = .ok (.getfield 35, 3) := by decide +kernel
theorem dX10_init_119 : decode cX10_init 119 = .ok (.invokespecial 59, 3) := by decide +kernel
theorem dX10_init_122 : decode cX10_init 122 = .ok (.putfield 60, 3) := by decide +kernel
theorem dX10_init_125 : decode cX10_init 125 = .ok (.aload_n 0, 1) := by decide +kernel
theorem dX10_init_126 : decode cX10_init 126 = .ok (.new 64, 3) := by decide +kernel
theorem dX10_init_129 : decode cX10_init 129 = .ok (.dup, 1) := by decide +kernel
theorem dX10_init_130 : decode cX10_init 130 = .ok (.aload_n 0, 1) := by decide +kernel
theorem dX10_init_131 : decode cX10_init 131 = .ok (.getfield 10, 3) := by decide +kernel
theorem dX10_init_134 : decode cX10_init 134 = .ok (.aload_n 0, 1) := by decide +kernel
theorem dX10_init_135 : decode cX10_init 135 = .ok (.getfield 19, 3) := by decide +kernel
theorem dX10_init_138 : decode cX10_init 138 = .ok (.invokespecial 66, 3) := by decide +kernel
theorem dX10_init_141 : decode cX10_init 141 = .ok (.putfield 67, 3) := by decide +kernel
theorem dX10_init_144 : decode cX10_init 144 = .ok (.return_, 1) := by decide +kernel
theorem dX10_air_0 : decode cX10_air 0 = .ok (.iload_n 1, 1) := by decide +kernel
theorem dX10_air_1 : decode cX10_air 1 = .ok (.iconst 2, 1) := by decide +kernel
theorem dX10_air_2 : decode cX10_air 2 = .ok (.bipush 6, 2) := by decide +kernel
theorem dX10_air_4 : decode cX10_air 4 = .ok (.invokestatic 71, 3) := by decide +kernel
theorem dX10_air_7 : decode cX10_air 7 = .ok (.ifCond .eq 13, 3) := by decide +kernel
theorem dX10_air_10 : decode cX10_air 10 = .ok (.iload_n 2, 1) := by decide +kernel
theorem dX10_air_11 : decode cX10_air 11 = .ok (.iconst 2, 1) := by decide +kernel
theorem dX10_air_12 : decode cX10_air 12 = .ok (.bipush 6, 2) := by decide +kernel
theorem dX10_air_14 : decode cX10_air 14 = .ok (.invokestatic 71, 3) := by decide +kernel
theorem dX10_air_17 : decode cX10_air 17 = .ok (.ifCond .ne 6, 3) := by decide +kernel
theorem dX10_air_20 : decode cX10_air 20 = .ok (.ldc 75, 2) := by decide +kernel
theorem dX10_air_22 : decode cX10_air 22 = .ok (.ireturn, 1) := by decide +kernel
theorem dX10_air_23 : decode cX10_air 23 = .ok (.aload_n 0, 1) := by decide +kernel
theorem dX10_air_24 : decode cX10_air 24 = .ok (.getfield 10, 3) := by decide +kernel
theorem dX10_air_27 : decode cX10_air 27 = .ok (.iload_n 1, 1) := by decide +kernel
theorem dX10_air_28 : decode cX10_air 28 = .ok (.iload_n 2, 1) := by decide +kernel
theorem dX10_air_29 : decode cX10_air 29 = .ok (.invokevirtual 76, 3) := by decide +kernel
theorem dX10_air_32 : decode cX10_air 32 = .ok (.aload_n 0, 1) := by decide +kernel
theorem dX10_air_33 : decode cX10_air 33 = .ok (.getfield 19, 3) := by decide +kernel
theorem dX10_air_36 : decode cX10_air 36 = .ok (.iconst 0, 1) := by decide +kernel
theorem dX10_air_37 : decode cX10_air 37 = .ok (.putfield 80, 3) := by decide +kernel
theorem dX10_air_40 : decode cX10_air 40 = .ok (.aload_n 0, 1) := by decide +kernel
theorem dX10_air_41 : decode cX10_air 41 = .ok (.getfield 28, 3) := by decide +kernel
theorem dX10_air_44 : decode cX10_air 44 = .ok (.invokevirtual 84, 3) := by decide +kernel
theorem dX10_air_47 : decode cX10_air 47 = .ok (.aload_n 0, 1) := by decide +kernel
theorem dX10_air_48 : decode cX10_air 48 = .ok (.getfield 67, 3) := by decide +kernel
theorem dX10_air_51 : decode cX10_air 51 = .ok (.iconst 0, 1) := by decide +kernel
theorem dX10_air_52 : decode cX10_air 52 = .ok (.putfield 87, 3) := by decide +kernel
theorem dX10_air_55 : decode cX10_air 55 = .ok (.aload_n 0, 1) := by decide +kernel
theorem dX10_air_56 : decode cX10_air 56 = .ok (.getfield 10, 3) := by decide +kernel
theorem dX10_air_59 : decode cX10_air 59 = .ok (.getfield 91, 3) := by decide +kernel
theorem dX10_air_62 : decode cX10_air 62 = .ok (.ireturn, 1) := by decide +kernel
theorem dX10_shut_0 : decode cX10_shut 0 = .ok (.aload_n 0, 1) := by decide +kernel
theorem dX10_shut_1 : decode cX10_shut 1 = .ok (.iload_n 1, 1) := by decide +kernel
theorem dX10_shut_2 : decode cX10_shut 2 = .ok (.iload_n 2, 1) := by decide +kernel
theorem dX10_shut_3 : decode cX10_shut 3 = .ok (.iload_n 3, 1) := by decide +kernel
theorem dX10_shut_4 : decode cX10_shut 4 = .ok (.aload_n 0, 1) := by decide +kernel
theorem dX10_shut_5 : decode cX10_shut 5 = .ok (.getfield 10, 3) := by decide +kernel
theorem dX10_shut_8 : decode cX10_shut 8 = .ok (.getfield 94, 3) := by decide +kernel
theorem dX10_shut_11 : decode cX10_shut 11 = .ok (.invokevirtual 97, 3) := by decide +kernel
theorem dX10_shut_14 : decode cX10_shut 14 = .ok (.istore 4, 2) := by decide +kernel
theorem dX10_shut_16 : decode cX10_shut 16 = .ok (.iload 4, 2) := by decide +kernel
theorem dX10_shut_18 : decode cX10_shut 18 = .ok (.ifCond .ne 16, 3) := by decide +kernel
theorem dX10_shut_21 : decode cX10_shut 21 = .ok (.aload_n 0, 1) := by decide +kernel
theorem dX10_shut_22 : decode cX10_shut 22 = .ok (.getfield 10, 3) := by decide +kernel
theorem dX10_shut_25 : decode cX10_shut 25 = .ok (.iload_n 1, 1) := by decide +kernel
theorem dX10_shut_26 : decode cX10_shut 26 = .ok (.iload_n 2, 1) := by decide +kernel
theorem dX10_shut_27 : decode cX10_shut 27 = .ok (.iload_n 3, 1) := by decide +kernel
theorem dX10_shut_28 : decode cX10_shut 28 = .ok (.invokevirtual 101, 3) := by decide +kernel
theorem dX10_shut_31 : decode cX10_shut 31 = .ok (.goto 5, 3) := by decide +kernel
theorem dX10_shut_34 : decode cX10_shut 34 = .ok (.iload 4, 2) := by decide +kernel
theorem dX10_shut_36 : decode cX10_shut 36 = .ok (.ireturn, 1) := by decide +kernel
theorem dX10_folk_0 : decode cX10_folk 0 = .ok (.aload_n 0, 1) := by decide +kernel
theorem dX10_folk_1 : decode cX10_folk 1 = .ok (.iload_n 1, 1) := by decide +kernel
theorem dX10_folk_2 : decode cX10_folk 2 = .ok (.iload_n 2, 1) := by decide +kernel
theorem dX10_folk_3 : decode cX10_folk 3 = .ok (.iload_n 3, 1) := by decide +kernel
theorem dX10_folk_4 : decode cX10_folk 4 = .ok (.aload_n 0, 1) := by decide +kernel
theorem dX10_folk_5 : decode cX10_folk 5 = .ok (.getfield 10, 3) := by decide +kernel
theorem dX10_folk_8 : decode cX10_folk 8 = .ok (.getfield 105, 3) := by decide +kernel
theorem dX10_folk_11 : decode cX10_folk 11 = .ok (.invokevirtual 97, 3) := by decide +kernel

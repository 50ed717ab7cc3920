theorem dX4_keep_0 : decode cX4_keep 0 = .ok (.aload_n 0, 1) := by decide +kernel
theorem dX4_keep_1 : decode cX4_keep 1 = .ok (.iload_n 1, 1) := by decide +kernel
theorem dX4_keep_2 : decode cX4_keep 2 = .ok (.putfield 41, 3) := by decide +kernel
theorem dX4_keep_5 : decode cX4_keep 5 = .ok (.iconst 0, 1) := by decide +kernel
theorem dX4_keep_6 : decode cX4_keep 6 = .ok (.istore_n 2, 1) := by decide +kernel
theorem dX4_keep_7 : decode cX4_keep 7 = .ok (.iload_n 2, 1) := by decide +kernel
theorem dX4_keep_8 : decode cX4_keep 8 = .ok (.aload_n 0, 1) := by decide +kernel
theorem dX4_keep_9 : decode cX4_keep 9 = .ok (.getfield 29, 3) := by decide +kernel
theorem dX4_keep_12 : decode cX4_keep 12 = .ok (.if_icmp .ge 26, 3) := by decide +kernel
theorem dX4_keep_15 : decode cX4_keep 15 = .ok (.iload_n 2, 1) := by decide +kernel
theorem dX4_keep_16 : decode cX4_keep 16 = .ok (.iconst 5, 1) := by decide +kernel
theorem dX4_keep_17 : decode cX4_keep 17 = .ok (.if_icmp .ge 21, 3) := by decide +kernel
theorem dX4_keep_20 : decode cX4_keep 20 = .ok (.aload_n 0, 1) := by decide +kernel
theorem dX4_keep_21 : decode cX4_keep 21 = .ok (.getfield 15, 3) := by decide +kernel
theorem dX4_keep_24 : decode cX4_keep 24 = .ok (.iload_n 2, 1) := by decide +kernel
theorem dX4_keep_25 : decode cX4_keep 25 = .ok (.aload_n 0, 1) := by decide +kernel
theorem dX4_keep_26 : decode cX4_keep 26 = .ok (.getfield 9, 3) := by decide +kernel
theorem dX4_keep_29 : decode cX4_keep 29 = .ok (.iload_n 2, 1) := by decide +kernel
theorem dX4_keep_30 : decode cX4_keep 30 = .ok (.iaload, 1) := by decide +kernel
theorem dX4_keep_31 : decode cX4_keep 31 = .ok (.iastore, 1) := by decide +kernel
theorem dX4_keep_32 : decode cX4_keep 32 = .ok (.iinc 2 1, 3) := by decide +kernel
theorem dX4_keep_35 : decode cX4_keep 35 = .ok (.goto (-28), 3) := by decide +kernel
theorem dX4_keep_38 : decode cX4_keep 38 = .ok (.return_, 1) := by decide +kernel
theorem dX4_giveNext_0 : decode cX4_giveNext 0 = .ok (.aload_n 0, 1) := by decide +kernel
theorem dX4_giveNext_1 : decode cX4_giveNext 1 = .ok (.getfield 21, 3) := by decide +kernel
theorem dX4_giveNext_4 : decode cX4_giveNext 4 = .ok (.getfield 54, 3) := by decide +kernel
theorem dX4_giveNext_7 : decode cX4_giveNext 7 = .ok (.iload_n 1, 1) := by decide +kernel
theorem dX4_giveNext_8 : decode cX4_giveNext 8 = .ok (.aaload, 1) := by decide +kernel
theorem dX4_giveNext_9 : decode cX4_giveNext 9 = .ok (.astore_n 2, 1) := by decide +kernel
theorem dX4_giveNext_10 : decode cX4_giveNext 10 = .ok (.aload_n 2, 1) := by decide +kernel
theorem dX4_giveNext_11 : decode cX4_giveNext 11 = .ok (.aload_n 0, 1) := by decide +kernel
theorem dX4_giveNext_12 : decode cX4_giveNext 12 = .ok (.getfield 25, 3) := by decide +kernel
theorem dX4_giveNext_15 : decode cX4_giveNext 15 = .ok (.aload_n 2, 1) := by decide +kernel
theorem dX4_giveNext_16 : decode cX4_giveNext 16 = .ok (.invokevirtual 76, 3) := by decide +kernel
theorem dX4_giveNext_19 : decode cX4_giveNext 19 = .ok (.putfield 58, 3) := by decide +kernel
theorem dX4_giveNext_22 : decode cX4_giveNext 22 = .ok (.aload_n 2, 1) := by decide +kernel
theorem dX4_giveNext_23 : decode cX4_giveNext 23 = .ok (.getfield 82, 3) := by decide +kernel
theorem dX4_giveNext_26 : decode cX4_giveNext 26 = .ok (.aload_n 2, 1) := by decide +kernel
theorem dX4_giveNext_27 : decode cX4_giveNext 27 = .ok (.getfield 58, 3) := by decide +kernel
theorem dX4_giveNext_30 : decode cX4_giveNext 30 = .ok (.ifCond .eq 18, 3) := by decide +kernel
theorem dX4_giveNext_33 : decode cX4_giveNext 33 = .ok (.aload_n 2, 1) := by decide +kernel
theorem dX4_giveNext_34 : decode cX4_giveNext 34 = .ok (.getfield 85, 3) := by decide +kernel
theorem dX4_giveNext_37 : decode cX4_giveNext 37 = .ok (.getfield 89, 3) := by decide +kernel
theorem dX4_giveNext_40 : decode cX4_giveNext 40 = .ok (.aload_n 2, 1) := by decide +kernel
theorem dX4_giveNext_41 : decode cX4_giveNext 41 = .ok (.getfield 94, 3) := by decide +kernel
theorem dX4_giveNext_44 : decode cX4_giveNext 44 = .ok (.isub, 1) := by decide +kernel
theorem dX4_giveNext_45 : decode cX4_giveNext 45 = .ok (.goto 5, 3) := by decide +kernel
theorem dX4_giveNext_48 : decode cX4_giveNext 48 = .ok (.bipush 100, 2) := by decide +kernel
theorem dX4_giveNext_50 : decode cX4_giveNext 50 = .ok (.imul, 1) := by decide +kernel
theorem dX4_giveNext_51 : decode cX4_giveNext 51 = .ok (.ireturn, 1) := by decide +kernel
theorem dX4_carryOut_0 : decode cX4_carryOut 0 = .ok (.iconst 0, 1) := by decide +kernel
theorem dX4_carryOut_1 : decode cX4_carryOut 1 = .ok (.istore_n 1, 1) := by decide +kernel
theorem dX4_carryOut_2 : decode cX4_carryOut 2 = .ok (.iconst 0, 1) := by decide +kernel
theorem dX4_carryOut_3 : decode cX4_carryOut 3 = .ok (.istore_n 2, 1) := by decide +kernel
theorem dX4_carryOut_4 : decode cX4_carryOut 4 = .ok (.iload_n 2, 1) := by decide +kernel
theorem dX4_carryOut_5 : decode cX4_carryOut 5 = .ok (.aload_n 0, 1) := by decide +kernel
theorem dX4_carryOut_6 : decode cX4_carryOut 6 = .ok (.getfield 29, 3) := by decide +kernel
theorem dX4_carryOut_9 : decode cX4_carryOut 9 = .ok (.if_icmp .ge 48, 3) := by decide +kernel
theorem dX4_carryOut_12 : decode cX4_carryOut 12 = .ok (.iload_n 2, 1) := by decide +kernel
theorem dX4_carryOut_13 : decode cX4_carryOut 13 = .ok (.iconst 5, 1) := by decide +kernel
theorem dX4_carryOut_14 : decode cX4_carryOut 14 = .ok (.if_icmp .ge 43, 3) := by decide +kernel
theorem dX4_carryOut_17 : decode cX4_carryOut 17 = .ok (.aload_n 0, 1) := by decide +kernel
theorem dX4_carryOut_18 : decode cX4_carryOut 18 = .ok (.aload_n 0, 1) := by decide +kernel
theorem dX4_carryOut_19 : decode cX4_carryOut 19 = .ok (.getfield 15, 3) := by decide +kernel
theorem dX4_carryOut_22 : decode cX4_carryOut 22 = .ok (.iload_n 2, 1) := by decide +kernel
theorem dX4_carryOut_23 : decode cX4_carryOut 23 = .ok (.iaload, 1) := by decide +kernel
theorem dX4_carryOut_24 : decode cX4_carryOut 24 = .ok (.invokevirtual 51, 3) := by decide +kernel
theorem dX4_carryOut_27 : decode cX4_carryOut 27 = .ok (.pop, 1) := by decide +kernel
theorem dX4_carryOut_28 : decode cX4_carryOut 28 = .ok (.aload_n 0, 1) := by decide +kernel
theorem dX4_carryOut_29 : decode cX4_carryOut 29 = .ok (.getfield 21, 3) := by decide +kernel
theorem dX4_carryOut_32 : decode cX4_carryOut 32 = .ok (.getfield 54, 3) := by decide +kernel
theorem dX4_carryOut_35 : decode cX4_carryOut 35 = .ok (.aload_n 0, 1) := by decide +kernel
theorem dX4_carryOut_36 : decode cX4_carryOut 36 = .ok (.getfield 15, 3) := by decide +kernel
theorem dX4_carryOut_39 : decode cX4_carryOut 39 = .ok (.iload_n 2, 1) := by decide +kernel
theorem dX4_carryOut_40 : decode cX4_carryOut 40 = .ok (.iaload, 1) := by decide +kernel
theorem dX4_carryOut_41 : decode cX4_carryOut 41 = .ok (.aaload, 1) := by decide +kernel
theorem dX4_carryOut_42 : decode cX4_carryOut 42 = .ok (.getfield 58, 3) := by decide +kernel
theorem dX4_carryOut_45 : decode cX4_carryOut 45 = .ok (.ifCond .eq 6, 3) := by decide +kernel
theorem dX4_carryOut_48 : decode cX4_carryOut 48 = .ok (.iinc 1 1, 3) := by decide +kernel
theorem dX4_carryOut_51 : decode cX4_carryOut 51 = .ok (.iinc 2 1, 3) := by decide +kernel
theorem dX4_carryOut_54 : decode cX4_carryOut 54 = .ok (.goto (-50), 3) := by decide +kernel
theorem dX4_carryOut_57 : decode cX4_carryOut 57 = .ok (.iload_n 1, 1) := by decide +kernel
theorem dX4_carryOut_58 : decode cX4_carryOut 58 = .ok (.ireturn, 1) := by decide +kernel
theorem dX5_init_0 : decode cX5_init 0 = .ok (.aload_n 0, 1) := by decide +kernel
theorem dX5_init_1 : decode cX5_init 1 = .ok (.invokespecial 3, 3) := by decide +kernel
theorem dX5_init_4 : decode cX5_init 4 = .ok (.aload_n 0, 1) := by decide +kernel
theorem dX5_init_5 : decode cX5_init 5 = .ok (.bipush 36, 2) := by decide +kernel
theorem dX5_init_7 : decode cX5_init 7 = .ok (.newarray .int, 2) := by decide +kernel
theorem dX5_init_9 : decode cX5_init 9 = .ok (.putfield 9, 3) := by decide +kernel
theorem dX5_init_12 : decode cX5_init 12 = .ok (.aload_n 0, 1) := by decide +kernel
theorem dX5_init_13 : decode cX5_init 13 = .ok (.aload_n 1, 1) := by decide +kernel
theorem dX5_init_14 : decode cX5_init 14 = .ok (.putfield 15, 3) := by decide +kernel
theorem dX5_init_17 : decode cX5_init 17 = .ok (.aload_n 0, 1) := by decide +kernel
theorem dX5_init_18 : decode cX5_init 18 = .ok (.aload_n 2, 1) := by decide +kernel
theorem dX5_init_19 : decode cX5_init 19 = .ok (.putfield 19, 3) := by decide +kernel
theorem dX5_init_22 : decode cX5_init 22 = .ok (.return_, 1) := by decide +kernel
theorem dX5_silence_0 : decode cX5_silence 0 = .ok (.iconst 0, 1) := by decide +kernel
theorem dX5_silence_1 : decode cX5_silence 1 = .ok (.istore_n 1, 1) := by decide +kernel
theorem dX5_silence_2 : decode cX5_silence 2 = .ok (.iload_n 1, 1) := by decide +kernel
theorem dX5_silence_3 : decode cX5_silence 3 = .ok (.bipush 36, 2) := by decide +kernel
theorem dX5_silence_5 : decode cX5_silence 5 = .ok (.if_icmp .ge 16, 3) := by decide +kernel
theorem dX5_silence_8 : decode cX5_silence 8 = .ok (.aload_n 0, 1) := by decide +kernel
theorem dX5_silence_9 : decode cX5_silence 9 = .ok (.getfield 9, 3) := by decide +kernel
theorem dX5_silence_12 : decode cX5_silence 12 = .ok (.iload_n 1, 1) := by decide +kernel
theorem dX5_silence_13 : decode cX5_silence 13 = .ok (.iconst 0, 1) := by decide +kernel
theorem dX5_silence_14 : decode cX5_silence 14 = .ok (.iastore, 1) := by decide +kernel
theorem dX5_silence_15 : decode cX5_silence 15 = .ok (.iinc 1 1, 3) := by decide +kernel
theorem dX5_silence_18 : decode cX5_silence 18 = .ok (.goto (-16), 3) := by decide +kernel
theorem dX5_silence_21 : decode cX5_silence 21 = .ok (.return_, 1) := by decide +kernel
theorem dX5_listen_0 : decode cX5_listen 0 = .ok (.aload_n 0, 1) := by decide +kernel
theorem dX5_listen_1 : decode cX5_listen 1 = .ok (.getfield 9, 3) := by decide +kernel
theorem dX5_listen_4 : decode cX5_listen 4 = .ok (.iload_n 1, 1) := by decide +kernel
theorem dX5_listen_5 : decode cX5_listen 5 = .ok (.iaload, 1) := by decide +kernel
theorem dX5_listen_6 : decode cX5_listen 6 = .ok (.istore_n 3, 1) := by decide +kernel
theorem dX5_listen_7 : decode cX5_listen 7 = .ok (.aload_n 0, 1) := by decide +kernel
theorem dX5_listen_8 : decode cX5_listen 8 = .ok (.getfield 9, 3) := by decide +kernel
theorem dX5_listen_11 : decode cX5_listen 11 = .ok (.iload_n 1, 1) := by decide +kernel
theorem dX5_listen_12 : decode cX5_listen 12 = .ok (.iload_n 2, 1) := by decide +kernel
theorem dX5_listen_13 : decode cX5_listen 13 = .ok (.iastore, 1) := by decide +kernel
theorem dX5_listen_14 : decode cX5_listen 14 = .ok (.iload_n 3, 1) := by decide +kernel
theorem dX5_listen_15 : decode cX5_listen 15 = .ok (.ireturn, 1) := by decide +kernel
theorem dX5_sound_0 : decode cX5_sound 0 = .ok (.iload_n 1, 1) := by decide +kernel
theorem dX5_sound_1 : decode cX5_sound 1 = .ok (.iload_n 2, 1) := by decide +kernel
theorem dX5_sound_2 : decode cX5_sound 2 = .ok (.if_icmp .ne 5, 3) := by decide +kernel
theorem dX5_sound_5 : decode cX5_sound 5 = .ok (.iconst 4, 1) := by decide +kernel
theorem dX5_sound_6 : decode cX5_sound 6 = .ok (.ireturn, 1) := by decide +kernel
theorem dX5_sound_7 : decode cX5_sound 7 = .ok (.aload_n 0, 1) := by decide +kernel
theorem dX5_sound_8 : decode cX5_sound 8 = .ok (.getfield 15, 3) := by decide +kernel
theorem dX5_sound_11 : decode cX5_sound 11 = .ok (.iload_n 1, 1) := by decide +kernel
theorem dX5_sound_12 : decode cX5_sound 12 = .ok (.iload_n 2, 1) := by decide +kernel
theorem dX5_sound_13 : decode cX5_sound 13 = .ok (.invokevirtual 23, 3) := by decide +kernel
theorem dX5_sound_16 : decode cX5_sound 16 = .ok (.iconst 1, 1) := by decide +kernel
theorem dX5_sound_17 : decode cX5_sound 17 = .ok (.if_icmp .eq 5, 3) := by decide +kernel
theorem dX5_sound_20 : decode cX5_sound 20 = .ok (.iconst 0, 1) := by decide +kernel
theorem dX5_sound_21 : decode cX5_sound 21 = .ok (.ireturn, 1) := by decide +kernel
theorem dX5_sound_22 : decode cX5_sound 22 = .ok (.aload_n 0, 1) := by decide +kernel
theorem dX5_sound_23 : decode cX5_sound 23 = .ok (.getfield 15, 3) := by decide +kernel
theorem dX5_sound_26 : decode cX5_sound 26 = .ok (.getfield 29, 3) := by decide +kernel
theorem dX5_sound_29 : decode cX5_sound 29 = .ok (.iload_n 1, 1) := by decide +kernel
theorem dX5_sound_30 : decode cX5_sound 30 = .ok (.iaload, 1) := by decide +kernel
theorem dX5_sound_31 : decode cX5_sound 31 = .ok (.aload_n 0, 1) := by decide +kernel
theorem dX5_sound_32 : decode cX5_sound 32 = .ok (.getfield 15, 3) := by decide +kernel
theorem dX5_sound_35 : decode cX5_sound 35 = .ok (.getfield 29, 3) := by decide +kernel
theorem dX5_sound_38 : decode cX5_sound 38 = .ok (.iload_n 2, 1) := by decide +kernel
theorem dX5_sound_39 : decode cX5_sound 39 = .ok (.iaload, 1) := by decide +kernel
theorem dX5_sound_40 : decode cX5_sound 40 = .ok (.if_icmp .eq 24, 3) := by decide +kernel
theorem dX5_sound_43 : decode cX5_sound 43 = .ok (.aload_n 0, 1) := by decide +kernel
theorem dX5_sound_44 : decode cX5_sound 44 = .ok (.getfield 15, 3) := by decide +kernel
theorem dX5_sound_47 : decode cX5_sound 47 = .ok (.getfield 32, 3) := by decide +kernel
theorem dX5_sound_50 : decode cX5_sound 50 = .ok (.iload_n 1, 1) := by decide +kernel
theorem dX5_sound_51 : decode cX5_sound 51 = .ok (.iaload, 1) := by decide +kernel
theorem dX5_sound_52 : decode cX5_sound 52 = .ok (.aload_n 0, 1) := by decide +kernel
theorem dX5_sound_53 : decode cX5_sound 53 = .ok (.getfield 15, 3) := by decide +kernel
theorem dX5_sound_56 : decode cX5_sound 56 = .ok (.getfield 32, 3) := by decide +kernel
theorem dX5_sound_59 : decode cX5_sound 59 = .ok (.iload_n 2, 1) := by decide +kernel
theorem dX5_sound_60 : decode cX5_sound 60 = .ok (.iaload, 1) := by decide +kernel
theorem dX5_sound_61 : decode cX5_sound 61 = .ok (.if_icmp .ne 7, 3) := by decide +kernel
theorem dX5_sound_64 : decode cX5_sound 64 = .ok (.iconst 2, 1) := by decide +kernel
theorem dX5_sound_65 : decode cX5_sound 65 = .ok (.goto 4, 3) := by decide +kernel
theorem dX5_sound_68 : decode cX5_sound 68 = .ok (.iconst 1, 1) := by decide +kernel
theorem dX5_sound_69 : decode cX5_sound 69 = .ok (.ireturn, 1) := by decide +kernel
theorem dX5_heardFrom_0 : decode cX5_heardFrom 0 = .ok (.iconst 0, 1) := by decide +kernel
theorem dX5_heardFrom_1 : decode cX5_heardFrom 1 = .ok (.istore_n 2, 1) := by decide +kernel
theorem dX5_heardFrom_2 : decode cX5_heardFrom 2 = .ok (.iconst 0, 1) := by decide +kernel
theorem dX5_heardFrom_3 : decode cX5_heardFrom 3 = .ok (.istore_n 3, 1) := by decide +kernel
theorem dX5_heardFrom_4 : decode cX5_heardFrom 4 = .ok (.iload_n 3, 1) := by decide +kernel
theorem dX5_heardFrom_5 : decode cX5_heardFrom 5 = .ok (.aload_n 0, 1) := by decide +kernel
theorem dX5_heardFrom_6 : decode cX5_heardFrom 6 = .ok (.getfield 15, 3) := by decide +kernel
theorem dX5_heardFrom_9 : decode cX5_heardFrom 9 = .ok (.getfield 35, 3) := by decide +kernel
theorem dX5_heardFrom_12 : decode cX5_heardFrom 12 = .ok (.if_icmp .ge 25, 3) := by decide +kernel
theorem dX5_heardFrom_15 : decode cX5_heardFrom 15 = .ok (.iload_n 2, 1) := by decide +kernel
theorem dX5_heardFrom_16 : decode cX5_heardFrom 16 = .ok (.aload_n 0, 1) := by decide +kernel
theorem dX5_heardFrom_17 : decode cX5_heardFrom 17 = .ok (.iload_n 1, 1) := by decide +kernel
theorem dX5_heardFrom_18 : decode cX5_heardFrom 18 = .ok (.iload_n 3, 1) := by decide +kernel
theorem dX5_heardFrom_19 : decode cX5_heardFrom 19 = .ok (.invokevirtual 39, 3) := by decide +kernel
theorem dX5_heardFrom_22 : decode cX5_heardFrom 22 = .ok (.aload_n 0, 1) := by decide +kernel
theorem dX5_heardFrom_23 : decode cX5_heardFrom 23 = .ok (.getfield 9, 3) := by decide +kernel
theorem dX5_heardFrom_26 : decode cX5_heardFrom 26 = .ok (.iload_n 3, 1) := by decide +kernel
theorem dX5_heardFrom_27 : decode cX5_heardFrom 27 = .ok (.iaload, 1) := by decide +kernel
theorem dX5_heardFrom_28 : decode cX5_heardFrom 28 = .ok (.imul, 1) := by decide +kernel
theorem dX5_heardFrom_29 : decode cX5_heardFrom 29 = .ok (.iadd, 1) := by decide +kernel
theorem dX5_heardFrom_30 : decode cX5_heardFrom 30 = .ok (.istore_n 2, 1) := by decide +kernel
theorem dX5_heardFrom_31 : decode cX5_heardFrom 31 = .ok (.iinc 3 1, 3) := by decide +kernel
theorem dX5_heardFrom_34 : decode cX5_heardFrom 34 = .ok (.goto (-30), 3) := by decide +kernel
theorem dX5_heardFrom_37 : decode cX5_heardFrom 37 = .ok (.iload_n 2, 1) := by decide +kernel
theorem dX5_heardFrom_38 : decode cX5_heardFrom 38 = .ok (.ireturn, 1) := by decide +kernel
theorem dX5_heardIn_0 : decode cX5_heardIn 0 = .ok (.iconst 0, 1) := by decide +kernel
theorem dX5_heardIn_1 : decode cX5_heardIn 1 = .ok (.istore_n 2, 1) := by decide +kernel
theorem dX5_heardIn_2 : decode cX5_heardIn 2 = .ok (.iconst 0, 1) := by decide +kernel
theorem dX5_heardIn_3 : decode cX5_heardIn 3 = .ok (.istore_n 3, 1) := by decide +kernel
theorem dX5_heardIn_4 : decode cX5_heardIn 4 = .ok (.iload_n 3, 1) := by decide +kernel
theorem dX5_heardIn_5 : decode cX5_heardIn 5 = .ok (.aload_n 0, 1) := by decide +kernel
theorem dX5_heardIn_6 : decode cX5_heardIn 6 = .ok (.getfield 19, 3) := by decide +kernel
theorem dX5_heardIn_9 : decode cX5_heardIn 9 = .ok (.getfield 42, 3) := by decide +kernel
theorem dX5_heardIn_12 : decode cX5_heardIn 12 = .ok (.if_icmp .ge 57, 3) := by decide +kernel
theorem dX5_heardIn_15 : decode cX5_heardIn 15 = .ok (.aload_n 0, 1) := by decide +kernel
theorem dX5_heardIn_16 : decode cX5_heardIn 16 = .ok (.getfield 19, 3) := by decide +kernel
theorem dX5_heardIn_19 : decode cX5_heardIn 19 = .ok (.getfield 47, 3) := by decide +kernel
theorem dX5_heardIn_22 : decode cX5_heardIn 22 = .ok (.iload_n 3, 1) := by decide +kernel
theorem dX5_heardIn_23 : decode cX5_heardIn 23 = .ok (.aaload, 1) := by decide +kernel
theorem dX5_heardIn_24 : decode cX5_heardIn 24 = .ok (.getfield 51, 3) := by decide +kernel
theorem dX5_heardIn_27 : decode cX5_heardIn 27 = .ok (.ifCond .eq 36, 3) := by decide +kernel
theorem dX5_heardIn_30 : decode cX5_heardIn 30 = .ok (.iload_n 2, 1) := by decide +kernel
theorem dX5_heardIn_31 : decode cX5_heardIn 31 = .ok (.aload_n 0, 1) := by decide +kernel
theorem dX5_heardIn_32 : decode cX5_heardIn 32 = .ok (.aload_n 0, 1) := by decide +kernel
theorem dX5_heardIn_33 : decode cX5_heardIn 33 = .ok (.getfield 19, 3) := by decide +kernel
theorem dX5_heardIn_36 : decode cX5_heardIn 36 = .ok (.getfield 47, 3) := by decide +kernel
theorem dX5_heardIn_39 : decode cX5_heardIn 39 = .ok (.iload_n 3, 1) := by decide +kernel
theorem dX5_heardIn_40 : decode cX5_heardIn 40 = .ok (.aaload, 1) := by decide +kernel
theorem dX5_heardIn_41 : decode cX5_heardIn 41 = .ok (.getfield 57, 3) := by decide +kernel
theorem dX5_heardIn_44 : decode cX5_heardIn 44 = .ok (.iload_n 1, 1) := by decide +kernel
theorem dX5_heardIn_45 : decode cX5_heardIn 45 = .ok (.invokevirtual 61, 3) := by decide +kernel
theorem dX5_heardIn_48 : decode cX5_heardIn 48 = .ok (.aload_n 0, 1) := by decide +kernel
theorem dX5_heardIn_49 : decode cX5_heardIn 49 = .ok (.getfield 19, 3) := by decide +kernel
theorem dX5_heardIn_52 : decode cX5_heardIn 52 = .ok (.getfield 47, 3) := by decide +kernel
theorem dX5_heardIn_55 : decode cX5_heardIn 55 = .ok (.iload_n 3, 1) := by decide +kernel
theorem dX5_heardIn_56 : decode cX5_heardIn 56 = .ok (.aaload, 1) := by decide +kernel
theorem dX5_heardIn_57 : decode cX5_heardIn 57 = .ok (.getfield 65, 3) := by decide +kernel
theorem dX5_heardIn_60 : decode cX5_heardIn 60 = .ok (.imul, 1) := by decide +kernel
theorem dX5_heardIn_61 : decode cX5_heardIn 61 = .ok (.iadd, 1) := by decide +kernel
theorem dX5_heardIn_62 : decode cX5_heardIn 62 = .ok (.istore_n 2, 1) := by decide +kernel
theorem dX5_heardIn_63 : decode cX5_heardIn 63 = .ok (.iinc 3 1, 3) := by decide +kernel
theorem dX5_heardIn_66 : decode cX5_heardIn 66 = .ok (.goto (-62), 3) := by decide +kernel
theorem dX5_heardIn_69 : decode cX5_heardIn 69 = .ok (.iload_n 2, 1) := by decide +kernel
theorem dX5_heardIn_70 : decode cX5_heardIn 70 = .ok (.aload_n 0, 1) := by decide +kernel
theorem dX5_heardIn_71 : decode cX5_heardIn 71 = .ok (.getfield 9, 3) := by decide +kernel
theorem dX5_heardIn_74 : decode cX5_heardIn 74 = .ok (.iload_n 1, 1) := by decide +kernel
theorem dX5_heardIn_75 : decode cX5_heardIn 75 = .ok (.iaload, 1) := by decide +kernel
theorem dX5_heardIn_76 : decode cX5_heardIn 76 = .ok (.imul, 1) := by decide +kernel
theorem dX5_heardIn_77 : decode cX5_heardIn 77 = .ok (.ireturn, 1) := by decide +kernel
theorem dX5_soundOf_0 : decode cX5_soundOf 0 = .ok (.iconst 0, 1) := by decide +kernel
theorem dX5_soundOf_1 : decode cX5_soundOf 1 = .ok (.istore_n 3, 1) := by decide +kernel
theorem dX5_soundOf_2 : decode cX5_soundOf 2 = .ok (.aload_n 1, 1) := by decide +kernel
theorem dX5_soundOf_3 : decode cX5_soundOf 3 = .ok (.getfield 68, 3) := by decide +kernel
theorem dX5_soundOf_6 : decode cX5_soundOf 6 = .ok (.istore 4, 2) := by decide +kernel
theorem dX5_soundOf_8 : decode cX5_soundOf 8 = .ok (.iload 4, 2) := by decide +kernel
theorem dX5_soundOf_10 : decode cX5_soundOf 10 = .ok (.aload_n 1, 1) := by decide +kernel
theorem dX5_soundOf_11 : decode cX5_soundOf 11 = .ok (.getfield 73, 3) := by decide +kernel
theorem dX5_soundOf_14 : decode cX5_soundOf 14 = .ok (.if_icmp .gt 30, 3) := by decide +kernel
theorem dX5_soundOf_17 : decode cX5_soundOf 17 = .ok (.iload 4, 2) := by decide +kernel
theorem dX5_soundOf_19 : decode cX5_soundOf 19 = .ok (.bipush 60, 2) := by decide +kernel
theorem dX5_soundOf_21 : decode cX5_soundOf 21 = .ok (.if_icmp .ge 23, 3) := by decide +kernel
theorem dX5_soundOf_24 : decode cX5_soundOf 24 = .ok (.iload_n 3, 1) := by decide +kernel
theorem dX5_soundOf_25 : decode cX5_soundOf 25 = .ok (.aload_n 0, 1) := by decide +kernel
theorem dX5_soundOf_26 : decode cX5_soundOf 26 = .ok (.aload_n 1, 1) := by decide +kernel
theorem dX5_soundOf_27 : decode cX5_soundOf 27 = .ok (.iload 4, 2) := by decide +kernel
theorem dX5_soundOf_29 : decode cX5_soundOf 29 = .ok (.invokevirtual 76, 3) := by decide +kernel
theorem dX5_soundOf_32 : decode cX5_soundOf 32 = .ok (.iload_n 2, 1) := by decide +kernel
theorem dX5_soundOf_33 : decode cX5_soundOf 33 = .ok (.invokevirtual 39, 3) := by decide +kernel
theorem dX5_soundOf_36 : decode cX5_soundOf 36 = .ok (.iadd, 1) := by decide +kernel
theorem dX5_soundOf_37 : decode cX5_soundOf 37 = .ok (.istore_n 3, 1) := by decide +kernel
theorem dX5_soundOf_38 : decode cX5_soundOf 38 = .ok (.iinc 4 1, 3) := by decide +kernel
theorem dX5_soundOf_41 : decode cX5_soundOf 41 = .ok (.goto (-33), 3) := by decide +kernel
theorem dX5_soundOf_44 : decode cX5_soundOf 44 = .ok (.iload_n 3, 1) := by decide +kernel
theorem dX5_soundOf_45 : decode cX5_soundOf 45 = .ok (.ireturn, 1) := by decide +kernel
theorem dX5_loudestCell_0 : decode cX5_loudestCell 0 = .ok (.iconst 0, 1) := by decide +kernel
theorem dX5_loudestCell_1 : decode cX5_loudestCell 1 = .ok (.istore_n 1, 1) := by decide +kernel
theorem dX5_loudestCell_2 : decode cX5_loudestCell 2 = .ok (.aload_n 0, 1) := by decide +kernel
theorem dX5_loudestCell_3 : decode cX5_loudestCell 3 = .ok (.iconst 0, 1) := by decide +kernel
theorem dX5_loudestCell_4 : decode cX5_loudestCell 4 = .ok (.invokevirtual 80, 3) := by decide +kernel
theorem dX5_loudestCell_7 : decode cX5_loudestCell 7 = .ok (.istore_n 2, 1) := by decide +kernel
theorem dX5_loudestCell_8 : decode cX5_loudestCell 8 = .ok (.iconst 1, 1) := by decide +kernel
theorem dX5_loudestCell_9 : decode cX5_loudestCell 9 = .ok (.istore_n 3, 1) := by decide +kernel
theorem dX5_loudestCell_10 : decode cX5_loudestCell 10 = .ok (.iload_n 3, 1) := by decide +kernel
theorem dX5_loudestCell_11 : decode cX5_loudestCell 11 = .ok (.aload_n 0, 1) := by decide +kernel
theorem dX5_loudestCell_12 : decode cX5_loudestCell 12 = .ok (.getfield 15, 3) := by decide +kernel
theorem dX5_loudestCell_15 : decode cX5_loudestCell 15 = .ok (.getfield 35, 3) := by decide +kernel
theorem dX5_loudestCell_18 : decode cX5_loudestCell 18 = .ok (.if_icmp .ge 27, 3) := by decide +kernel
theorem dX5_loudestCell_21 : decode cX5_loudestCell 21 = .ok (.aload_n 0, 1) := by decide +kernel
theorem dX5_loudestCell_22 : decode cX5_loudestCell 22 = .ok (.iload_n 3, 1) := by decide +kernel
theorem dX5_loudestCell_23 : decode cX5_loudestCell 23 = .ok (.invokevirtual 80, 3) := by decide +kernel
theorem dX5_loudestCell_26 : decode cX5_loudestCell 26 = .ok (.istore 4, 2) := by decide +kernel
theorem dX5_loudestCell_28 : decode cX5_loudestCell 28 = .ok (.iload 4, 2) := by decide +kernel
theorem dX5_loudestCell_30 : decode cX5_loudestCell 30 = .ok (.iload_n 2, 1) := by decide +kernel
theorem dX5_loudestCell_31 : decode cX5_loudestCell 31 = .ok (.if_icmp .le 8, 3) := by decide +kernel
theorem dX5_loudestCell_34 : decode cX5_loudestCell 34 = .ok (.iload 4, 2) := by decide +kernel
theorem dX5_loudestCell_36 : decode cX5_loudestCell 36 = .ok (.istore_n 2, 1) := by decide +kernel
theorem dX5_loudestCell_37 : decode cX5_loudestCell 37 = .ok (.iload_n 3, 1) := by decide +kernel
theorem dX5_loudestCell_38 : decode cX5_loudestCell 38 = .ok (.istore_n 1, 1) := by decide +kernel
theorem dX5_loudestCell_39 : decode cX5_loudestCell 39 = .ok (.iinc 3 1, 3) := by decide +kernel
theorem dX5_loudestCell_42 : decode cX5_loudestCell 42 = .ok (.goto (-32), 3) := by decide +kernel
theorem dX5_loudestCell_45 : decode cX5_loudestCell 45 = .ok (.iload_n 1, 1) := by decide +kernel
theorem dX5_loudestCell_46 : decode cX5_loudestCell 46 = .ok (.ireturn, 1) := by decide +kernel
theorem dX6_init_0 : decode cX6_init 0 = .ok (.aload_n 0, 1) := by decide +kernel
theorem dX6_init_1 : decode cX6_init 1 = .ok (.invokespecial 3, 3) := by decide +kernel
theorem dX6_init_4 : decode cX6_init 4 = .ok (.aload_n 0, 1) := by decide +kernel
theorem dX6_init_5 : decode cX6_init 5 = .ok (.bipush 60, 2) := by decide +kernel
theorem dX6_init_7 : decode cX6_init 7 = .ok (.newarray .long, 2) := by decide +kernel
theorem dX6_init_9 : decode cX6_init 9 = .ok (.putfield 9, 3) := by decide +kernel
theorem dX6_init_12 : decode cX6_init 12 = .ok (.aload_n 0, 1) := by decide +kernel
theorem dX6_init_13 : decode cX6_init 13 = .ok (.iconst 4, 1) := by decide +kernel
theorem dX6_init_14 : decode cX6_init 14 = .ok (.bipush 60, 2) := by decide +kernel
theorem dX6_init_16 : decode cX6_init 16 = .ok (.multianewarray 15 2, 4) := by decide +kernel
theorem dX6_init_20 : decode cX6_init 20 = .ok (.putfield 17, 3) := by decide +kernel
theorem dX6_init_23 : decode cX6_init 23 = .ok (.aload_n 0, 1) := by decide +kernel
theorem dX6_init_24 : decode cX6_init 24 = .ok (.bipush 60, 2) := by decide +kernel
theorem dX6_init_26 : decode cX6_init 26 = .ok (.newarray .long, 2) := by decide +kernel
theorem dX6_init_28 : decode cX6_init 28 = .ok (.putfield 20, 3) := by decide +kernel
theorem dX6_init_31 : decode cX6_init 31 = .ok (.aload_n 0, 1) := by decide +kernel
theorem dX6_init_32 : decode cX6_init 32 = .ok (.aload_n 1, 1) := by decide +kernel
theorem dX6_init_33 : decode cX6_init 33 = .ok (.putfield 23, 3) := by decide +kernel
theorem dX6_init_36 : decode cX6_init 36 = .ok (.aload_n 0, 1) := by decide +kernel
theorem dX6_init_37 : decode cX6_init 37 = .ok (.aload_n 2, 1) := by decide +kernel
theorem dX6_init_38 : decode cX6_init 38 = .ok (.putfield 27, 3) := by decide +kernel
theorem dX6_init_41 : decode cX6_init 41 = .ok (.return_, 1) := by decide +kernel
theorem dX6_wouldMeet_0 : decode cX6_wouldMeet 0 = .ok (.aload_n 1, 1) := by decide +kernel
theorem dX6_wouldMeet_1 : decode cX6_wouldMeet 1 = .ok (.getfield 31, 3) := by decide +kernel
theorem dX6_wouldMeet_4 : decode cX6_wouldMeet 4 = .ok (.aload_n 2, 1) := by decide +kernel
theorem dX6_wouldMeet_5 : decode cX6_wouldMeet 5 = .ok (.getfield 31, 3) := by decide +kernel
theorem dX6_wouldMeet_8 : decode cX6_wouldMeet 8 = .ok (.invokestatic 37, 3) := by decide +kernel
theorem dX6_wouldMeet_11 : decode cX6_wouldMeet 11 = .ok (.istore 4, 2) := by decide +kernel
theorem dX6_wouldMeet_13 : decode cX6_wouldMeet 13 = .ok (.aload_n 1, 1) := by decide +kernel
theorem dX6_wouldMeet_14 : decode cX6_wouldMeet 14 = .ok (.getfield 43, 3) := by decide +kernel
theorem dX6_wouldMeet_17 : decode cX6_wouldMeet 17 = .ok (.aload_n 2, 1) := by decide +kernel
theorem dX6_wouldMeet_18 : decode cX6_wouldMeet 18 = .ok (.getfield 43, 3) := by decide +kernel
theorem dX6_wouldMeet_21 : decode cX6_wouldMeet 21 = .ok (.invokestatic 46, 3) := by decide +kernel
theorem dX6_wouldMeet_24 : decode cX6_wouldMeet 24 = .ok (.istore 5, 2) := by decide +kernel
theorem dX6_wouldMeet_26 : decode cX6_wouldMeet 26 = .ok (.iload 5, 2) := by decide +kernel
theorem dX6_wouldMeet_28 : decode cX6_wouldMeet 28 = .ok (.iload 4, 2) := by decide +kernel
theorem dX6_wouldMeet_30 : decode cX6_wouldMeet 30 = .ok (.if_icmp .gt 84, 3) := by decide +kernel
theorem dX6_wouldMeet_33 : decode cX6_wouldMeet 33 = .ok (.iload 5, 2) := by decide +kernel
theorem dX6_wouldMeet_35 : decode cX6_wouldMeet 35 = .ok (.bipush 60, 2) := by decide +kernel
theorem dX6_wouldMeet_37 : decode cX6_wouldMeet 37 = .ok (.if_icmp .ge 77, 3) := by decide +kernel
theorem dX6_wouldMeet_40 : decode cX6_wouldMeet 40 = .ok (.aload_n 0, 1) := by decide +kernel
theorem dX6_wouldMeet_41 : decode cX6_wouldMeet 41 = .ok (.getfield 23, 3) := by decide +kernel
theorem dX6_wouldMeet_44 : decode cX6_wouldMeet 44 = .ok (.aload_n 1, 1) := by decide +kernel
theorem dX6_wouldMeet_45 : decode cX6_wouldMeet 45 = .ok (.iload 5, 2) := by decide +kernel
theorem dX6_wouldMeet_47 : decode cX6_wouldMeet 47 = .ok (.invokevirtual 49, 3) := by decide +kernel
theorem dX6_wouldMeet_50 : decode cX6_wouldMeet 50 = .ok (.aload_n 2, 1) := by decide +kernel
theorem dX6_wouldMeet_51 : decode cX6_wouldMeet 51 = .ok (.iload 5, 2) := by decide +kernel
theorem dX6_wouldMeet_53 : decode cX6_wouldMeet 53 = .ok (.invokevirtual 49, 3) := by decide +kernel
theorem dX6_wouldMeet_56 : decode cX6_wouldMeet 56 = .ok (.invokevirtual 53, 3) := by decide +kernel
theorem dX6_wouldMeet_59 : decode cX6_wouldMeet 59 = .ok (.iload_n 3, 1) := by decide +kernel
theorem dX6_wouldMeet_60 : decode cX6_wouldMeet 60 = .ok (.if_icmp .gt 5, 3) := by decide +kernel
theorem dX6_wouldMeet_63 : decode cX6_wouldMeet 63 = .ok (.iconst 1, 1) := by decide +kernel
theorem dX6_wouldMeet_64 : decode cX6_wouldMeet 64 = .ok (.ireturn, 1) := by decide +kernel
theorem dX6_wouldMeet_65 : decode cX6_wouldMeet 65 = .ok (.iload 5, 2) := by decide +kernel
theorem dX6_wouldMeet_67 : decode cX6_wouldMeet 67 = .ok (.iload 4, 2) := by decide +kernel
theorem dX6_wouldMeet_69 : decode cX6_wouldMeet 69 = .ok (.if_icmp .ge 39, 3) := by decide +kernel
theorem dX6_wouldMeet_72 : decode cX6_wouldMeet 72 = .ok (.aload_n 1, 1) := by decide +kernel
theorem dX6_wouldMeet_73 : decode cX6_wouldMeet 73 = .ok (.iload 5, 2) := by decide +kernel
theorem dX6_wouldMeet_75 : decode cX6_wouldMeet 75 = .ok (.invokevirtual 49, 3) := by decide +kernel
theorem dX6_wouldMeet_78 : decode cX6_wouldMeet 78 = .ok (.aload_n 2, 1) := by decide +kernel
theorem dX6_wouldMeet_79 : decode cX6_wouldMeet 79 = .ok (.iload 5, 2) := by decide +kernel
theorem dX6_wouldMeet_81 : decode cX6_wouldMeet 81 = .ok (.iconst 1, 1) := by decide +kernel
theorem dX6_wouldMeet_82 : decode cX6_wouldMeet 82 = .ok (.iadd, 1) := by decide +kernel
theorem dX6_wouldMeet_83 : decode cX6_wouldMeet 83 = .ok (.invokevirtual 49, 3) := by decide +kernel
theorem dX6_wouldMeet_86 : decode cX6_wouldMeet 86 = .ok (.if_icmp .ne 22, 3) := by decide +kernel
theorem dX6_wouldMeet_89 : decode cX6_wouldMeet 89 = .ok (.aload_n 1, 1) := by decide +kernel
theorem dX6_wouldMeet_90 : decode cX6_wouldMeet 90 = .ok (.iload 5, 2) := by decide +kernel
theorem dX6_wouldMeet_92 : decode cX6_wouldMeet 92 = .ok (.iconst 1, 1) := by decide +kernel
theorem dX6_wouldMeet_93 : decode cX6_wouldMeet 93 = .ok (.iadd, 1) := by decide +kernel
theorem dX6_wouldMeet_94 : decode cX6_wouldMeet 94 = .ok (.invokevirtual 49, 3) := by decide +kernel
theorem dX6_wouldMeet_97 : decode cX6_wouldMeet 97 = .ok (.aload_n 2, 1) := by decide +kernel
theorem dX6_wouldMeet_98 : decode cX6_wouldMeet 98 = .ok (.iload 5, 2) := by decide +kernel
theorem dX6_wouldMeet_100 : decode cX6_wouldMeet 100 = .ok (.invokevirtual 49, 3) := by decide +kernel
theorem dX6_wouldMeet_103 : decode cX6_wouldMeet 103 = .ok (.if_icmp .ne 5, 3) := by decide +kernel
theorem dX6_wouldMeet_106 : decode cX6_wouldMeet 106 = .ok (.iconst 1, 1) := by decide +kernel
theorem dX6_wouldMeet_107 : decode cX6_wouldMeet 107 = .ok (.ireturn, 1) := by decide +kernel
theorem dX6_wouldMeet_108 : decode cX6_wouldMeet 108 = .ok (.iinc 5 1, 3) := by decide +kernel
theorem dX6_wouldMeet_111 : decode cX6_wouldMeet 111 = .ok (.goto (-85), 3) := by decide +kernel
theorem dX6_wouldMeet_114 : decode cX6_wouldMeet 114 = .ok (.iconst 0, 1) := by decide +kernel
theorem dX6_wouldMeet_115 : decode cX6_wouldMeet 115 = .ok (.ireturn, 1) := by decide +kernel
theorem dX6_clearFor_0 : decode cX6_clearFor 0 = .ok (.aload_n 1, 1) := by decide +kernel
theorem dX6_clearFor_1 : decode cX6_clearFor 1 = .ok (.getfield 58, 3) := by decide +kernel
theorem dX6_clearFor_4 : decode cX6_clearFor 4 = .ok (.iconst 0, 1) := by decide +kernel
theorem dX6_clearFor_5 : decode cX6_clearFor 5 = .ok (.invokestatic 46, 3) := by decide +kernel
theorem dX6_clearFor_8 : decode cX6_clearFor 8 = .ok (.istore_n 3, 1) := by decide +kernel
theorem dX6_clearFor_9 : decode cX6_clearFor 9 = .ok (.iload_n 3, 1) := by decide +kernel
theorem dX6_clearFor_10 : decode cX6_clearFor 10 = .ok (.aload_n 1, 1) := by decide +kernel
theorem dX6_clearFor_11 : decode cX6_clearFor 11 = .ok (.getfield 63, 3) := by decide +kernel
theorem dX6_clearFor_14 : decode cX6_clearFor 14 = .ok (.if_icmp .gt 55, 3) := by decide +kernel
theorem dX6_clearFor_17 : decode cX6_clearFor 17 = .ok (.iload_n 3, 1) := by decide +kernel
theorem dX6_clearFor_18 : decode cX6_clearFor 18 = .ok (.bipush 60, 2) := by decide +kernel
theorem dX6_clearFor_20 : decode cX6_clearFor 20 = .ok (.if_icmp .ge 49, 3) := by decide +kernel
theorem dX6_clearFor_23 : decode cX6_clearFor 23 = .ok (.aload_n 0, 1) := by decide +kernel
theorem dX6_clearFor_24 : decode cX6_clearFor 24 = .ok (.getfield 9, 3) := by decide +kernel
theorem dX6_clearFor_27 : decode cX6_clearFor 27 = .ok (.iload_n 3, 1) := by decide +kernel
theorem dX6_clearFor_28 : decode cX6_clearFor 28 = .ok (.aload_n 0, 1) := by decide +kernel
theorem dX6_clearFor_29 : decode cX6_clearFor 29 = .ok (.getfield 23, 3) := by decide +kernel
theorem dX6_clearFor_32 : decode cX6_clearFor 32 = .ok (.getfield 66, 3) := by decide +kernel
theorem dX6_clearFor_35 : decode cX6_clearFor 35 = .ok (.iload_n 3, 1) := by decide +kernel
theorem dX6_clearFor_36 : decode cX6_clearFor 36 = .ok (.laload, 1) := by decide +kernel
theorem dX6_clearFor_37 : decode cX6_clearFor 37 = .ok (.lastore, 1) := by decide +kernel
theorem dX6_clearFor_38 : decode cX6_clearFor 38 = .ok (.iconst 0, 1) := by decide +kernel
theorem dX6_clearFor_39 : decode cX6_clearFor 39 = .ok (.istore 4, 2) := by decide +kernel
theorem dX6_clearFor_41 : decode cX6_clearFor 41 = .ok (.iload 4, 2) := by decide +kernel
theorem dX6_clearFor_43 : decode cX6_clearFor 43 = .ok (.iconst 4, 1) := by decide +kernel
theorem dX6_clearFor_44 : decode cX6_clearFor 44 = .ok (.if_icmp .ge 19, 3) := by decide +kernel
theorem dX6_clearFor_47 : decode cX6_clearFor 47 = .ok (.aload_n 0, 1) := by decide +kernel
theorem dX6_clearFor_48 : decode cX6_clearFor 48 = .ok (.getfield 17, 3) := by decide +kernel
theorem dX6_clearFor_51 : decode cX6_clearFor 51 = .ok (.iload 4, 2) := by decide +kernel
theorem dX6_clearFor_53 : decode cX6_clearFor 53 = .ok (.aaload, 1) := by decide +kernel
theorem dX6_clearFor_54 : decode cX6_clearFor 54 = .ok (.iload_n 3, 1) := by decide +kernel
theorem dX6_clearFor_55 : decode cX6_clearFor 55 = .ok (.lconst 0, 1) := by decide +kernel
theorem dX6_clearFor_56 : decode cX6_clearFor 56 = .ok (.lastore, 1) := by decide +kernel
theorem dX6_clearFor_57 : decode cX6_clearFor 57 = .ok (.iinc 4 1, 3) := by decide +kernel
theorem dX6_clearFor_60 : decode cX6_clearFor 60 = .ok (.goto (-19), 3) := by decide +kernel
theorem dX6_clearFor_63 : decode cX6_clearFor 63 = .ok (.iinc 3 1, 3) := by decide +kernel
theorem dX6_clearFor_66 : decode cX6_clearFor 66 = .ok (.goto (-57), 3) := by decide +kernel
theorem dX6_clearFor_69 : decode cX6_clearFor 69 = .ok (.iconst 0, 1) := by decide +kernel
theorem dX6_clearFor_70 : decode cX6_clearFor 70 = .ok (.istore_n 3, 1) := by decide +kernel
theorem dX6_clearFor_71 : decode cX6_clearFor 71 = .ok (.iload_n 3, 1) := by decide +kernel
theorem dX6_clearFor_72 : decode cX6_clearFor 72 = .ok (.aload_n 0, 1) := by decide +kernel
theorem dX6_clearFor_73 : decode cX6_clearFor 73 = .ok (.getfield 27, 3) := by decide +kernel
theorem dX6_clearFor_76 : decode cX6_clearFor 76 = .ok (.getfield 69, 3) := by decide +kernel
theorem dX6_clearFor_79 : decode cX6_clearFor 79 = .ok (.if_icmp .ge 49, 3) := by decide +kernel
theorem dX6_clearFor_82 : decode cX6_clearFor 82 = .ok (.aload_n 0, 1) := by decide +kernel
theorem dX6_clearFor_83 : decode cX6_clearFor 83 = .ok (.getfield 27, 3) := by decide +kernel
theorem dX6_clearFor_86 : decode cX6_clearFor 86 = .ok (.getfield 74, 3) := by decide +kernel
theorem dX6_clearFor_89 : decode cX6_clearFor 89 = .ok (.iload_n 3, 1) := by decide +kernel
theorem dX6_clearFor_90 : decode cX6_clearFor 90 = .ok (.aaload, 1) := by decide +kernel
theorem dX6_clearFor_91 : decode cX6_clearFor 91 = .ok (.getfield 78, 3) := by decide +kernel
theorem dX6_clearFor_94 : decode cX6_clearFor 94 = .ok (.ifCond .eq 28, 3) := by decide +kernel
theorem dX6_clearFor_97 : decode cX6_clearFor 97 = .ok (.iload_n 2, 1) := by decide +kernel
theorem dX6_clearFor_98 : decode cX6_clearFor 98 = .ok (.iload_n 3, 1) := by decide +kernel
theorem dX6_clearFor_99 : decode cX6_clearFor 99 = .ok (.invokestatic 82, 3) := by decide +kernel
theorem dX6_clearFor_102 : decode cX6_clearFor 102 = .ok (.ifCond .ne 20, 3) := by decide +kernel
theorem dX6_clearFor_105 : decode cX6_clearFor 105 = .ok (.aload_n 0, 1) := by decide +kernel
theorem dX6_clearFor_106 : decode cX6_clearFor 106 = .ok (.aload_n 0, 1) := by decide +kernel
theorem dX6_clearFor_107 : decode cX6_clearFor 107 = .ok (.getfield 27, 3) := by decide +kernel
theorem dX6_clearFor_110 : decode cX6_clearFor 110 = .ok (.getfield 74, 3) := by decide +kernel
theorem dX6_clearFor_113 : decode cX6_clearFor 113 = .ok (.iload_n 3, 1) := by decide +kernel
theorem dX6_clearFor_114 : decode cX6_clearFor 114 = .ok (.aaload, 1) := by decide +kernel
theorem dX6_clearFor_115 : decode cX6_clearFor 115 = .ok (.getfield 86, 3) := by decide +kernel
theorem dX6_clearFor_118 : decode cX6_clearFor 118 = .ok (.aload_n 1, 1) := by decide +kernel
theorem dX6_clearFor_119 : decode cX6_clearFor 119 = .ok (.invokevirtual 90, 3) := by decide +kernel
theorem dX6_clearFor_122 : decode cX6_clearFor 122 = .ok (.iinc 3 1, 3) := by decide +kernel
theorem dX6_clearFor_125 : decode cX6_clearFor 125 = .ok (.goto (-54), 3) := by decide +kernel
theorem dX6_clearFor_128 : decode cX6_clearFor 128 = .ok (.return_, 1) := by decide +kernel
theorem dX6_keepApart_0 : decode cX6_keepApart 0 = .ok (.aload_n 1, 1) := by decide +kernel
theorem dX6_keepApart_1 : decode cX6_keepApart 1 = .ok (.getfield 31, 3) := by decide +kernel
theorem dX6_keepApart_4 : decode cX6_keepApart 4 = .ok (.aload_n 2, 1) := by decide +kernel
theorem dX6_keepApart_5 : decode cX6_keepApart 5 = .ok (.getfield 63, 3) := by decide +kernel
theorem dX6_keepApart_8 : decode cX6_keepApart 8 = .ok (.invokestatic 37, 3) := by decide +kernel
theorem dX6_keepApart_11 : decode cX6_keepApart 11 = .ok (.istore_n 3, 1) := by decide +kernel
theorem dX6_keepApart_12 : decode cX6_keepApart 12 = .ok (.aload_n 1, 1) := by decide +kernel
theorem dX6_keepApart_13 : decode cX6_keepApart 13 = .ok (.getfield 43, 3) := by decide +kernel
theorem dX6_keepApart_16 : decode cX6_keepApart 16 = .ok (.aload_n 2, 1) := by decide +kernel
theorem dX6_keepApart_17 : decode cX6_keepApart 17 = .ok (.getfield 58, 3) := by decide +kernel
theorem dX6_keepApart_20 : decode cX6_keepApart 20 = .ok (.invokestatic 46, 3) := by decide +kernel
theorem dX6_keepApart_23 : decode cX6_keepApart 23 = .ok (.istore 4, 2) := by decide +kernel
theorem dX6_keepApart_25 : decode cX6_keepApart 25 = .ok (.iload 4, 2) := by decide +kernel
theorem dX6_keepApart_27 : decode cX6_keepApart 27 = .ok (.iload_n 3, 1) := by decide +kernel
theorem dX6_keepApart_28 : decode cX6_keepApart 28 = .ok (.if_icmp .gt 110, 3) := by decide +kernel
theorem dX6_keepApart_31 : decode cX6_keepApart 31 = .ok (.iload 4, 2) := by decide +kernel
theorem dX6_keepApart_33 : decode cX6_keepApart 33 = .ok (.bipush 60, 2) := by decide +kernel
theorem dX6_keepApart_35 : decode cX6_keepApart 35 = .ok (.if_icmp .ge 103, 3) := by decide +kernel
theorem dX6_keepApart_38 : decode cX6_keepApart 38 = .ok (.aload_n 1, 1) := by decide +kernel
theorem dX6_keepApart_39 : decode cX6_keepApart 39 = .ok (.iload 4, 2) := by decide +kernel
theorem dX6_keepApart_41 : decode cX6_keepApart 41 = .ok (.invokevirtual 49, 3) := by decide +kernel
theorem dX6_keepApart_44 : decode cX6_keepApart 44 = .ok (.istore 5, 2) := by decide +kernel
theorem dX6_keepApart_46 : decode cX6_keepApart 46 = .ok (.aload_n 0, 1) := by decide +kernel
theorem dX6_keepApart_47 : decode cX6_keepApart 47 = .ok (.getfield 23, 3) := by decide +kernel
theorem dX6_keepApart_50 : decode cX6_keepApart 50 = .ok (.iload 5, 2) := by decide +kernel
theorem dX6_keepApart_52 : decode cX6_keepApart 52 = .ok (.invokevirtual 94, 3) := by decide +kernel
theorem dX6_keepApart_55 : decode cX6_keepApart 55 = .ok (.ifCond .eq 27, 3) := by decide +kernel
theorem dX6_keepApart_58 : decode cX6_keepApart 58 = .ok (.aload_n 0, 1) := by decide +kernel
theorem dX6_keepApart_59 : decode cX6_keepApart 59 = .ok (.getfield 9, 3) := by decide +kernel
theorem dX6_keepApart_62 : decode cX6_keepApart 62 = .ok (.iload 4, 2) := by decide +kernel
theorem dX6_keepApart_64 : decode cX6_keepApart 64 = .ok (.dup2, 1) := by decide +kernel
theorem dX6_keepApart_65 : decode cX6_keepApart 65 = .ok (.laload, 1) := by decide +kernel
theorem dX6_keepApart_66 : decode cX6_keepApart 66 = .ok (.aload_n 0, 1) := by decide +kernel
theorem dX6_keepApart_67 : decode cX6_keepApart 67 = .ok (.getfield 23, 3) := by decide +kernel
theorem dX6_keepApart_70 : decode cX6_keepApart 70 = .ok (.getfield 98, 3) := by decide +kernel
theorem dX6_keepApart_73 : decode cX6_keepApart 73 = .ok (.iload 5, 2) := by decide +kernel
theorem dX6_keepApart_75 : decode cX6_keepApart 75 = .ok (.laload, 1) := by decide +kernel
theorem dX6_keepApart_76 : decode cX6_keepApart 76 = .ok (.ldc2_w 101, 3) := by decide +kernel
theorem dX6_keepApart_79 : decode cX6_keepApart 79 = .ok (.lxor, 1) := by decide +kernel
theorem dX6_keepApart_80 : decode cX6_keepApart 80 = .ok (.land, 1) := by decide +kernel
theorem dX6_keepApart_81 : decode cX6_keepApart 81 = .ok (.lastore, 1) := by decide +kernel
theorem dX6_keepApart_82 : decode cX6_keepApart 82 = .ok (.aload_n 1, 1) := by decide +kernel
theorem dX6_keepApart_83 : decode cX6_keepApart 83 = .ok (.iload 4, 2) := by decide +kernel
theorem dX6_keepApart_85 : decode cX6_keepApart 85 = .ok (.invokevirtual 103, 3) := by decide +kernel
theorem dX6_keepApart_88 : decode cX6_keepApart 88 = .ok (.istore 6, 2) := by decide +kernel
theorem dX6_keepApart_90 : decode cX6_keepApart 90 = .ok (.aload_n 1, 1) := by decide +kernel
theorem dX6_keepApart_91 : decode cX6_keepApart 91 = .ok (.iload 4, 2) := by decide +kernel
theorem dX6_keepApart_93 : decode cX6_keepApart 93 = .ok (.iconst 1, 1) := by decide +kernel
theorem dX6_keepApart_94 : decode cX6_keepApart 94 = .ok (.iadd, 1) := by decide +kernel
theorem dX6_keepApart_95 : decode cX6_keepApart 95 = .ok (.invokevirtual 49, 3) := by decide +kernel
theorem dX6_keepApart_98 : decode cX6_keepApart 98 = .ok (.istore 7, 2) := by decide +kernel
theorem dX6_keepApart_100 : decode cX6_keepApart 100 = .ok (.iload 6, 2) := by decide +kernel
theorem dX6_keepApart_102 : decode cX6_keepApart 102 = .ok (.iconst 4, 1) := by decide +kernel
theorem dX6_keepApart_103 : decode cX6_keepApart 103 = .ok (.if_icmp .ge 29, 3) := by decide +kernel
theorem dX6_keepApart_106 : decode cX6_keepApart 106 = .ok (.iload 7, 2) := by decide +kernel
theorem dX6_keepApart_108 : decode cX6_keepApart 108 = .ok (.iconst (-1), 1) := by decide +kernel
theorem dX6_keepApart_109 : decode cX6_keepApart 109 = .ok (.if_icmp .eq 23, 3) := by decide +kernel
theorem dX6_keepApart_112 : decode cX6_keepApart 112 = .ok (.aload_n 0, 1) := by decide +kernel
theorem dX6_keepApart_113 : decode cX6_keepApart 113 = .ok (.getfield 17, 3) := by decide +kernel
theorem dX6_keepApart_116 : decode cX6_keepApart 116 = .ok (.iload 6, 2) := by decide +kernel
theorem dX6_keepApart_118 : decode cX6_keepApart 118 = .ok (.invokestatic 106, 3) := by decide +kernel
theorem dX6_keepApart_121 : decode cX6_keepApart 121 = .ok (.aaload, 1) := by decide +kernel
theorem dX6_keepApart_122 : decode cX6_keepApart 122 = .ok (.iload 4, 2) := by decide +kernel
theorem dX6_keepApart_124 : decode cX6_keepApart 124 = .ok (.dup2, 1) := by decide +kernel
theorem dX6_keepApart_125 : decode cX6_keepApart 125 = .ok (.laload, 1) := by decide +kernel
theorem dX6_keepApart_126 : decode cX6_keepApart 126 = .ok (.lconst 1, 1) := by decide +kernel
theorem dX6_keepApart_127 : decode cX6_keepApart 127 = .ok (.iload 7, 2) := by decide +kernel
theorem dX6_keepApart_129 : decode cX6_keepApart 129 = .ok (.lshl, 1) := by decide +kernel
theorem dX6_keepApart_130 : decode cX6_keepApart 130 = .ok (.lor, 1) := by decide +kernel
theorem dX6_keepApart_131 : decode cX6_keepApart 131 = .ok (.lastore, 1) := by decide +kernel
theorem dX6_keepApart_132 : decode cX6_keepApart 132 = .ok (.iinc 4 1, 3) := by decide +kernel
theorem dX6_keepApart_135 : decode cX6_keepApart 135 = .ok (.goto (-110), 3) := by decide +kernel
theorem dX6_keepApart_138 : decode cX6_keepApart 138 = .ok (.return_, 1) := by decide +kernel
theorem dX6_against_0 : decode cX6_against 0 = .ok (.iload_n 0, 1) := by decide +kernel
theorem dX6_against_1 : decode cX6_against 1 = .ok (.iconst 2, 1) := by decide +kernel
theorem dX6_against_2 : decode cX6_against 2 = .ok (.ixor, 1) := by decide +kernel
theorem dX6_against_3 : decode cX6_against 3 = .ok (.ireturn, 1) := by decide +kernel
theorem dX6_isAllowed_0 : decode cX6_isAllowed 0 = .ok (.iload_n 1, 1) := by decide +kernel
theorem dX6_isAllowed_1 : decode cX6_isAllowed 1 = .ok (.iconst 4, 1) := by decide +kernel
theorem dX6_isAllowed_2 : decode cX6_isAllowed 2 = .ok (.if_icmp .ge 20, 3) := by decide +kernel
theorem dX6_isAllowed_5 : decode cX6_isAllowed 5 = .ok (.aload_n 0, 1) := by decide +kernel
theorem dX6_isAllowed_6 : decode cX6_isAllowed 6 = .ok (.getfield 17, 3) := by decide +kernel
theorem dX6_isAllowed_9 : decode cX6_isAllowed 9 = .ok (.iload_n 1, 1) := by decide +kernel
theorem dX6_isAllowed_10 : decode cX6_isAllowed 10 = .ok (.aaload, 1) := by decide +kernel
theorem dX6_isAllowed_11 : decode cX6_isAllowed 11 = .ok (.iload_n 3, 1) := by decide +kernel
theorem dX6_isAllowed_12 : decode cX6_isAllowed 12 = .ok (.laload, 1) := by decide +kernel
theorem dX6_isAllowed_13 : decode cX6_isAllowed 13 = .ok (.iload_n 2, 1) := by decide +kernel
theorem dX6_isAllowed_14 : decode cX6_isAllowed 14 = .ok (.lushr, 1) := by decide +kernel
theorem dX6_isAllowed_15 : decode cX6_isAllowed 15 = .ok (.lconst 1, 1) := by decide +kernel
theorem dX6_isAllowed_16 : decode cX6_isAllowed 16 = .ok (.land, 1) := by decide +kernel
theorem dX6_isAllowed_17 : decode cX6_isAllowed 17 = .ok (.lconst 0, 1) := by decide +kernel
theorem dX6_isAllowed_18 : decode cX6_isAllowed 18 = .ok (.lcmp, 1) := by decide +kernel
theorem dX6_isAllowed_19 : decode cX6_isAllowed 19 = .ok (.ifCond .ne 7, 3) := by decide +kernel
theorem dX6_isAllowed_22 : decode cX6_isAllowed 22 = .ok (.iconst 1, 1) := by decide +kernel
theorem dX6_isAllowed_23 : decode cX6_isAllowed 23 = .ok (.goto 4, 3) := by decide +kernel
theorem dX6_isAllowed_26 : decode cX6_isAllowed 26 = .ok (.iconst 0, 1) := by decide +kernel
theorem dX6_isAllowed_27 : decode cX6_isAllowed 27 = .ok (.ireturn, 1) := by decide +kernel
theorem dX6_ahead_0 : decode cX6_ahead 0 = .ok (.lload_n 1, 1) := by decide +kernel
theorem dX6_ahead_1 : decode cX6_ahead 1 = .ok (.lload_n 1, 1) := by decide +kernel
theorem dX6_ahead_2 : decode cX6_ahead 2 = .ok (.aload_n 0, 1) := by decide +kernel
theorem dX6_ahead_3 : decode cX6_ahead 3 = .ok (.getfield 23, 3) := by decide +kernel
theorem dX6_ahead_6 : decode cX6_ahead 6 = .ok (.getfield 109, 3) := by decide +kernel
theorem dX6_ahead_9 : decode cX6_ahead 9 = .ok (.ldc2_w 101, 3) := by decide +kernel
theorem dX6_ahead_12 : decode cX6_ahead 12 = .ok (.lxor, 1) := by decide +kernel
theorem dX6_ahead_13 : decode cX6_ahead 13 = .ok (.land, 1) := by decide +kernel
theorem dX6_ahead_14 : decode cX6_ahead 14 = .ok (.aload_n 0, 1) := by decide +kernel
theorem dX6_ahead_15 : decode cX6_ahead 15 = .ok (.getfield 17, 3) := by decide +kernel
theorem dX6_ahead_18 : decode cX6_ahead 18 = .ok (.iconst 0, 1) := by decide +kernel
theorem dX6_ahead_19 : decode cX6_ahead 19 = .ok (.aaload, 1) := by decide +kernel
theorem dX6_ahead_20 : decode cX6_ahead 20 = .ok (.iload_n 3, 1) := by decide +kernel
theorem dX6_ahead_21 : decode cX6_ahead 21 = .ok (.laload, 1) := by decide +kernel
theorem dX6_ahead_22 : decode cX6_ahead 22 = .ok (.ldc2_w 101, 3) := by decide +kernel
theorem dX6_ahead_25 : decode cX6_ahead 25 = .ok (.lxor, 1) := by decide +kernel
theorem dX6_ahead_26 : decode cX6_ahead 26 = .ok (.land, 1) := by decide +kernel
theorem dX6_ahead_27 : decode cX6_ahead 27 = .ok (.iconst 1, 1) := by decide +kernel
theorem dX6_ahead_28 : decode cX6_ahead 28 = .ok (.lshl, 1) := by decide +kernel
theorem dX6_ahead_29 : decode cX6_ahead 29 = .ok (.lor, 1) := by decide +kernel
theorem dX6_ahead_30 : decode cX6_ahead 30 = .ok (.lload_n 1, 1) := by decide +kernel
theorem dX6_ahead_31 : decode cX6_ahead 31 = .ok (.aload_n 0, 1) := by decide +kernel
theorem dX6_ahead_32 : decode cX6_ahead 32 = .ok (.getfield 17, 3) := by decide +kernel
theorem dX6_ahead_35 : decode cX6_ahead 35 = .ok (.iconst 1, 1) := by decide +kernel
theorem dX6_ahead_36 : decode cX6_ahead 36 = .ok (.aaload, 1) := by decide +kernel
theorem dX6_ahead_37 : decode cX6_ahead 37 = .ok (.iload_n 3, 1) := by decide +kernel
theorem dX6_ahead_38 : decode cX6_ahead 38 = .ok (.laload, 1) := by decide +kernel
theorem dX6_ahead_39 : decode cX6_ahead 39 = .ok (.ldc2_w 101, 3) := by decide +kernel
theorem dX6_ahead_42 : decode cX6_ahead 42 = .ok (.lxor, 1) := by decide +kernel
theorem dX6_ahead_43 : decode cX6_ahead 43 = .ok (.land, 1) := by decide +kernel
theorem dX6_ahead_44 : decode cX6_ahead 44 = .ok (.aload_n 0, 1) := by decide +kernel
theorem dX6_ahead_45 : decode cX6_ahead 45 = .ok (.getfield 23, 3) := by decide +kernel
theorem dX6_ahead_48 : decode cX6_ahead 48 = .ok (.getfield 113, 3) := by decide +kernel
theorem dX6_ahead_51 : decode cX6_ahead 51 = .ok (.lshl, 1) := by decide +kernel
theorem dX6_ahead_52 : decode cX6_ahead 52 = .ok (.lor, 1) := by decide +kernel
theorem dX6_ahead_53 : decode cX6_ahead 53 = .ok (.lload_n 1, 1) := by decide +kernel
theorem dX6_ahead_54 : decode cX6_ahead 54 = .ok (.aload_n 0, 1) := by decide +kernel
theorem dX6_ahead_55 : decode cX6_ahead 55 = .ok (.getfield 23, 3) := by decide +kernel
theorem dX6_ahead_58 : decode cX6_ahead 58 = .ok (.getfield 116, 3) := by decide +kernel
theorem dX6_ahead_61 : decode cX6_ahead 61 = .ok (.ldc2_w 101, 3) := by decide +kernel
theorem dX6_ahead_64 : decode cX6_ahead 64 = .ok (.lxor, 1) := by decide +kernel
theorem dX6_ahead_65 : decode cX6_ahead 65 = .ok (.land, 1) := by decide +kernel
theorem dX6_ahead_66 : decode cX6_ahead 66 = .ok (.aload_n 0, 1) := by decide +kernel
theorem dX6_ahead_67 : decode cX6_ahead 67 = .ok (.getfield 17, 3) := by decide +kernel
theorem dX6_ahead_70 : decode cX6_ahead 70 = .ok (.iconst 2, 1) := by decide +kernel
theorem dX6_ahead_71 : decode cX6_ahead 71 = .ok (.aaload, 1) := by decide +kernel
theorem dX6_ahead_72 : decode cX6_ahead 72 = .ok (.iload_n 3, 1) := by decide +kernel
theorem dX6_ahead_73 : decode cX6_ahead 73 = .ok (.laload, 1) := by decide +kernel
theorem dX6_ahead_74 : decode cX6_ahead 74 = .ok (.ldc2_w 101, 3) := by decide +kernel
theorem dX6_ahead_77 : decode cX6_ahead 77 = .ok (.lxor, 1) := by decide +kernel
theorem dX6_ahead_78 : decode cX6_ahead 78 = .ok (.land, 1) := by decide +kernel
theorem dX6_ahead_79 : decode cX6_ahead 79 = .ok (.iconst 1, 1) := by decide +kernel
theorem dX6_ahead_80 : decode cX6_ahead 80 = .ok (.lushr, 1) := by decide +kernel
theorem dX6_ahead_81 : decode cX6_ahead 81 = .ok (.lor, 1) := by decide +kernel
theorem dX6_ahead_82 : decode cX6_ahead 82 = .ok (.lload_n 1, 1) := by decide +kernel
theorem dX6_ahead_83 : decode cX6_ahead 83 = .ok (.aload_n 0, 1) := by decide +kernel
theorem dX6_ahead_84 : decode cX6_ahead 84 = .ok (.getfield 17, 3) := by decide +kernel
theorem dX6_ahead_87 : decode cX6_ahead 87 = .ok (.iconst 3, 1) := by decide +kernel
theorem dX6_ahead_88 : decode cX6_ahead 88 = .ok (.aaload, 1) := by decide +kernel
theorem dX6_ahead_89 : decode cX6_ahead 89 = .ok (.iload_n 3, 1) := by decide +kernel
theorem dX6_ahead_90 : decode cX6_ahead 90 = .ok (.laload, 1) := by decide +kernel
theorem dX6_ahead_91 : decode cX6_ahead 91 = .ok (.ldc2_w 101, 3) := by decide +kernel
theorem dX6_ahead_94 : decode cX6_ahead 94 = .ok (.lxor, 1) := by decide +kernel
theorem dX6_ahead_95 : decode cX6_ahead 95 = .ok (.land, 1) := by decide +kernel
theorem dX6_ahead_96 : decode cX6_ahead 96 = .ok (.aload_n 0, 1) := by decide +kernel
theorem dX6_ahead_97 : decode cX6_ahead 97 = .ok (.getfield 23, 3) := by decide +kernel
theorem dX6_ahead_100 : decode cX6_ahead 100 = .ok (.getfield 113, 3) := by decide +kernel
theorem dX6_ahead_103 : decode cX6_ahead 103 = .ok (.lushr, 1) := by decide +kernel
theorem dX6_ahead_104 : decode cX6_ahead 104 = .ok (.lor, 1) := by decide +kernel
theorem dX6_ahead_105 : decode cX6_ahead 105 = .ok (.lstore 4, 2) := by decide +kernel
theorem dX6_ahead_107 : decode cX6_ahead 107 = .ok (.lload 4, 2) := by decide +kernel
theorem dX6_ahead_109 : decode cX6_ahead 109 = .ok (.aload_n 0, 1) := by decide +kernel
theorem dX6_ahead_110 : decode cX6_ahead 110 = .ok (.getfield 9, 3) := by decide +kernel
theorem dX6_ahead_113 : decode cX6_ahead 113 = .ok (.iload_n 3, 1) := by decide +kernel
theorem dX6_ahead_114 : decode cX6_ahead 114 = .ok (.iconst 1, 1) := by decide +kernel
theorem dX6_ahead_115 : decode cX6_ahead 115 = .ok (.iadd, 1) := by decide +kernel
theorem dX6_ahead_116 : decode cX6_ahead 116 = .ok (.laload, 1) := by decide +kernel
theorem dX6_ahead_117 : decode cX6_ahead 117 = .ok (.land, 1) := by decide +kernel
theorem dX6_ahead_118 : decode cX6_ahead 118 = .ok (.lreturn, 1) := by decide +kernel
theorem dX6_behind_0 : decode cX6_behind 0 = .ok (.lload_n 1, 1) := by decide +kernel
theorem dX6_behind_1 : decode cX6_behind 1 = .ok (.lload_n 1, 1) := by decide +kernel
theorem dX6_behind_2 : decode cX6_behind 2 = .ok (.aload_n 0, 1) := by decide +kernel
theorem dX6_behind_3 : decode cX6_behind 3 = .ok (.getfield 23, 3) := by decide +kernel
theorem dX6_behind_6 : decode cX6_behind 6 = .ok (.getfield 116, 3) := by decide +kernel
theorem dX6_behind_9 : decode cX6_behind 9 = .ok (.ldc2_w 101, 3) := by decide +kernel
theorem dX6_behind_12 : decode cX6_behind 12 = .ok (.lxor, 1) := by decide +kernel
theorem dX6_behind_13 : decode cX6_behind 13 = .ok (.land, 1) := by decide +kernel
theorem dX6_behind_14 : decode cX6_behind 14 = .ok (.iconst 1, 1) := by decide +kernel
theorem dX6_behind_15 : decode cX6_behind 15 = .ok (.lushr, 1) := by decide +kernel
theorem dX6_behind_16 : decode cX6_behind 16 = .ok (.aload_n 0, 1) := by decide +kernel
theorem dX6_behind_17 : decode cX6_behind 17 = .ok (.getfield 17, 3) := by decide +kernel
theorem dX6_behind_20 : decode cX6_behind 20 = .ok (.iconst 0, 1) := by decide +kernel
theorem dX6_behind_21 : decode cX6_behind 21 = .ok (.aaload, 1) := by decide +kernel
theorem dX6_behind_22 : decode cX6_behind 22 = .ok (.iload_n 3, 1) := by decide +kernel
theorem dX6_behind_23 : decode cX6_behind 23 = .ok (.laload, 1) := by decide +kernel
theorem dX6_behind_24 : decode cX6_behind 24 = .ok (.ldc2_w 101, 3) := by decide +kernel
theorem dX6_behind_27 : decode cX6_behind 27 = .ok (.lxor, 1) := by decide +kernel
theorem dX6_behind_28 : decode cX6_behind 28 = .ok (.land, 1) := by decide +kernel
theorem dX6_behind_29 : decode cX6_behind 29 = .ok (.lor, 1) := by decide +kernel
theorem dX6_behind_30 : decode cX6_behind 30 = .ok (.lload_n 1, 1) := by decide +kernel
theorem dX6_behind_31 : decode cX6_behind 31 = .ok (.aload_n 0, 1) := by decide +kernel
theorem dX6_behind_32 : decode cX6_behind 32 = .ok (.getfield 23, 3) := by decide +kernel
theorem dX6_behind_35 : decode cX6_behind 35 = .ok (.getfield 113, 3) := by decide +kernel
theorem dX6_behind_38 : decode cX6_behind 38 = .ok (.lushr, 1) := by decide +kernel
theorem dX6_behind_39 : decode cX6_behind 39 = .ok (.aload_n 0, 1) := by decide +kernel
theorem dX6_behind_40 : decode cX6_behind 40 = .ok (.getfield 17, 3) := by decide +kernel
theorem dX6_behind_43 : decode cX6_behind 43 = .ok (.iconst 1, 1) := by decide +kernel
theorem dX6_behind_44 : decode cX6_behind 44 = .ok (.aaload, 1) := by decide +kernel
theorem dX6_behind_45 : decode cX6_behind 45 = .ok (.iload_n 3, 1) := by decide +kernel
theorem dX6_behind_46 : decode cX6_behind 46 = .ok (.laload, 1) := by decide +kernel
theorem dX6_behind_47 : decode cX6_behind 47 = .ok (.ldc2_w 101, 3) := by decide +kernel
theorem dX6_behind_50 : decode cX6_behind 50 = .ok (.lxor, 1) := by decide +kernel
theorem dX6_behind_51 : decode cX6_behind 51 = .ok (.land, 1) := by decide +kernel
theorem dX6_behind_52 : decode cX6_behind 52 = .ok (.lor, 1) := by decide +kernel
theorem dX6_behind_53 : decode cX6_behind 53 = .ok (.lload_n 1, 1) := by decide +kernel
theorem dX6_behind_54 : decode cX6_behind 54 = .ok (.aload_n 0, 1) := by decide +kernel
theorem dX6_behind_55 : decode cX6_behind 55 = .ok (.getfield 23, 3) := by decide +kernel
theorem dX6_behind_58 : decode cX6_behind 58 = .ok (.getfield 109, 3) := by decide +kernel
theorem dX6_behind_61 : decode cX6_behind 61 = .ok (.ldc2_w 101, 3) := by decide +kernel
theorem dX6_behind_64 : decode cX6_behind 64 = .ok (.lxor, 1) := by decide +kernel
theorem dX6_behind_65 : decode cX6_behind 65 = .ok (.land, 1) := by decide +kernel
theorem dX6_behind_66 : decode cX6_behind 66 = .ok (.iconst 1, 1) := by decide +kernel
theorem dX6_behind_67 : decode cX6_behind 67 = .ok (.lshl, 1) := by decide +kernel
theorem dX6_behind_68 : decode cX6_behind 68 = .ok (.aload_n 0, 1) := by decide +kernel
theorem dX6_behind_69 : decode cX6_behind 69 = .ok (.getfield 17, 3) := by decide +kernel
theorem dX6_behind_72 : decode cX6_behind 72 = .ok (.iconst 2, 1) := by decide +kernel
theorem dX6_behind_73 : decode cX6_behind 73 = .ok (.aaload, 1) := by decide +kernel
theorem dX6_behind_74 : decode cX6_behind 74 = .ok (.iload_n 3, 1) := by decide +kernel
theorem dX6_behind_75 : decode cX6_behind 75 = .ok (.laload, 1) := by decide +kernel
theorem dX6_behind_76 : decode cX6_behind 76 = .ok (.ldc2_w 101, 3) := by decide +kernel
theorem dX6_behind_79 : decode cX6_behind 79 = .ok (.lxor, 1) := by decide +kernel
theorem dX6_behind_80 : decode cX6_behind 80 = .ok (.land, 1) := by decide +kernel
theorem dX6_behind_81 : decode cX6_behind 81 = .ok (.lor, 1) := by decide +kernel
theorem dX6_behind_82 : decode cX6_behind 82 = .ok (.lload_n 1, 1) := by decide +kernel
theorem dX6_behind_83 : decode cX6_behind 83 = .ok (.aload_n 0, 1) := by decide +kernel
theorem dX6_behind_84 : decode cX6_behind 84 = .ok (.getfield 23, 3) := by decide +kernel
theorem dX6_behind_87 : decode cX6_behind 87 = .ok (.getfield 113, 3) := by decide +kernel
theorem dX6_behind_90 : decode cX6_behind 90 = .ok (.lshl, 1) := by decide +kernel
theorem dX6_behind_91 : decode cX6_behind 91 = .ok (.aload_n 0, 1) := by decide +kernel
theorem dX6_behind_92 : decode cX6_behind 92 = .ok (.getfield 17, 3) := by decide +kernel
theorem dX6_behind_95 : decode cX6_behind 95 = .ok (.iconst 3, 1) := by decide +kernel
theorem dX6_behind_96 : decode cX6_behind 96 = .ok (.aaload, 1) := by decide +kernel
theorem dX6_behind_97 : decode cX6_behind 97 = .ok (.iload_n 3, 1) := by decide +kernel
theorem dX6_behind_98 : decode cX6_behind 98 = .ok (.laload, 1) := by decide +kernel
theorem dX6_behind_99 : decode cX6_behind 99 = .ok (.ldc2_w 101, 3) := by decide +kernel
theorem dX6_behind_102 : decode cX6_behind 102 = .ok (.lxor, 1) := by decide +kernel
theorem dX6_behind_103 : decode cX6_behind 103 = .ok (.land, 1) := by decide +kernel
theorem dX6_behind_104 : decode cX6_behind 104 = .ok (.lor, 1) := by decide +kernel
theorem dX6_behind_105 : decode cX6_behind 105 = .ok (.lstore 4, 2) := by decide +kernel
theorem dX6_behind_107 : decode cX6_behind 107 = .ok (.lload 4, 2) := by decide +kernel
theorem dX6_behind_109 : decode cX6_behind 109 = .ok (.aload_n 0, 1) := by decide +kernel
theorem dX6_behind_110 : decode cX6_behind 110 = .ok (.getfield 9, 3) := by decide +kernel
theorem dX6_behind_113 : decode cX6_behind 113 = .ok (.iload_n 3, 1) := by decide +kernel
theorem dX6_behind_114 : decode cX6_behind 114 = .ok (.laload, 1) := by decide +kernel
theorem dX6_behind_115 : decode cX6_behind 115 = .ok (.land, 1) := by decide +kernel
theorem dX6_behind_116 : decode cX6_behind 116 = .ok (.lreturn, 1) := by decide +kernel
theorem dX6_findSoonest_0 : decode cX6_findSoonest 0 = .ok (.aload_n 0, 1) := by decide +kernel
theorem dX6_findSoonest_1 : decode cX6_findSoonest 1 = .ok (.aload_n 1, 1) := by decide +kernel
theorem dX6_findSoonest_2 : decode cX6_findSoonest 2 = .ok (.iconst 0, 1) := by decide +kernel
theorem dX6_findSoonest_3 : decode cX6_findSoonest 3 = .ok (.invokevirtual 119, 3) := by decide +kernel
theorem dX6_findSoonest_6 : decode cX6_findSoonest 6 = .ok (.aload_n 0, 1) := by decide +kernel
theorem dX6_findSoonest_7 : decode cX6_findSoonest 7 = .ok (.aload_n 1, 1) := by decide +kernel
theorem dX6_findSoonest_8 : decode cX6_findSoonest 8 = .ok (.invokevirtual 123, 3) := by decide +kernel
theorem dX6_findSoonest_11 : decode cX6_findSoonest 11 = .ok (.ifCond .ne 5, 3) := by decide +kernel
theorem dX6_findSoonest_14 : decode cX6_findSoonest 14 = .ok (.iconst 0, 1) := by decide +kernel
theorem dX6_findSoonest_15 : decode cX6_findSoonest 15 = .ok (.ireturn, 1) := by decide +kernel
theorem dX6_findSoonest_16 : decode cX6_findSoonest 16 = .ok (.aload_n 0, 1) := by decide +kernel
theorem dX6_findSoonest_17 : decode cX6_findSoonest 17 = .ok (.aload_n 1, 1) := by decide +kernel
theorem dX6_findSoonest_18 : decode cX6_findSoonest 18 = .ok (.invokevirtual 127, 3) := by decide +kernel
theorem dX6_findSoonest_21 : decode cX6_findSoonest 21 = .ok (.iconst 1, 1) := by decide +kernel
theorem dX6_findSoonest_22 : decode cX6_findSoonest 22 = .ok (.ireturn, 1) := by decide +kernel
theorem dX6_hasWayWithout_0 : decode cX6_hasWayWithout 0 = .ok (.aload_n 0, 1) := by decide +kernel
theorem dX6_hasWayWithout_1 : decode cX6_hasWayWithout 1 = .ok (.aload_n 1, 1) := by decide +kernel
theorem dX6_hasWayWithout_2 : decode cX6_hasWayWithout 2 = .ok (.iload_n 2, 1) := by decide +kernel
theorem dX6_hasWayWithout_3 : decode cX6_hasWayWithout 3 = .ok (.invokevirtual 119, 3) := by decide +kernel
theorem dX6_hasWayWithout_6 : decode cX6_hasWayWithout 6 = .ok (.aload_n 0, 1) := by decide +kernel
theorem dX6_hasWayWithout_7 : decode cX6_hasWayWithout 7 = .ok (.aload_n 1, 1) := by decide +kernel
theorem dX6_hasWayWithout_8 : decode cX6_hasWayWithout 8 = .ok (.invokevirtual 123, 3) := by decide +kernel
theorem dX6_hasWayWithout_11 : decode cX6_hasWayWithout 11 = .ok (.ireturn, 1) := by decide +kernel
theorem dX6_findEnd_0 : decode cX6_findEnd 0 = .ok (.lconst 0, 1) := by decide +kernel
theorem dX6_findEnd_1 : decode cX6_findEnd 1 = .ok (.lstore_n 2, 1) := by decide +kernel
theorem dX6_findEnd_2 : decode cX6_findEnd 2 = .ok (.aload_n 1, 1) := by decide +kernel
theorem dX6_findEnd_3 : decode cX6_findEnd 3 = .ok (.getfield 58, 3) := by decide +kernel
theorem dX6_findEnd_6 : decode cX6_findEnd 6 = .ok (.istore 4, 2) := by decide +kernel
theorem dX6_findEnd_8 : decode cX6_findEnd 8 = .ok (.iload 4, 2) := by decide +kernel
theorem dX6_findEnd_10 : decode cX6_findEnd 10 = .ok (.aload_n 1, 1) := by decide +kernel
theorem dX6_findEnd_11 : decode cX6_findEnd 11 = .ok (.getfield 63, 3) := by decide +kernel
theorem dX6_findEnd_14 : decode cX6_findEnd 14 = .ok (.if_icmp .gt 75, 3) := by decide +kernel
theorem dX6_findEnd_17 : decode cX6_findEnd 17 = .ok (.iload 4, 2) := by decide +kernel
theorem dX6_findEnd_19 : decode cX6_findEnd 19 = .ok (.bipush 60, 2) := by decide +kernel
theorem dX6_findEnd_21 : decode cX6_findEnd 21 = .ok (.if_icmp .ge 68, 3) := by decide +kernel
theorem dX6_findEnd_24 : decode cX6_findEnd 24 = .ok (.iload 4, 2) := by decide +kernel
theorem dX6_findEnd_26 : decode cX6_findEnd 26 = .ok (.aload_n 1, 1) := by decide +kernel
theorem dX6_findEnd_27 : decode cX6_findEnd 27 = .ok (.getfield 58, 3) := by decide +kernel
theorem dX6_findEnd_30 : decode cX6_findEnd 30 = .ok (.if_icmp .le 13, 3) := by decide +kernel
theorem dX6_findEnd_33 : decode cX6_findEnd 33 = .ok (.aload_n 0, 1) := by decide +kernel
theorem dX6_findEnd_34 : decode cX6_findEnd 34 = .ok (.lload_n 2, 1) := by decide +kernel
theorem dX6_findEnd_35 : decode cX6_findEnd 35 = .ok (.iload 4, 2) := by decide +kernel
theorem dX6_findEnd_37 : decode cX6_findEnd 37 = .ok (.iconst 1, 1) := by decide +kernel
theorem dX6_findEnd_38 : decode cX6_findEnd 38 = .ok (.isub, 1) := by decide +kernel
theorem dX6_findEnd_39 : decode cX6_findEnd 39 = .ok (.invokevirtual 131, 3) := by decide +kernel
theorem dX6_findEnd_42 : decode cX6_findEnd 42 = .ok (.lstore_n 2, 1) := by decide +kernel
theorem dX6_findEnd_43 : decode cX6_findEnd 43 = .ok (.lload_n 2, 1) := by decide +kernel
theorem dX6_findEnd_44 : decode cX6_findEnd 44 = .ok (.aload_n 1, 1) := by decide +kernel
theorem dX6_findEnd_45 : decode cX6_findEnd 45 = .ok (.getfield 135, 3) := by decide +kernel
theorem dX6_findEnd_48 : decode cX6_findEnd 48 = .ok (.invokestatic 138, 3) := by decide +kernel
theorem dX6_findEnd_51 : decode cX6_findEnd 51 = .ok (.ifCond .eq 15, 3) := by decide +kernel
theorem dX6_findEnd_54 : decode cX6_findEnd 54 = .ok (.aload_n 0, 1) := by decide +kernel
theorem dX6_findEnd_55 : decode cX6_findEnd 55 = .ok (.aload_n 1, 1) := by decide +kernel
theorem dX6_findEnd_56 : decode cX6_findEnd 56 = .ok (.iload 4, 2) := by decide +kernel
theorem dX6_findEnd_58 : decode cX6_findEnd 58 = .ok (.invokevirtual 142, 3) := by decide +kernel
theorem dX6_findEnd_61 : decode cX6_findEnd 61 = .ok (.ifCond .eq 5, 3) := by decide +kernel
theorem dX6_findEnd_64 : decode cX6_findEnd 64 = .ok (.iconst 1, 1) := by decide +kernel
theorem dX6_findEnd_65 : decode cX6_findEnd 65 = .ok (.ireturn, 1) := by decide +kernel
theorem dX6_findEnd_66 : decode cX6_findEnd 66 = .ok (.lload_n 2, 1) := by decide +kernel
theorem dX6_findEnd_67 : decode cX6_findEnd 67 = .ok (.lconst 1, 1) := by decide +kernel
theorem dX6_findEnd_68 : decode cX6_findEnd 68 = .ok (.aload_n 1, 1) := by decide +kernel
theorem dX6_findEnd_69 : decode cX6_findEnd 69 = .ok (.getfield 146, 3) := by decide +kernel
theorem dX6_findEnd_72 : decode cX6_findEnd 72 = .ok (.lshl, 1) := by decide +kernel
theorem dX6_findEnd_73 : decode cX6_findEnd 73 = .ok (.aload_n 0, 1) := by decide +kernel
theorem dX6_findEnd_74 : decode cX6_findEnd 74 = .ok (.getfield 9, 3) := by decide +kernel
theorem dX6_findEnd_77 : decode cX6_findEnd 77 = .ok (.iload 4, 2) := by decide +kernel
theorem dX6_findEnd_79 : decode cX6_findEnd 79 = .ok (.laload, 1) := by decide +kernel
theorem dX6_findEnd_80 : decode cX6_findEnd 80 = .ok (.land, 1) := by decide +kernel
theorem dX6_findEnd_81 : decode cX6_findEnd 81 = .ok (.lor, 1) := by decide +kernel
theorem dX6_findEnd_82 : decode cX6_findEnd 82 = .ok (.lstore_n 2, 1) := by decide +kernel
theorem dX6_findEnd_83 : decode cX6_findEnd 83 = .ok (.iinc 4 1, 3) := by decide +kernel
theorem dX6_findEnd_86 : decode cX6_findEnd 86 = .ok (.goto (-78), 3) := by decide +kernel
theorem dX6_findEnd_89 : decode cX6_findEnd 89 = .ok (.iconst 0, 1) := by decide +kernel
theorem dX6_findEnd_90 : decode cX6_findEnd 90 = .ok (.ireturn, 1) := by decide +kernel
theorem dX6_findStart_0 : decode cX6_findStart 0 = .ok (.aload_n 1, 1) := by decide +kernel
theorem dX6_findStart_1 : decode cX6_findStart 1 = .ok (.getfield 58, 3) := by decide +kernel
theorem dX6_findStart_4 : decode cX6_findStart 4 = .ok (.iload_n 2, 1) := by decide +kernel
theorem dX6_findStart_5 : decode cX6_findStart 5 = .ok (.aload_n 1, 1) := by decide +kernel
theorem dX6_findStart_6 : decode cX6_findStart 6 = .ok (.getfield 149, 3) := by decide +kernel
theorem dX6_findStart_9 : decode cX6_findStart 9 = .ok (.isub, 1) := by decide +kernel
theorem dX6_findStart_10 : decode cX6_findStart 10 = .ok (.invokestatic 46, 3) := by decide +kernel
theorem dX6_findStart_13 : decode cX6_findStart 13 = .ok (.istore_n 3, 1) := by decide +kernel
theorem dX6_findStart_14 : decode cX6_findStart 14 = .ok (.aload_n 0, 1) := by decide +kernel
theorem dX6_findStart_15 : decode cX6_findStart 15 = .ok (.getfield 20, 3) := by decide +kernel
theorem dX6_findStart_18 : decode cX6_findStart 18 = .ok (.iload_n 2, 1) := by decide +kernel
theorem dX6_findStart_19 : decode cX6_findStart 19 = .ok (.lconst 1, 1) := by decide +kernel
theorem dX6_findStart_20 : decode cX6_findStart 20 = .ok (.aload_n 1, 1) := by decide +kernel
theorem dX6_findStart_21 : decode cX6_findStart 21 = .ok (.getfield 135, 3) := by decide +kernel
theorem dX6_findStart_24 : decode cX6_findStart 24 = .ok (.lshl, 1) := by decide +kernel
theorem dX6_findStart_25 : decode cX6_findStart 25 = .ok (.aload_n 0, 1) := by decide +kernel
theorem dX6_findStart_26 : decode cX6_findStart 26 = .ok (.getfield 9, 3) := by decide +kernel
theorem dX6_findStart_29 : decode cX6_findStart 29 = .ok (.iload_n 2, 1) := by decide +kernel
theorem dX6_findStart_30 : decode cX6_findStart 30 = .ok (.laload, 1) := by decide +kernel
theorem dX6_findStart_31 : decode cX6_findStart 31 = .ok (.land, 1) := by decide +kernel
theorem dX6_findStart_32 : decode cX6_findStart 32 = .ok (.lastore, 1) := by decide +kernel
theorem dX6_findStart_33 : decode cX6_findStart 33 = .ok (.iload_n 2, 1) := by decide +kernel
theorem dX6_findStart_34 : decode cX6_findStart 34 = .ok (.iconst 1, 1) := by decide +kernel
theorem dX6_findStart_35 : decode cX6_findStart 35 = .ok (.isub, 1) := by decide +kernel
theorem dX6_findStart_36 : decode cX6_findStart 36 = .ok (.istore 4, 2) := by decide +kernel
theorem dX6_findStart_38 : decode cX6_findStart 38 = .ok (.iload 4, 2) := by decide +kernel
theorem dX6_findStart_40 : decode cX6_findStart 40 = .ok (.iload_n 3, 1) := by decide +kernel
theorem dX6_findStart_41 : decode cX6_findStart 41 = .ok (.if_icmp .lt 61, 3) := by decide +kernel
theorem dX6_findStart_44 : decode cX6_findStart 44 = .ok (.aload_n 0, 1) := by decide +kernel
theorem dX6_findStart_45 : decode cX6_findStart 45 = .ok (.getfield 20, 3) := by decide +kernel
theorem dX6_findStart_48 : decode cX6_findStart 48 = .ok (.iload 4, 2) := by decide +kernel
theorem dX6_findStart_50 : decode cX6_findStart 50 = .ok (.aload_n 0, 1) := by decide +kernel
theorem dX6_findStart_51 : decode cX6_findStart 51 = .ok (.aload_n 0, 1) := by decide +kernel
theorem dX6_findStart_52 : decode cX6_findStart 52 = .ok (.getfield 20, 3) := by decide +kernel
theorem dX6_findStart_55 : decode cX6_findStart 55 = .ok (.iload 4, 2) := by decide +kernel
theorem dX6_findStart_57 : decode cX6_findStart 57 = .ok (.iconst 1, 1) := by decide +kernel
theorem dX6_findStart_58 : decode cX6_findStart 58 = .ok (.iadd, 1) := by decide +kernel
theorem dX6_findStart_59 : decode cX6_findStart 59 = .ok (.laload, 1) := by decide +kernel
theorem dX6_findStart_60 : decode cX6_findStart 60 = .ok (.iload 4, 2) := by decide +kernel
theorem dX6_findStart_62 : decode cX6_findStart 62 = .ok (.invokevirtual 152, 3) := by decide +kernel
theorem dX6_findStart_65 : decode cX6_findStart 65 = .ok (.lastore, 1) := by decide +kernel
theorem dX6_findStart_66 : decode cX6_findStart 66 = .ok (.aload_n 0, 1) := by decide +kernel
theorem dX6_findStart_67 : decode cX6_findStart 67 = .ok (.getfield 20, 3) := by decide +kernel
theorem dX6_findStart_70 : decode cX6_findStart 70 = .ok (.iload 4, 2) := by decide +kernel
theorem dX6_findStart_72 : decode cX6_findStart 72 = .ok (.laload, 1) := by decide +kernel
theorem dX6_findStart_73 : decode cX6_findStart 73 = .ok (.aload_n 1, 1) := by decide +kernel
theorem dX6_findStart_74 : decode cX6_findStart 74 = .ok (.getfield 146, 3) := by decide +kernel
theorem dX6_findStart_77 : decode cX6_findStart 77 = .ok (.invokestatic 138, 3) := by decide +kernel
theorem dX6_findStart_80 : decode cX6_findStart 80 = .ok (.ifCond .eq 16, 3) := by decide +kernel
theorem dX6_findStart_83 : decode cX6_findStart 83 = .ok (.aload_n 0, 1) := by decide +kernel
theorem dX6_findStart_84 : decode cX6_findStart 84 = .ok (.iload 4, 2) := by decide +kernel
theorem dX6_findStart_86 : decode cX6_findStart 86 = .ok (.putfield 155, 3) := by decide +kernel
theorem dX6_findStart_89 : decode cX6_findStart 89 = .ok (.aload_n 0, 1) := by decide +kernel
theorem dX6_findStart_90 : decode cX6_findStart 90 = .ok (.iload_n 2, 1) := by decide +kernel
theorem dX6_findStart_91 : decode cX6_findStart 91 = .ok (.putfield 156, 3) := by decide +kernel
theorem dX6_findStart_94 : decode cX6_findStart 94 = .ok (.iconst 1, 1) := by decide +kernel
theorem dX6_findStart_95 : decode cX6_findStart 95 = .ok (.ireturn, 1) := by decide +kernel
theorem dX6_findStart_96 : decode cX6_findStart 96 = .ok (.iinc 4 (-1), 3) := by decide +kernel
theorem dX6_findStart_99 : decode cX6_findStart 99 = .ok (.goto (-61), 3) := by decide +kernel
theorem dX6_findStart_102 : decode cX6_findStart 102 = .ok (.iconst 0, 1) := by decide +kernel
theorem dX6_findStart_103 : decode cX6_findStart 103 = .ok (.ireturn, 1) := by decide +kernel
theorem dX6_follow_0 : decode cX6_follow 0 = .ok (.aload_n 1, 1) := by decide +kernel
theorem dX6_follow_1 : decode cX6_follow 1 = .ok (.getfield 146, 3) := by decide +kernel
theorem dX6_follow_4 : decode cX6_follow 4 = .ok (.istore_n 2, 1) := by decide +kernel
theorem dX6_follow_5 : decode cX6_follow 5 = .ok (.aload_n 1, 1) := by decide +kernel
theorem dX6_follow_6 : decode cX6_follow 6 = .ok (.getfield 86, 3) := by decide +kernel
theorem dX6_follow_9 : decode cX6_follow 9 = .ok (.aload_n 0, 1) := by decide +kernel
theorem dX6_follow_10 : decode cX6_follow 10 = .ok (.getfield 155, 3) := by decide +kernel
theorem dX6_follow_13 : decode cX6_follow 13 = .ok (.iload_n 2, 1) := by decide +kernel
theorem dX6_follow_14 : decode cX6_follow 14 = .ok (.invokevirtual 157, 3) := by decide +kernel
theorem dX6_follow_17 : decode cX6_follow 17 = .ok (.aload_n 0, 1) := by decide +kernel
theorem dX6_follow_18 : decode cX6_follow 18 = .ok (.getfield 155, 3) := by decide +kernel
theorem dX6_follow_21 : decode cX6_follow 21 = .ok (.istore_n 3, 1) := by decide +kernel
theorem dX6_follow_22 : decode cX6_follow 22 = .ok (.iload_n 3, 1) := by decide +kernel
theorem dX6_follow_23 : decode cX6_follow 23 = .ok (.aload_n 0, 1) := by decide +kernel
theorem dX6_follow_24 : decode cX6_follow 24 = .ok (.getfield 156, 3) := by decide +kernel
theorem dX6_follow_27 : decode cX6_follow 27 = .ok (.if_icmp .ge 38, 3) := by decide +kernel
theorem dX6_follow_30 : decode cX6_follow 30 = .ok (.aload_n 0, 1) := by decide +kernel
theorem dX6_follow_31 : decode cX6_follow 31 = .ok (.iload_n 2, 1) := by decide +kernel
theorem dX6_follow_32 : decode cX6_follow 32 = .ok (.iload_n 3, 1) := by decide +kernel
theorem dX6_follow_33 : decode cX6_follow 33 = .ok (.invokevirtual 161, 3) := by decide +kernel
theorem dX6_follow_36 : decode cX6_follow 36 = .ok (.istore 4, 2) := by decide +kernel
theorem dX6_follow_38 : decode cX6_follow 38 = .ok (.aload_n 0, 1) := by decide +kernel
theorem dX6_follow_39 : decode cX6_follow 39 = .ok (.getfield 23, 3) := by decide +kernel
theorem dX6_follow_42 : decode cX6_follow 42 = .ok (.iload_n 2, 1) := by decide +kernel
theorem dX6_follow_43 : decode cX6_follow 43 = .ok (.iload 4, 2) := by decide +kernel
theorem dX6_follow_45 : decode cX6_follow 45 = .ok (.invokevirtual 164, 3) := by decide +kernel
theorem dX6_follow_48 : decode cX6_follow 48 = .ok (.istore_n 2, 1) := by decide +kernel
theorem dX6_follow_49 : decode cX6_follow 49 = .ok (.aload_n 1, 1) := by decide +kernel
theorem dX6_follow_50 : decode cX6_follow 50 = .ok (.getfield 86, 3) := by decide +kernel
theorem dX6_follow_53 : decode cX6_follow 53 = .ok (.iload 4, 2) := by decide +kernel
theorem dX6_follow_55 : decode cX6_follow 55 = .ok (.iload_n 2, 1) := by decide +kernel
theorem dX6_follow_56 : decode cX6_follow 56 = .ok (.invokevirtual 167, 3) := by decide +kernel
theorem dX6_follow_59 : decode cX6_follow 59 = .ok (.iinc 3 1, 3) := by decide +kernel
theorem dX6_follow_62 : decode cX6_follow 62 = .ok (.goto (-40), 3) := by decide +kernel
theorem dX6_follow_65 : decode cX6_follow 65 = .ok (.return_, 1) := by decide +kernel
theorem dX6_firstStep_0 : decode cX6_firstStep 0 = .ok (.iconst 0, 1) := by decide +kernel
theorem dX6_firstStep_1 : decode cX6_firstStep 1 = .ok (.istore_n 3, 1) := by decide +kernel
theorem dX6_firstStep_2 : decode cX6_firstStep 2 = .ok (.iload_n 3, 1) := by decide +kernel
theorem dX6_firstStep_3 : decode cX6_firstStep 3 = .ok (.iconst 4, 1) := by decide +kernel
theorem dX6_firstStep_4 : decode cX6_firstStep 4 = .ok (.if_icmp .ge 54, 3) := by decide +kernel
theorem dX6_firstStep_7 : decode cX6_firstStep 7 = .ok (.aload_n 0, 1) := by decide +kernel
theorem dX6_firstStep_8 : decode cX6_firstStep 8 = .ok (.getfield 23, 3) := by decide +kernel
theorem dX6_firstStep_11 : decode cX6_firstStep 11 = .ok (.iload_n 1, 1) := by decide +kernel
theorem dX6_firstStep_12 : decode cX6_firstStep 12 = .ok (.iload_n 3, 1) := by decide +kernel
theorem dX6_firstStep_13 : decode cX6_firstStep 13 = .ok (.invokevirtual 164, 3) := by decide +kernel
theorem dX6_firstStep_16 : decode cX6_firstStep 16 = .ok (.istore 4, 2) := by decide +kernel
theorem dX6_firstStep_18 : decode cX6_firstStep 18 = .ok (.iload 4, 2) := by decide +kernel
theorem dX6_firstStep_20 : decode cX6_firstStep 20 = .ok (.iconst (-1), 1) := by decide +kernel
theorem dX6_firstStep_21 : decode cX6_firstStep 21 = .ok (.if_icmp .eq 31, 3) := by decide +kernel
theorem dX6_firstStep_24 : decode cX6_firstStep 24 = .ok (.aload_n 0, 1) := by decide +kernel
theorem dX6_firstStep_25 : decode cX6_firstStep 25 = .ok (.getfield 20, 3) := by decide +kernel
theorem dX6_firstStep_28 : decode cX6_firstStep 28 = .ok (.iload_n 2, 1) := by decide +kernel
theorem dX6_firstStep_29 : decode cX6_firstStep 29 = .ok (.iconst 1, 1) := by decide +kernel
theorem dX6_firstStep_30 : decode cX6_firstStep 30 = .ok (.iadd, 1) := by decide +kernel
theorem dX6_firstStep_31 : decode cX6_firstStep 31 = .ok (.laload, 1) := by decide +kernel
theorem dX6_firstStep_32 : decode cX6_firstStep 32 = .ok (.iload 4, 2) := by decide +kernel
theorem dX6_firstStep_34 : decode cX6_firstStep 34 = .ok (.invokestatic 138, 3) := by decide +kernel
theorem dX6_firstStep_37 : decode cX6_firstStep 37 = .ok (.ifCond .eq 15, 3) := by decide +kernel
theorem dX6_firstStep_40 : decode cX6_firstStep 40 = .ok (.aload_n 0, 1) := by decide +kernel
theorem dX6_firstStep_41 : decode cX6_firstStep 41 = .ok (.iload_n 3, 1) := by decide +kernel
theorem dX6_firstStep_42 : decode cX6_firstStep 42 = .ok (.iload_n 1, 1) := by decide +kernel
theorem dX6_firstStep_43 : decode cX6_firstStep 43 = .ok (.iload_n 2, 1) := by decide +kernel
theorem dX6_firstStep_44 : decode cX6_firstStep 44 = .ok (.invokevirtual 170, 3) := by decide +kernel
theorem dX6_firstStep_47 : decode cX6_firstStep 47 = .ok (.ifCond .eq 5, 3) := by decide +kernel
theorem dX6_firstStep_50 : decode cX6_firstStep 50 = .ok (.iload_n 3, 1) := by decide +kernel
theorem dX6_firstStep_51 : decode cX6_firstStep 51 = .ok (.ireturn, 1) := by decide +kernel
theorem dX6_firstStep_52 : decode cX6_firstStep 52 = .ok (.iinc 3 1, 3) := by decide +kernel
theorem dX6_firstStep_55 : decode cX6_firstStep 55 = .ok (.goto (-53), 3) := by decide +kernel
theorem dX6_firstStep_58 : decode cX6_firstStep 58 = .ok (.iconst 4, 1) := by decide +kernel
theorem dX6_firstStep_59 : decode cX6_firstStep 59 = .ok (.ireturn, 1) := by decide +kernel
theorem dX7_init_0 : decode cX7_init 0 = .ok (.aload_n 0, 1) := by decide +kernel
theorem dX7_init_1 : decode cX7_init 1 = .ok (.invokespecial 3, 3) := by decide +kernel
theorem dX7_init_4 : decode cX7_init 4 = .ok (.aload_n 0, 1) := by decide +kernel
theorem dX7_init_5 : decode cX7_init 5 = .ok (.bipush 60, 2) := by decide +kernel
theorem dX7_init_7 : decode cX7_init 7 = .ok (.newarray .long, 2) := by decide +kernel
theorem dX7_init_9 : decode cX7_init 9 = .ok (.putfield 9, 3) := by decide +kernel
theorem dX7_init_12 : decode cX7_init 12 = .ok (.aload_n 0, 1) := by decide +kernel
theorem dX7_init_13 : decode cX7_init 13 = .ok (.aload_n 1, 1) := by decide +kernel
theorem dX7_init_14 : decode cX7_init 14 = .ok (.putfield 15, 3) := by decide +kernel
theorem dX7_init_17 : decode cX7_init 17 = .ok (.aload_n 0, 1) := by decide +kernel
theorem dX7_init_18 : decode cX7_init 18 = .ok (.aload_n 2, 1) := by decide +kernel
theorem dX7_init_19 : decode cX7_init 19 = .ok (.putfield 19, 3) := by decide +kernel

theorem dL_net_0 : decode cL_net 0 = .ok (.aload_n 0, 1) := by decide +kernel
theorem dL_net_1 : decode cL_net 1 = .ok (.iload_n 1, 1) := by decide +kernel
theorem dL_net_2 : decode cL_net 2 = .ok (.invokevirtual 7, 3) := by decide +kernel
theorem dL_net_5 : decode cL_net 5 = .ok (.goto 9, 3) := by decide +kernel
theorem dL_net_8 : decode cL_net 8 = .ok (.astore_n 2, 1) := by decide +kernel
theorem dL_net_9 : decode cL_net 9 = .ok (.iconst 1, 1) := by decide +kernel
theorem dL_net_10 : decode cL_net 10 = .ok (.ireturn, 1) := by decide +kernel
theorem dL_net_11 : decode cL_net 11 = .ok (.astore_n 2, 1) := by decide +kernel
theorem dL_net_12 : decode cL_net 12 = .ok (.iconst 2, 1) := by decide +kernel
theorem dL_net_13 : decode cL_net 13 = .ok (.ireturn, 1) := by decide +kernel
theorem dL_net_14 : decode cL_net 14 = .ok (.iconst 0, 1) := by decide +kernel
theorem dL_net_15 : decode cL_net 15 = .ok (.ireturn, 1) := by decide +kernel
theorem dL_link_0 : decode cL_link 0 = .ok (.aload_n 3, 1) := by decide +kernel
theorem dL_link_1 : decode cL_link 1 = .ok (.iconst 0, 1) := by decide +kernel
theorem dL_link_2 : decode cL_link 2 = .ok (.aload_n 0, 1) := by decide +kernel
theorem dL_link_3 : decode cL_link 3 = .ok (.iload_n 1, 1) := by decide +kernel
theorem dL_link_4 : decode cL_link 4 = .ok (.iload_n 2, 1) := by decide +kernel
theorem dL_link_5 : decode cL_link 5 = .ok (.invokevirtual 17, 3) := by decide +kernel
theorem dL_link_8 : decode cL_link 8 = .ok (.i2l, 1) := by decide +kernel
theorem dL_link_9 : decode cL_link 9 = .ok (.lastore, 1) := by decide +kernel
theorem dL_link_10 : decode cL_link 10 = .ok (.goto 19, 3) := by decide +kernel
theorem dL_link_13 : decode cL_link 13 = .ok (.astore 4, 2) := by decide +kernel
theorem dL_link_15 : decode cL_link 15 = .ok (.iconst 1, 1) := by decide +kernel
theorem dL_link_16 : decode cL_link 16 = .ok (.ireturn, 1) := by decide +kernel
theorem dL_link_17 : decode cL_link 17 = .ok (.astore 4, 2) := by decide +kernel
theorem dL_link_19 : decode cL_link 19 = .ok (.iconst 2, 1) := by decide +kernel
theorem dL_link_20 : decode cL_link 20 = .ok (.ireturn, 1) := by decide +kernel
theorem dL_link_21 : decode cL_link 21 = .ok (.astore 4, 2) := by decide +kernel
theorem dL_link_23 : decode cL_link 23 = .ok (.iconst 3, 1) := by decide +kernel
theorem dL_link_24 : decode cL_link 24 = .ok (.ireturn, 1) := by decide +kernel
theorem dL_link_25 : decode cL_link 25 = .ok (.astore 4, 2) := by decide +kernel
theorem dL_link_27 : decode cL_link 27 = .ok (.iconst 4, 1) := by decide +kernel
theorem dL_link_28 : decode cL_link 28 = .ok (.ireturn, 1) := by decide +kernel
theorem dL_link_29 : decode cL_link 29 = .ok (.iconst 0, 1) := by decide +kernel
theorem dL_link_30 : decode cL_link 30 = .ok (.ireturn, 1) := by decide +kernel
theorem dL_word_0 : decode cL_word 0 = .ok (.aload 6, 2) := by decide +kernel
theorem dL_word_2 : decode cL_word 2 = .ok (.iconst 0, 1) := by decide +kernel
theorem dL_word_3 : decode cL_word 3 = .ok (.aload_n 0, 1) := by decide +kernel
theorem dL_word_4 : decode cL_word 4 = .ok (.iload_n 1, 1) := by decide +kernel
theorem dL_word_5 : decode cL_word 5 = .ok (.iload_n 2, 1) := by decide +kernel
theorem dL_word_6 : decode cL_word 6 = .ok (.iload_n 3, 1) := by decide +kernel
theorem dL_word_7 : decode cL_word 7 = .ok (.iload 4, 2) := by decide +kernel
theorem dL_word_9 : decode cL_word 9 = .ok (.iload 5, 2) := by decide +kernel
theorem dL_word_11 : decode cL_word 11 = .ok (.invokevirtual 25, 3) := by decide +kernel
theorem dL_word_14 : decode cL_word 14 = .ok (.i2l, 1) := by decide +kernel
theorem dL_word_15 : decode cL_word 15 = .ok (.lastore, 1) := by decide +kernel
theorem dL_word_16 : decode cL_word 16 = .ok (.goto 15, 3) := by decide +kernel
theorem dL_word_19 : decode cL_word 19 = .ok (.astore 7, 2) := by decide +kernel
theorem dL_word_21 : decode cL_word 21 = .ok (.iconst 1, 1) := by decide +kernel
theorem dL_word_22 : decode cL_word 22 = .ok (.ireturn, 1) := by decide +kernel
theorem dL_word_23 : decode cL_word 23 = .ok (.astore 7, 2) := by decide +kernel
theorem dL_word_25 : decode cL_word 25 = .ok (.iconst 2, 1) := by decide +kernel
theorem dL_word_26 : decode cL_word 26 = .ok (.ireturn, 1) := by decide +kernel
theorem dL_word_27 : decode cL_word 27 = .ok (.astore 7, 2) := by decide +kernel
theorem dL_word_29 : decode cL_word 29 = .ok (.iconst 3, 1) := by decide +kernel
theorem dL_word_30 : decode cL_word 30 = .ok (.ireturn, 1) := by decide +kernel
theorem dL_word_31 : decode cL_word 31 = .ok (.iconst 0, 1) := by decide +kernel
theorem dL_word_32 : decode cL_word 32 = .ok (.ireturn, 1) := by decide +kernel
theorem dL_builtin_0 : decode cL_builtin 0 = .ok (.aload_n 2, 1) := by decide +kernel
theorem dL_builtin_1 : decode cL_builtin 1 = .ok (.iconst 0, 1) := by decide +kernel
theorem dL_builtin_2 : decode cL_builtin 2 = .ok (.aload_n 0, 1) := by decide +kernel
theorem dL_builtin_3 : decode cL_builtin 3 = .ok (.iload_n 1, 1) := by decide +kernel
theorem dL_builtin_4 : decode cL_builtin 4 = .ok (.invokevirtual 29, 3) := by decide +kernel
theorem dL_builtin_7 : decode cL_builtin 7 = .ok (.i2l, 1) := by decide +kernel
theorem dL_builtin_8 : decode cL_builtin 8 = .ok (.lastore, 1) := by decide +kernel
theorem dL_builtin_9 : decode cL_builtin 9 = .ok (.goto 9, 3) := by decide +kernel
theorem dL_builtin_12 : decode cL_builtin 12 = .ok (.astore_n 3, 1) := by decide +kernel
theorem dL_builtin_13 : decode cL_builtin 13 = .ok (.iconst 1, 1) := by decide +kernel
theorem dL_builtin_14 : decode cL_builtin 14 = .ok (.ireturn, 1) := by decide +kernel
theorem dL_builtin_15 : decode cL_builtin 15 = .ok (.astore_n 3, 1) := by decide +kernel
theorem dL_builtin_16 : decode cL_builtin 16 = .ok (.iconst 2, 1) := by decide +kernel
theorem dL_builtin_17 : decode cL_builtin 17 = .ok (.ireturn, 1) := by decide +kernel
theorem dL_builtin_18 : decode cL_builtin 18 = .ok (.iconst 0, 1) := by decide +kernel
theorem dL_builtin_19 : decode cL_builtin 19 = .ok (.ireturn, 1) := by decide +kernel
theorem dL_cutAt_0 : decode cL_cutAt 0 = .ok (.aload_n 0, 1) := by decide +kernel
theorem dL_cutAt_1 : decode cL_cutAt 1 = .ok (.iload_n 1, 1) := by decide +kernel
theorem dL_cutAt_2 : decode cL_cutAt 2 = .ok (.invokevirtual 33, 3) := by decide +kernel
theorem dL_cutAt_5 : decode cL_cutAt 5 = .ok (.goto 9, 3) := by decide +kernel
theorem dL_cutAt_8 : decode cL_cutAt 8 = .ok (.astore_n 2, 1) := by decide +kernel
theorem dL_cutAt_9 : decode cL_cutAt 9 = .ok (.iconst 1, 1) := by decide +kernel
theorem dL_cutAt_10 : decode cL_cutAt 10 = .ok (.ireturn, 1) := by decide +kernel
theorem dL_cutAt_11 : decode cL_cutAt 11 = .ok (.astore_n 2, 1) := by decide +kernel
theorem dL_cutAt_12 : decode cL_cutAt 12 = .ok (.iconst 2, 1) := by decide +kernel
theorem dL_cutAt_13 : decode cL_cutAt 13 = .ok (.ireturn, 1) := by decide +kernel
theorem dL_cutAt_14 : decode cL_cutAt 14 = .ok (.iconst 0, 1) := by decide +kernel
theorem dL_cutAt_15 : decode cL_cutAt 15 = .ok (.ireturn, 1) := by decide +kernel
theorem dL_input_0 : decode cL_input 0 = .ok (.aload_n 0, 1) := by decide +kernel
theorem dL_input_1 : decode cL_input 1 = .ok (.iload_n 1, 1) := by decide +kernel
theorem dL_input_2 : decode cL_input 2 = .ok (.iload_n 2, 1) := by decide +kernel
theorem dL_input_3 : decode cL_input 3 = .ok (.iload_n 3, 1) := by decide +kernel
theorem dL_input_4 : decode cL_input 4 = .ok (.invokevirtual 36, 3) := by decide +kernel
theorem dL_input_7 : decode cL_input 7 = .ok (.goto 15, 3) := by decide +kernel
theorem dL_input_10 : decode cL_input 10 = .ok (.astore 4, 2) := by decide +kernel
theorem dL_input_12 : decode cL_input 12 = .ok (.iconst 1, 1) := by decide +kernel
theorem dL_input_13 : decode cL_input 13 = .ok (.ireturn, 1) := by decide +kernel
theorem dL_input_14 : decode cL_input 14 = .ok (.astore 4, 2) := by decide +kernel
theorem dL_input_16 : decode cL_input 16 = .ok (.iconst 2, 1) := by decide +kernel
theorem dL_input_17 : decode cL_input 17 = .ok (.ireturn, 1) := by decide +kernel
theorem dL_input_18 : decode cL_input 18 = .ok (.astore 4, 2) := by decide +kernel
theorem dL_input_20 : decode cL_input 20 = .ok (.iconst 3, 1) := by decide +kernel
theorem dL_input_21 : decode cL_input 21 = .ok (.ireturn, 1) := by decide +kernel
theorem dL_input_22 : decode cL_input 22 = .ok (.iconst 0, 1) := by decide +kernel
theorem dL_input_23 : decode cL_input 23 = .ok (.ireturn, 1) := by decide +kernel
theorem dL_lockstep_0 : decode cL_lockstep 0 = .ok (.aload_n 0, 1) := by decide +kernel
theorem dL_lockstep_1 : decode cL_lockstep 1 = .ok (.iload_n 1, 1) := by decide +kernel
theorem dL_lockstep_2 : decode cL_lockstep 2 = .ok (.invokevirtual 42, 3) := by decide +kernel
theorem dL_lockstep_5 : decode cL_lockstep 5 = .ok (.goto 9, 3) := by decide +kernel
theorem dL_lockstep_8 : decode cL_lockstep 8 = .ok (.astore_n 2, 1) := by decide +kernel
theorem dL_lockstep_9 : decode cL_lockstep 9 = .ok (.iconst 1, 1) := by decide +kernel
theorem dL_lockstep_10 : decode cL_lockstep 10 = .ok (.ireturn, 1) := by decide +kernel
theorem dL_lockstep_11 : decode cL_lockstep 11 = .ok (.astore_n 2, 1) := by decide +kernel
theorem dL_lockstep_12 : decode cL_lockstep 12 = .ok (.iconst 2, 1) := by decide +kernel
theorem dL_lockstep_13 : decode cL_lockstep 13 = .ok (.ireturn, 1) := by decide +kernel
theorem dL_lockstep_14 : decode cL_lockstep 14 = .ok (.iconst 0, 1) := by decide +kernel
theorem dL_lockstep_15 : decode cL_lockstep 15 = .ok (.ireturn, 1) := by decide +kernel
theorem dL_plain_0 : decode cL_plain 0 = .ok (.aload_n 3, 1) := by decide +kernel
theorem dL_plain_1 : decode cL_plain 1 = .ok (.iconst 0, 1) := by decide +kernel
theorem dL_plain_2 : decode cL_plain 2 = .ok (.aload_n 0, 1) := by decide +kernel
theorem dL_plain_3 : decode cL_plain 3 = .ok (.iload_n 1, 1) := by decide +kernel
theorem dL_plain_4 : decode cL_plain 4 = .ok (.iload_n 2, 1) := by decide +kernel
theorem dL_plain_5 : decode cL_plain 5 = .ok (.invokevirtual 45, 3) := by decide +kernel
theorem dL_plain_8 : decode cL_plain 8 = .ok (.i2l, 1) := by decide +kernel
theorem dL_plain_9 : decode cL_plain 9 = .ok (.lastore, 1) := by decide +kernel
theorem dL_plain_10 : decode cL_plain 10 = .ok (.goto 11, 3) := by decide +kernel
theorem dL_plain_13 : decode cL_plain 13 = .ok (.astore 4, 2) := by decide +kernel
theorem dL_plain_15 : decode cL_plain 15 = .ok (.iconst 1, 1) := by decide +kernel
theorem dL_plain_16 : decode cL_plain 16 = .ok (.ireturn, 1) := by decide +kernel
theorem dL_plain_17 : decode cL_plain 17 = .ok (.astore 4, 2) := by decide +kernel
theorem dL_plain_19 : decode cL_plain 19 = .ok (.iconst 2, 1) := by decide +kernel
theorem dL_plain_20 : decode cL_plain 20 = .ok (.ireturn, 1) := by decide +kernel
theorem dL_plain_21 : decode cL_plain 21 = .ok (.iconst 0, 1) := by decide +kernel
theorem dL_plain_22 : decode cL_plain 22 = .ok (.ireturn, 1) := by decide +kernel
theorem dL_prepare_0 : decode cL_prepare 0 = .ok (.aload_n 3, 1) := by decide +kernel
theorem dL_prepare_1 : decode cL_prepare 1 = .ok (.iconst 0, 1) := by decide +kernel
theorem dL_prepare_2 : decode cL_prepare 2 = .ok (.aload_n 0, 1) := by decide +kernel
theorem dL_prepare_3 : decode cL_prepare 3 = .ok (.iload_n 1, 1) := by decide +kernel
theorem dL_prepare_4 : decode cL_prepare 4 = .ok (.iload_n 2, 1) := by decide +kernel
theorem dL_prepare_5 : decode cL_prepare 5 = .ok (.invokevirtual 48, 3) := by decide +kernel
theorem dL_prepare_8 : decode cL_prepare 8 = .ok (.i2l, 1) := by decide +kernel
theorem dL_prepare_9 : decode cL_prepare 9 = .ok (.lastore, 1) := by decide +kernel
theorem dL_prepare_10 : decode cL_prepare 10 = .ok (.goto 11, 3) := by decide +kernel
theorem dL_prepare_13 : decode cL_prepare 13 = .ok (.astore 4, 2) := by decide +kernel
theorem dL_prepare_15 : decode cL_prepare 15 = .ok (.iconst 1, 1) := by decide +kernel
theorem dL_prepare_16 : decode cL_prepare 16 = .ok (.ireturn, 1) := by decide +kernel
theorem dL_prepare_17 : decode cL_prepare 17 = .ok (.astore 4, 2) := by decide +kernel
theorem dL_prepare_19 : decode cL_prepare 19 = .ok (.iconst 2, 1) := by decide +kernel
theorem dL_prepare_20 : decode cL_prepare 20 = .ok (.ireturn, 1) := by decide +kernel
theorem dL_prepare_21 : decode cL_prepare 21 = .ok (.iconst 0, 1) := by decide +kernel
theorem dL_prepare_22 : decode cL_prepare 22 = .ok (.ireturn, 1) := by decide +kernel
theorem dL_release_0 : decode cL_release 0 = .ok (.aload_n 0, 1) := by decide +kernel
theorem dL_release_1 : decode cL_release 1 = .ok (.invokevirtual 51, 3) := by decide +kernel
theorem dL_release_4 : decode cL_release 4 = .ok (.goto 6, 3) := by decide +kernel
theorem dL_release_7 : decode cL_release 7 = .ok (.astore_n 1, 1) := by decide +kernel
theorem dL_release_8 : decode cL_release 8 = .ok (.iconst 1, 1) := by decide +kernel
theorem dL_release_9 : decode cL_release 9 = .ok (.ireturn, 1) := by decide +kernel
theorem dL_release_10 : decode cL_release 10 = .ok (.iconst 0, 1) := by decide +kernel
theorem dL_release_11 : decode cL_release 11 = .ok (.ireturn, 1) := by decide +kernel
theorem dL_stopAt_0 : decode cL_stopAt 0 = .ok (.aload_n 0, 1) := by decide +kernel
theorem dL_stopAt_1 : decode cL_stopAt 1 = .ok (.iload_n 1, 1) := by decide +kernel
theorem dL_stopAt_2 : decode cL_stopAt 2 = .ok (.invokevirtual 54, 3) := by decide +kernel
theorem dL_stopAt_5 : decode cL_stopAt 5 = .ok (.goto 9, 3) := by decide +kernel
theorem dL_stopAt_8 : decode cL_stopAt 8 = .ok (.astore_n 2, 1) := by decide +kernel
theorem dL_stopAt_9 : decode cL_stopAt 9 = .ok (.iconst 1, 1) := by decide +kernel
theorem dL_stopAt_10 : decode cL_stopAt 10 = .ok (.ireturn, 1) := by decide +kernel
theorem dL_stopAt_11 : decode cL_stopAt 11 = .ok (.astore_n 2, 1) := by decide +kernel
theorem dL_stopAt_12 : decode cL_stopAt 12 = .ok (.iconst 2, 1) := by decide +kernel
theorem dL_stopAt_13 : decode cL_stopAt 13 = .ok (.ireturn, 1) := by decide +kernel
theorem dL_stopAt_14 : decode cL_stopAt 14 = .ok (.iconst 0, 1) := by decide +kernel
theorem dL_stopAt_15 : decode cL_stopAt 15 = .ok (.ireturn, 1) := by decide +kernel
theorem dL_letter_0 : decode cL_letter 0 = .ok (.aload_n 3, 1) := by decide +kernel
theorem dL_letter_1 : decode cL_letter 1 = .ok (.iconst 0, 1) := by decide +kernel
theorem dL_letter_2 : decode cL_letter 2 = .ok (.aload_n 0, 1) := by decide +kernel
theorem dL_letter_3 : decode cL_letter 3 = .ok (.iload_n 1, 1) := by decide +kernel
theorem dL_letter_4 : decode cL_letter 4 = .ok (.iload_n 2, 1) := by decide +kernel
theorem dL_letter_5 : decode cL_letter 5 = .ok (.invokevirtual 57, 3) := by decide +kernel
theorem dL_letter_8 : decode cL_letter 8 = .ok (.i2l, 1) := by decide +kernel
theorem dL_letter_9 : decode cL_letter 9 = .ok (.lastore, 1) := by decide +kernel
theorem dL_letter_10 : decode cL_letter 10 = .ok (.goto 7, 3) := by decide +kernel
theorem dL_letter_13 : decode cL_letter 13 = .ok (.astore 4, 2) := by decide +kernel
theorem dL_letter_15 : decode cL_letter 15 = .ok (.iconst 1, 1) := by decide +kernel
theorem dL_letter_16 : decode cL_letter 16 = .ok (.ireturn, 1) := by decide +kernel
theorem dL_letter_17 : decode cL_letter 17 = .ok (.iconst 0, 1) := by decide +kernel
theorem dL_letter_18 : decode cL_letter 18 = .ok (.ireturn, 1) := by decide +kernel
theorem dL_deliver_0 : decode cL_deliver 0 = .ok (.aload_n 2, 1) := by decide +kernel
theorem dL_deliver_1 : decode cL_deliver 1 = .ok (.iconst 0, 1) := by decide +kernel
theorem dL_deliver_2 : decode cL_deliver 2 = .ok (.aload_n 0, 1) := by decide +kernel
theorem dL_deliver_3 : decode cL_deliver 3 = .ok (.iload_n 1, 1) := by decide +kernel
theorem dL_deliver_4 : decode cL_deliver 4 = .ok (.invokevirtual 60, 3) := by decide +kernel
theorem dL_deliver_7 : decode cL_deliver 7 = .ok (.i2l, 1) := by decide +kernel
theorem dL_deliver_8 : decode cL_deliver 8 = .ok (.lastore, 1) := by decide +kernel
theorem dL_deliver_9 : decode cL_deliver 9 = .ok (.goto 6, 3) := by decide +kernel
theorem dL_deliver_12 : decode cL_deliver 12 = .ok (.astore_n 3, 1) := by decide +kernel
theorem dL_deliver_13 : decode cL_deliver 13 = .ok (.iconst 1, 1) := by decide +kernel
theorem dL_deliver_14 : decode cL_deliver 14 = .ok (.ireturn, 1) := by decide +kernel
theorem dL_deliver_15 : decode cL_deliver 15 = .ok (.iconst 0, 1) := by decide +kernel
theorem dL_deliver_16 : decode cL_deliver 16 = .ok (.ireturn, 1) := by decide +kernel
theorem dL_deliverAll_0 : decode cL_deliverAll 0 = .ok (.aload 4, 2) := by decide +kernel
theorem dL_deliverAll_2 : decode cL_deliverAll 2 = .ok (.iconst 0, 1) := by decide +kernel
theorem dL_deliverAll_3 : decode cL_deliverAll 3 = .ok (.aload_n 0, 1) := by decide +kernel
theorem dL_deliverAll_4 : decode cL_deliverAll 4 = .ok (.iload_n 1, 1) := by decide +kernel
theorem dL_deliverAll_5 : decode cL_deliverAll 5 = .ok (.iload_n 2, 1) := by decide +kernel
theorem dL_deliverAll_6 : decode cL_deliverAll 6 = .ok (.iload_n 3, 1) := by decide +kernel
theorem dL_deliverAll_7 : decode cL_deliverAll 7 = .ok (.invokevirtual 63, 3) := by decide +kernel
theorem dL_deliverAll_10 : decode cL_deliverAll 10 = .ok (.i2l, 1) := by decide +kernel
theorem dL_deliverAll_11 : decode cL_deliverAll 11 = .ok (.lastore, 1) := by decide +kernel
theorem dL_deliverAll_12 : decode cL_deliverAll 12 = .ok (.goto 11, 3) := by decide +kernel
theorem dL_deliverAll_15 : decode cL_deliverAll 15 = .ok (.astore 5, 2) := by decide +kernel
theorem dL_deliverAll_17 : decode cL_deliverAll 17 = .ok (.iconst 1, 1) := by decide +kernel
theorem dL_deliverAll_18 : decode cL_deliverAll 18 = .ok (.ireturn, 1) := by decide +kernel
theorem dL_deliverAll_19 : decode cL_deliverAll 19 = .ok (.astore 5, 2) := by decide +kernel
theorem dL_deliverAll_21 : decode cL_deliverAll 21 = .ok (.iconst 2, 1) := by decide +kernel
theorem dL_deliverAll_22 : decode cL_deliverAll 22 = .ok (.ireturn, 1) := by decide +kernel
theorem dL_deliverAll_23 : decode cL_deliverAll 23 = .ok (.iconst 0, 1) := by decide +kernel
theorem dL_deliverAll_24 : decode cL_deliverAll 24 = .ok (.ireturn, 1) := by decide +kernel
theorem dL_switchTo_0 : decode cL_switchTo 0 = .ok (.aload_n 2, 1) := by decide +kernel
theorem dL_switchTo_1 : decode cL_switchTo 1 = .ok (.iconst 0, 1) := by decide +kernel
theorem dL_switchTo_2 : decode cL_switchTo 2 = .ok (.aload_n 0, 1) := by decide +kernel
theorem dL_switchTo_3 : decode cL_switchTo 3 = .ok (.iload_n 1, 1) := by decide +kernel
theorem dL_switchTo_4 : decode cL_switchTo 4 = .ok (.invokevirtual 67, 3) := by decide +kernel
theorem dL_switchTo_7 : decode cL_switchTo 7 = .ok (.i2l, 1) := by decide +kernel
theorem dL_switchTo_8 : decode cL_switchTo 8 = .ok (.lastore, 1) := by decide +kernel
theorem dL_switchTo_9 : decode cL_switchTo 9 = .ok (.goto 12, 3) := by decide +kernel
theorem dL_switchTo_12 : decode cL_switchTo 12 = .ok (.astore_n 3, 1) := by decide +kernel
theorem dL_switchTo_13 : decode cL_switchTo 13 = .ok (.iconst 1, 1) := by decide +kernel
theorem dL_switchTo_14 : decode cL_switchTo 14 = .ok (.ireturn, 1) := by decide +kernel
theorem dL_switchTo_15 : decode cL_switchTo 15 = .ok (.astore_n 3, 1) := by decide +kernel
theorem dL_switchTo_16 : decode cL_switchTo 16 = .ok (.iconst 2, 1) := by decide +kernel
theorem dL_switchTo_17 : decode cL_switchTo 17 = .ok (.ireturn, 1) := by decide +kernel
theorem dL_switchTo_18 : decode cL_switchTo 18 = .ok (.astore_n 3, 1) := by decide +kernel
theorem dL_switchTo_19 : decode cL_switchTo 19 = .ok (.iconst 3, 1) := by decide +kernel
theorem dL_switchTo_20 : decode cL_switchTo 20 = .ok (.ireturn, 1) := by decide +kernel
theorem dL_switchTo_21 : decode cL_switchTo 21 = .ok (.iconst 0, 1) := by decide +kernel
theorem dL_switchTo_22 : decode cL_switchTo 22 = .ok (.ireturn, 1) := by decide +kernel
theorem dL_roundOf_0 : decode cL_roundOf 0 = .ok (.aload_n 2, 1) := by decide +kernel
theorem dL_roundOf_1 : decode cL_roundOf 1 = .ok (.iconst 0, 1) := by decide +kernel
theorem dL_roundOf_2 : decode cL_roundOf 2 = .ok (.aload_n 0, 1) := by decide +kernel
theorem dL_roundOf_3 : decode cL_roundOf 3 = .ok (.iload_n 1, 1) := by decide +kernel
theorem dL_roundOf_4 : decode cL_roundOf 4 = .ok (.invokevirtual 70, 3) := by decide +kernel
theorem dL_roundOf_7 : decode cL_roundOf 7 = .ok (.i2l, 1) := by decide +kernel
theorem dL_roundOf_8 : decode cL_roundOf 8 = .ok (.lastore, 1) := by decide +kernel
theorem dL_roundOf_9 : decode cL_roundOf 9 = .ok (.goto 9, 3) := by decide +kernel
theorem dL_roundOf_12 : decode cL_roundOf 12 = .ok (.astore_n 3, 1) := by decide +kernel
theorem dL_roundOf_13 : decode cL_roundOf 13 = .ok (.iconst 1, 1) := by decide +kernel
theorem dL_roundOf_14 : decode cL_roundOf 14 = .ok (.ireturn, 1) := by decide +kernel
theorem dL_roundOf_15 : decode cL_roundOf 15 = .ok (.astore_n 3, 1) := by decide +kernel
theorem dL_roundOf_16 : decode cL_roundOf 16 = .ok (.iconst 2, 1) := by decide +kernel
theorem dL_roundOf_17 : decode cL_roundOf 17 = .ok (.ireturn, 1) := by decide +kernel
theorem dL_roundOf_18 : decode cL_roundOf 18 = .ok (.iconst 0, 1) := by decide +kernel
theorem dL_roundOf_19 : decode cL_roundOf 19 = .ok (.ireturn, 1) := by decide +kernel
theorem dL_value_0 : decode cL_value 0 = .ok (.aload_n 3, 1) := by decide +kernel
theorem dL_value_1 : decode cL_value 1 = .ok (.iconst 0, 1) := by decide +kernel
theorem dL_value_2 : decode cL_value 2 = .ok (.aload_n 0, 1) := by decide +kernel
theorem dL_value_3 : decode cL_value 3 = .ok (.iload_n 1, 1) := by decide +kernel
theorem dL_value_4 : decode cL_value 4 = .ok (.iload_n 2, 1) := by decide +kernel
theorem dL_value_5 : decode cL_value 5 = .ok (.invokevirtual 73, 3) := by decide +kernel
theorem dL_value_8 : decode cL_value 8 = .ok (.i2l, 1) := by decide +kernel
theorem dL_value_9 : decode cL_value 9 = .ok (.lastore, 1) := by decide +kernel
theorem dL_value_10 : decode cL_value 10 = .ok (.goto 15, 3) := by decide +kernel
theorem dL_value_13 : decode cL_value 13 = .ok (.astore 4, 2) := by decide +kernel
theorem dL_value_15 : decode cL_value 15 = .ok (.iconst 1, 1) := by decide +kernel
theorem dL_value_16 : decode cL_value 16 = .ok (.ireturn, 1) := by decide +kernel
theorem dL_value_17 : decode cL_value 17 = .ok (.astore 4, 2) := by decide +kernel
theorem dL_value_19 : decode cL_value 19 = .ok (.iconst 2, 1) := by decide +kernel
theorem dL_value_20 : decode cL_value 20 = .ok (.ireturn, 1) := by decide +kernel
theorem dL_value_21 : decode cL_value 21 = .ok (.astore 4, 2) := by decide +kernel
theorem dL_value_23 : decode cL_value 23 = .ok (.iconst 3, 1) := by decide +kernel
theorem dL_value_24 : decode cL_value 24 = .ok (.ireturn, 1) := by decide +kernel
theorem dL_value_25 : decode cL_value 25 = .ok (.iconst 0, 1) := by decide +kernel
theorem dL_value_26 : decode cL_value 26 = .ok (.ireturn, 1) := by decide +kernel
theorem dL_place_0 : decode cL_place 0 = .ok (.aload_n 3, 1) := by decide +kernel
theorem dL_place_1 : decode cL_place 1 = .ok (.iconst 0, 1) := by decide +kernel
theorem dL_place_2 : decode cL_place 2 = .ok (.aload_n 0, 1) := by decide +kernel
theorem dL_place_3 : decode cL_place 3 = .ok (.iload_n 1, 1) := by decide +kernel
theorem dL_place_4 : decode cL_place 4 = .ok (.iload_n 2, 1) := by decide +kernel
theorem dL_place_5 : decode cL_place 5 = .ok (.invokevirtual 76, 3) := by decide +kernel
theorem dL_place_8 : decode cL_place 8 = .ok (.i2l, 1) := by decide +kernel
theorem dL_place_9 : decode cL_place 9 = .ok (.lastore, 1) := by decide +kernel
theorem dL_place_10 : decode cL_place 10 = .ok (.goto 15, 3) := by decide +kernel
theorem dL_place_13 : decode cL_place 13 = .ok (.astore 4, 2) := by decide +kernel
theorem dL_place_15 : decode cL_place 15 = .ok (.iconst 1, 1) := by decide +kernel
theorem dL_place_16 : decode cL_place 16 = .ok (.ireturn, 1) := by decide +kernel
theorem dL_place_17 : decode cL_place 17 = .ok (.astore 4, 2) := by decide +kernel
theorem dL_place_19 : decode cL_place 19 = .ok (.iconst 2, 1) := by decide +kernel
theorem dL_place_20 : decode cL_place 20 = .ok (.ireturn, 1) := by decide +kernel
theorem dL_place_21 : decode cL_place 21 = .ok (.astore 4, 2) := by decide +kernel
theorem dL_place_23 : decode cL_place 23 = .ok (.iconst 3, 1) := by decide +kernel
theorem dL_place_24 : decode cL_place 24 = .ok (.ireturn, 1) := by decide +kernel
theorem dL_place_25 : decode cL_place 25 = .ok (.iconst 0, 1) := by decide +kernel
theorem dL_place_26 : decode cL_place 26 = .ok (.ireturn, 1) := by decide +kernel
theorem dL_chosen_0 : decode cL_chosen 0 = .ok (.aload_n 3, 1) := by decide +kernel
theorem dL_chosen_1 : decode cL_chosen 1 = .ok (.iconst 0, 1) := by decide +kernel
theorem dL_chosen_2 : decode cL_chosen 2 = .ok (.aload_n 0, 1) := by decide +kernel
theorem dL_chosen_3 : decode cL_chosen 3 = .ok (.iload_n 1, 1) := by decide +kernel
theorem dL_chosen_4 : decode cL_chosen 4 = .ok (.iload_n 2, 1) := by decide +kernel
theorem dL_chosen_5 : decode cL_chosen 5 = .ok (.invokevirtual 79, 3) := by decide +kernel
theorem dL_chosen_8 : decode cL_chosen 8 = .ok (.i2l, 1) := by decide +kernel
theorem dL_chosen_9 : decode cL_chosen 9 = .ok (.lastore, 1) := by decide +kernel
theorem dL_chosen_10 : decode cL_chosen 10 = .ok (.goto 7, 3) := by decide +kernel
theorem dL_chosen_13 : decode cL_chosen 13 = .ok (.astore 4, 2) := by decide +kernel
theorem dL_chosen_15 : decode cL_chosen 15 = .ok (.iconst 1, 1) := by decide +kernel
theorem dL_chosen_16 : decode cL_chosen 16 = .ok (.ireturn, 1) := by decide +kernel
theorem dL_chosen_17 : decode cL_chosen 17 = .ok (.iconst 0, 1) := by decide +kernel
theorem dL_chosen_18 : decode cL_chosen 18 = .ok (.ireturn, 1) := by decide +kernel
theorem dL_count_0 : decode cL_count 0 = .ok (.aload_n 2, 1) := by decide +kernel
theorem dL_count_1 : decode cL_count 1 = .ok (.iconst 0, 1) := by decide +kernel
theorem dL_count_2 : decode cL_count 2 = .ok (.aload_n 0, 1) := by decide +kernel
theorem dL_count_3 : decode cL_count 3 = .ok (.iload_n 1, 1) := by decide +kernel
theorem dL_count_4 : decode cL_count 4 = .ok (.invokevirtual 82, 3) := by decide +kernel
theorem dL_count_7 : decode cL_count 7 = .ok (.i2l, 1) := by decide +kernel
theorem dL_count_8 : decode cL_count 8 = .ok (.lastore, 1) := by decide +kernel
theorem dL_count_9 : decode cL_count 9 = .ok (.goto 6, 3) := by decide +kernel
theorem dL_count_12 : decode cL_count 12 = .ok (.astore_n 3, 1) := by decide +kernel
theorem dL_count_13 : decode cL_count 13 = .ok (.iconst 1, 1) := by decide +kernel
theorem dL_count_14 : decode cL_count 14 = .ok (.ireturn, 1) := by decide +kernel
theorem dL_count_15 : decode cL_count 15 = .ok (.iconst 0, 1) := by decide +kernel
theorem dL_count_16 : decode cL_count 16 = .ok (.ireturn, 1) := by decide +kernel
theorem dL_law_0 : decode cL_law 0 = .ok (.new 8, 3) := by decide +kernel
theorem dL_law_3 : decode cL_law 3 = .ok (.dup, 1) := by decide +kernel
theorem dL_law_4 : decode cL_law 4 = .ok (.invokespecial 85, 3) := by decide +kernel
theorem dL_law_7 : decode cL_law 7 = .ok (.astore_n 1, 1) := by decide +kernel
theorem dL_law_8 : decode cL_law 8 = .ok (.new 86, 3) := by decide +kernel
theorem dL_law_11 : decode cL_law 11 = .ok (.dup, 1) := by decide +kernel
theorem dL_law_12 : decode cL_law 12 = .ok (.invokespecial 88, 3) := by decide +kernel
theorem dL_law_15 : decode cL_law 15 = .ok (.astore_n 2, 1) := by decide +kernel
theorem dL_law_16 : decode cL_law 16 = .ok (.iconst 1, 1) := by decide +kernel
theorem dL_law_17 : decode cL_law 17 = .ok (.newarray .long, 2) := by decide +kernel
theorem dL_law_19 : decode cL_law 19 = .ok (.astore_n 3, 1) := by decide +kernel
theorem dL_law_20 : decode cL_law 20 = .ok (.iconst 0, 1) := by decide +kernel
theorem dL_law_21 : decode cL_law 21 = .ok (.istore 4, 2) := by decide +kernel
theorem dL_law_23 : decode cL_law 23 = .ok (.iload 4, 2) := by decide +kernel
theorem dL_law_25 : decode cL_law 25 = .ok (.aload_n 0, 1) := by decide +kernel
theorem dL_law_26 : decode cL_law 26 = .ok (.arraylength, 1) := by decide +kernel
theorem dL_law_27 : decode cL_law 27 = .ok (.bipush 6, 2) := by decide +kernel
theorem dL_law_29 : decode cL_law 29 = .ok (.isub, 1) := by decide +kernel
theorem dL_law_30 : decode cL_law 30 = .ok (.if_icmp .gt 1314, 3) := by decide +kernel
theorem dL_law_33 : decode cL_law 33 = .ok (.aload_n 0, 1) := by decide +kernel
theorem dL_law_34 : decode cL_law 34 = .ok (.iload 4, 2) := by decide +kernel
theorem dL_law_36 : decode cL_law 36 = .ok (.iaload, 1) := by decide +kernel
theorem dL_law_37 : decode cL_law 37 = .ok (.bipush 31, 2) := by decide +kernel
theorem dL_law_39 : decode cL_law 39 = .ok (.iand, 1) := by decide +kernel
theorem dL_law_40 : decode cL_law 40 = .ok (.tableswitch 1298 0 21 #[104, 140, 208, 312, 368, 404, 417, 477, 513, 581, 649, 673, 709, 722, 790, 846, 926, 982, 1038, 1106, 1174, 1242], 104) := by decide +kernel
theorem dL_law_144 : decode cL_law 144 = .ok (.aload_n 1, 1) := by decide +kernel
theorem dL_law_145 : decode cL_law 145 = .ok (.aload_n 0, 1) := by decide +kernel
theorem dL_law_146 : decode cL_law 146 = .ok (.iload 4, 2) := by decide +kernel
theorem dL_law_148 : decode cL_law 148 = .ok (.iconst 1, 1) := by decide +kernel
theorem dL_law_149 : decode cL_law 149 = .ok (.iadd, 1) := by decide +kernel
theorem dL_law_150 : decode cL_law 150 = .ok (.iaload, 1) := by decide +kernel
theorem dL_law_151 : decode cL_law 151 = .ok (.invokestatic 89, 3) := by decide +kernel
theorem dL_law_154 : decode cL_law 154 = .ok (.istore 5, 2) := by decide +kernel
theorem dL_law_156 : decode cL_law 156 = .ok (.aload_n 2, 1) := by decide +kernel
theorem dL_law_157 : decode cL_law 157 = .ok (.aload_n 0, 1) := by decide +kernel
theorem dL_law_158 : decode cL_law 158 = .ok (.iload 4, 2) := by decide +kernel
theorem dL_law_160 : decode cL_law 160 = .ok (.iconst 1, 1) := by decide +kernel
theorem dL_law_161 : decode cL_law 161 = .ok (.iadd, 1) := by decide +kernel
theorem dL_law_162 : decode cL_law 162 = .ok (.iaload, 1) := by decide +kernel
theorem dL_law_163 : decode cL_law 163 = .ok (.invokevirtual 94, 3) := by decide +kernel
theorem dL_law_166 : decode cL_law 166 = .ok (.aload_n 2, 1) := by decide +kernel
theorem dL_law_167 : decode cL_law 167 = .ok (.invokevirtual 95, 3) := by decide +kernel
theorem dL_law_170 : decode cL_law 170 = .ok (.iload 5, 2) := by decide +kernel
theorem dL_law_172 : decode cL_law 172 = .ok (.if_icmp .eq 5, 3) := by decide +kernel
theorem dL_law_175 : decode cL_law 175 = .ok (.iconst 0, 1) := by decide +kernel
theorem dL_law_176 : decode cL_law 176 = .ok (.ireturn, 1) := by decide +kernel
theorem dL_law_177 : decode cL_law 177 = .ok (.goto 1161, 3) := by decide +kernel
theorem dL_law_180 : decode cL_law 180 = .ok (.aload_n 1, 1) := by decide +kernel
theorem dL_law_181 : decode cL_law 181 = .ok (.aload_n 0, 1) := by decide +kernel
theorem dL_law_182 : decode cL_law 182 = .ok (.iload 4, 2) := by decide +kernel
theorem dL_law_184 : decode cL_law 184 = .ok (.iconst 1, 1) := by decide +kernel
theorem dL_law_185 : decode cL_law 185 = .ok (.iadd, 1) := by decide +kernel
theorem dL_law_186 : decode cL_law 186 = .ok (.iaload, 1) := by decide +kernel
theorem dL_law_187 : decode cL_law 187 = .ok (.aload_n 0, 1) := by decide +kernel
theorem dL_law_188 : decode cL_law 188 = .ok (.iload 4, 2) := by decide +kernel
theorem dL_law_190 : decode cL_law 190 = .ok (.iconst 2, 1) := by decide +kernel
theorem dL_law_191 : decode cL_law 191 = .ok (.iadd, 1) := by decide +kernel
theorem dL_law_192 : decode cL_law 192 = .ok (.iaload, 1) := by decide +kernel
theorem dL_law_193 : decode cL_law 193 = .ok (.aload_n 3, 1) := by decide +kernel
theorem dL_law_194 : decode cL_law 194 = .ok (.invokestatic 99, 3) := by decide +kernel
theorem dL_law_197 : decode cL_law 197 = .ok (.istore 5, 2) := by decide +kernel
theorem dL_law_199 : decode cL_law 199 = .ok (.aload_n 2, 1) := by decide +kernel
theorem dL_law_200 : decode cL_law 200 = .ok (.aload_n 0, 1) := by decide +kernel
theorem dL_law_201 : decode cL_law 201 = .ok (.iload 4, 2) := by decide +kernel
theorem dL_law_203 : decode cL_law 203 = .ok (.iconst 1, 1) := by decide +kernel
theorem dL_law_204 : decode cL_law 204 = .ok (.iadd, 1) := by decide +kernel
theorem dL_law_205 : decode cL_law 205 = .ok (.iaload, 1) := by decide +kernel
theorem dL_law_206 : decode cL_law 206 = .ok (.aload_n 0, 1) := by decide +kernel
theorem dL_law_207 : decode cL_law 207 = .ok (.iload 4, 2) := by decide +kernel
theorem dL_law_209 : decode cL_law 209 = .ok (.iconst 2, 1) := by decide +kernel
theorem dL_law_210 : decode cL_law 210 = .ok (.iadd, 1) := by decide +kernel
theorem dL_law_211 : decode cL_law 211 = .ok (.iaload, 1) := by decide +kernel
theorem dL_law_212 : decode cL_law 212 = .ok (.invokevirtual 102, 3) := by decide +kernel
theorem dL_law_215 : decode cL_law 215 = .ok (.istore 6, 2) := by decide +kernel
theorem dL_law_217 : decode cL_law 217 = .ok (.aload_n 2, 1) := by decide +kernel
theorem dL_law_218 : decode cL_law 218 = .ok (.invokevirtual 95, 3) := by decide +kernel
theorem dL_law_221 : decode cL_law 221 = .ok (.iload 5, 2) := by decide +kernel
theorem dL_law_223 : decode cL_law 223 = .ok (.if_icmp .eq 5, 3) := by decide +kernel
theorem dL_law_226 : decode cL_law 226 = .ok (.iconst 0, 1) := by decide +kernel
theorem dL_law_227 : decode cL_law 227 = .ok (.ireturn, 1) := by decide +kernel
theorem dL_law_228 : decode cL_law 228 = .ok (.iload 5, 2) := by decide +kernel
theorem dL_law_230 : decode cL_law 230 = .ok (.ifCond .ne 15, 3) := by decide +kernel
theorem dL_law_233 : decode cL_law 233 = .ok (.aload_n 3, 1) := by decide +kernel
theorem dL_law_234 : decode cL_law 234 = .ok (.iconst 0, 1) := by decide +kernel
theorem dL_law_235 : decode cL_law 235 = .ok (.laload, 1) := by decide +kernel
theorem dL_law_236 : decode cL_law 236 = .ok (.iload 6, 2) := by decide +kernel
theorem dL_law_238 : decode cL_law 238 = .ok (.i2l, 1) := by decide +kernel
theorem dL_law_239 : decode cL_law 239 = .ok (.lcmp, 1) := by decide +kernel
theorem dL_law_240 : decode cL_law 240 = .ok (.ifCond .eq 5, 3) := by decide +kernel
theorem dL_law_243 : decode cL_law 243 = .ok (.iconst 0, 1) := by decide +kernel
theorem dL_law_244 : decode cL_law 244 = .ok (.ireturn, 1) := by decide +kernel
theorem dL_law_245 : decode cL_law 245 = .ok (.goto 1093, 3) := by decide +kernel
theorem dL_law_248 : decode cL_law 248 = .ok (.aload_n 1, 1) := by decide +kernel
theorem dL_law_249 : decode cL_law 249 = .ok (.aload_n 0, 1) := by decide +kernel
theorem dL_law_250 : decode cL_law 250 = .ok (.iload 4, 2) := by decide +kernel
theorem dL_law_252 : decode cL_law 252 = .ok (.iconst 1, 1) := by decide +kernel
theorem dL_law_253 : decode cL_law 253 = .ok (.iadd, 1) := by decide +kernel
theorem dL_law_254 : decode cL_law 254 = .ok (.iaload, 1) := by decide +kernel
theorem dL_law_255 : decode cL_law 255 = .ok (.aload_n 0, 1) := by decide +kernel
theorem dL_law_256 : decode cL_law 256 = .ok (.iload 4, 2) := by decide +kernel
theorem dL_law_258 : decode cL_law 258 = .ok (.iconst 2, 1) := by decide +kernel
theorem dL_law_259 : decode cL_law 259 = .ok (.iadd, 1) := by decide +kernel
theorem dL_law_260 : decode cL_law 260 = .ok (.iaload, 1) := by decide +kernel
theorem dL_law_261 : decode cL_law 261 = .ok (.aload_n 0, 1) := by decide +kernel
theorem dL_law_262 : decode cL_law 262 = .ok (.iload 4, 2) := by decide +kernel
theorem dL_law_264 : decode cL_law 264 = .ok (.iconst 3, 1) := by decide +kernel
theorem dL_law_265 : decode cL_law 265 = .ok (.iadd, 1) := by decide +kernel
theorem dL_law_266 : decode cL_law 266 = .ok (.iaload, 1) := by decide +kernel
theorem dL_law_267 : decode cL_law 267 = .ok (.aload_n 0, 1) := by decide +kernel
theorem dL_law_268 : decode cL_law 268 = .ok (.iload 4, 2) := by decide +kernel
theorem dL_law_270 : decode cL_law 270 = .ok (.iconst 4, 1) := by decide +kernel
theorem dL_law_271 : decode cL_law 271 = .ok (.iadd, 1) := by decide +kernel
theorem dL_law_272 : decode cL_law 272 = .ok (.iaload, 1) := by decide +kernel
theorem dL_law_273 : decode cL_law 273 = .ok (.aload_n 0, 1) := by decide +kernel
theorem dL_law_274 : decode cL_law 274 = .ok (.iload 4, 2) := by decide +kernel
theorem dL_law_276 : decode cL_law 276 = .ok (.iconst 5, 1) := by decide +kernel
theorem dL_law_277 : decode cL_law 277 = .ok (.iadd, 1) := by decide +kernel
theorem dL_law_278 : decode cL_law 278 = .ok (.iaload, 1) := by decide +kernel
theorem dL_law_279 : decode cL_law 279 = .ok (.aload_n 3, 1) := by decide +kernel
theorem dL_law_280 : decode cL_law 280 = .ok (.invokestatic 103, 3) := by decide +kernel
theorem dL_law_283 : decode cL_law 283 = .ok (.istore 5, 2) := by decide +kernel
theorem dL_law_285 : decode cL_law 285 = .ok (.aload_n 2, 1) := by decide +kernel
theorem dL_law_286 : decode cL_law 286 = .ok (.aload_n 0, 1) := by decide +kernel
theorem dL_law_287 : decode cL_law 287 = .ok (.iload 4, 2) := by decide +kernel
theorem dL_law_289 : decode cL_law 289 = .ok (.iconst 1, 1) := by decide +kernel
theorem dL_law_290 : decode cL_law 290 = .ok (.iadd, 1) := by decide +kernel
theorem dL_law_291 : decode cL_law 291 = .ok (.iaload, 1) := by decide +kernel
theorem dL_law_292 : decode cL_law 292 = .ok (.aload_n 0, 1) := by decide +kernel
theorem dL_law_293 : decode cL_law 293 = .ok (.iload 4, 2) := by decide +kernel
theorem dL_law_295 : decode cL_law 295 = .ok (.iconst 2, 1) := by decide +kernel
theorem dL_law_296 : decode cL_law 296 = .ok (.iadd, 1) := by decide +kernel
theorem dL_law_297 : decode cL_law 297 = .ok (.iaload, 1) := by decide +kernel
theorem dL_law_298 : decode cL_law 298 = .ok (.aload_n 0, 1) := by decide +kernel
theorem dL_law_299 : decode cL_law 299 = .ok (.iload 4, 2) := by decide +kernel
theorem dL_law_301 : decode cL_law 301 = .ok (.iconst 3, 1) := by decide +kernel
theorem dL_law_302 : decode cL_law 302 = .ok (.iadd, 1) := by decide +kernel
theorem dL_law_303 : decode cL_law 303 = .ok (.iaload, 1) := by decide +kernel
theorem dL_law_304 : decode cL_law 304 = .ok (.aload_n 0, 1) := by decide +kernel
theorem dL_law_305 : decode cL_law 305 = .ok (.iload 4, 2) := by decide +kernel
theorem dL_law_307 : decode cL_law 307 = .ok (.iconst 4, 1) := by decide +kernel
theorem dL_law_308 : decode cL_law 308 = .ok (.iadd, 1) := by decide +kernel
theorem dL_law_309 : decode cL_law 309 = .ok (.iaload, 1) := by decide +kernel
theorem dL_law_310 : decode cL_law 310 = .ok (.aload_n 0, 1) := by decide +kernel
theorem dL_law_311 : decode cL_law 311 = .ok (.iload 4, 2) := by decide +kernel
theorem dL_law_313 : decode cL_law 313 = .ok (.iconst 5, 1) := by decide +kernel
theorem dL_law_314 : decode cL_law 314 = .ok (.iadd, 1) := by decide +kernel
theorem dL_law_315 : decode cL_law 315 = .ok (.iaload, 1) := by decide +kernel
theorem dL_law_316 : decode cL_law 316 = .ok (.invokevirtual 106, 3) := by decide +kernel
theorem dL_law_319 : decode cL_law 319 = .ok (.istore 6, 2) := by decide +kernel
theorem dL_law_321 : decode cL_law 321 = .ok (.aload_n 2, 1) := by decide +kernel
theorem dL_law_322 : decode cL_law 322 = .ok (.invokevirtual 95, 3) := by decide +kernel
theorem dL_law_325 : decode cL_law 325 = .ok (.iload 5, 2) := by decide +kernel
theorem dL_law_327 : decode cL_law 327 = .ok (.if_icmp .eq 5, 3) := by decide +kernel
theorem dL_law_330 : decode cL_law 330 = .ok (.iconst 0, 1) := by decide +kernel
theorem dL_law_331 : decode cL_law 331 = .ok (.ireturn, 1) := by decide +kernel
theorem dL_law_332 : decode cL_law 332 = .ok (.iload 5, 2) := by decide +kernel
theorem dL_law_334 : decode cL_law 334 = .ok (.ifCond .ne 15, 3) := by decide +kernel
theorem dL_law_337 : decode cL_law 337 = .ok (.aload_n 3, 1) := by decide +kernel
theorem dL_law_338 : decode cL_law 338 = .ok (.iconst 0, 1) := by decide +kernel
theorem dL_law_339 : decode cL_law 339 = .ok (.laload, 1) := by decide +kernel
theorem dL_law_340 : decode cL_law 340 = .ok (.iload 6, 2) := by decide +kernel
theorem dL_law_342 : decode cL_law 342 = .ok (.i2l, 1) := by decide +kernel
theorem dL_law_343 : decode cL_law 343 = .ok (.lcmp, 1) := by decide +kernel
theorem dL_law_344 : decode cL_law 344 = .ok (.ifCond .eq 5, 3) := by decide +kernel
theorem dL_law_347 : decode cL_law 347 = .ok (.iconst 0, 1) := by decide +kernel
theorem dL_law_348 : decode cL_law 348 = .ok (.ireturn, 1) := by decide +kernel
theorem dL_law_349 : decode cL_law 349 = .ok (.goto 989, 3) := by decide +kernel
theorem dL_law_352 : decode cL_law 352 = .ok (.aload_n 1, 1) := by decide +kernel
theorem dL_law_353 : decode cL_law 353 = .ok (.aload_n 0, 1) := by decide +kernel
theorem dL_law_354 : decode cL_law 354 = .ok (.iload 4, 2) := by decide +kernel
theorem dL_law_356 : decode cL_law 356 = .ok (.iconst 1, 1) := by decide +kernel
theorem dL_law_357 : decode cL_law 357 = .ok (.iadd, 1) := by decide +kernel
theorem dL_law_358 : decode cL_law 358 = .ok (.iaload, 1) := by decide +kernel
theorem dL_law_359 : decode cL_law 359 = .ok (.aload_n 3, 1) := by decide +kernel
theorem dL_law_360 : decode cL_law 360 = .ok (.invokestatic 107, 3) := by decide +kernel
theorem dL_law_363 : decode cL_law 363 = .ok (.istore 5, 2) := by decide +kernel
theorem dL_law_365 : decode cL_law 365 = .ok (.aload_n 2, 1) := by decide +kernel
theorem dL_law_366 : decode cL_law 366 = .ok (.aload_n 0, 1) := by decide +kernel
theorem dL_law_367 : decode cL_law 367 = .ok (.iload 4, 2) := by decide +kernel
theorem dL_law_369 : decode cL_law 369 = .ok (.iconst 1, 1) := by decide +kernel
theorem dL_law_370 : decode cL_law 370 = .ok (.iadd, 1) := by decide +kernel
theorem dL_law_371 : decode cL_law 371 = .ok (.iaload, 1) := by decide +kernel
theorem dL_law_372 : decode cL_law 372 = .ok (.invokevirtual 110, 3) := by decide +kernel
theorem dL_law_375 : decode cL_law 375 = .ok (.istore 6, 2) := by decide +kernel
theorem dL_law_377 : decode cL_law 377 = .ok (.aload_n 2, 1) := by decide +kernel
theorem dL_law_378 : decode cL_law 378 = .ok (.invokevirtual 95, 3) := by decide +kernel
theorem dL_law_381 : decode cL_law 381 = .ok (.iload 5, 2) := by decide +kernel
theorem dL_law_383 : decode cL_law 383 = .ok (.if_icmp .eq 5, 3) := by decide +kernel
theorem dL_law_386 : decode cL_law 386 = .ok (.iconst 0, 1) := by decide +kernel
theorem dL_law_387 : decode cL_law 387 = .ok (.ireturn, 1) := by decide +kernel
theorem dL_law_388 : decode cL_law 388 = .ok (.iload 5, 2) := by decide +kernel
theorem dL_law_390 : decode cL_law 390 = .ok (.ifCond .ne 15, 3) := by decide +kernel
theorem dL_law_393 : decode cL_law 393 = .ok (.aload_n 3, 1) := by decide +kernel
theorem dL_law_394 : decode cL_law 394 = .ok (.iconst 0, 1) := by decide +kernel
theorem dL_law_395 : decode cL_law 395 = .ok (.laload, 1) := by decide +kernel
theorem dL_law_396 : decode cL_law 396 = .ok (.iload 6, 2) := by decide +kernel
theorem dL_law_398 : decode cL_law 398 = .ok (.i2l, 1) := by decide +kernel
theorem dL_law_399 : decode cL_law 399 = .ok (.lcmp, 1) := by decide +kernel
theorem dL_law_400 : decode cL_law 400 = .ok (.ifCond .eq 5, 3) := by decide +kernel
theorem dL_law_403 : decode cL_law 403 = .ok (.iconst 0, 1) := by decide +kernel
theorem dL_law_404 : decode cL_law 404 = .ok (.ireturn, 1) := by decide +kernel
theorem dL_law_405 : decode cL_law 405 = .ok (.goto 933, 3) := by decide +kernel
theorem dL_law_408 : decode cL_law 408 = .ok (.aload_n 1, 1) := by decide +kernel
theorem dL_law_409 : decode cL_law 409 = .ok (.aload_n 0, 1) := by decide +kernel
theorem dL_law_410 : decode cL_law 410 = .ok (.iload 4, 2) := by decide +kernel
theorem dL_law_412 : decode cL_law 412 = .ok (.iconst 1, 1) := by decide +kernel
theorem dL_law_413 : decode cL_law 413 = .ok (.iadd, 1) := by decide +kernel
theorem dL_law_414 : decode cL_law 414 = .ok (.iaload, 1) := by decide +kernel
theorem dL_law_415 : decode cL_law 415 = .ok (.invokestatic 111, 3) := by decide +kernel
theorem dL_law_418 : decode cL_law 418 = .ok (.istore 5, 2) := by decide +kernel
theorem dL_law_420 : decode cL_law 420 = .ok (.aload_n 2, 1) := by decide +kernel
theorem dL_law_421 : decode cL_law 421 = .ok (.aload_n 0, 1) := by decide +kernel
theorem dL_law_422 : decode cL_law 422 = .ok (.iload 4, 2) := by decide +kernel
theorem dL_law_424 : decode cL_law 424 = .ok (.iconst 1, 1) := by decide +kernel
theorem dL_law_425 : decode cL_law 425 = .ok (.iadd, 1) := by decide +kernel
theorem dL_law_426 : decode cL_law 426 = .ok (.iaload, 1) := by decide +kernel
theorem dL_law_427 : decode cL_law 427 = .ok (.invokevirtual 113, 3) := by decide +kernel
theorem dL_law_430 : decode cL_law 430 = .ok (.aload_n 2, 1) := by decide +kernel
theorem dL_law_431 : decode cL_law 431 = .ok (.invokevirtual 95, 3) := by decide +kernel
theorem dL_law_434 : decode cL_law 434 = .ok (.iload 5, 2) := by decide +kernel
theorem dL_law_436 : decode cL_law 436 = .ok (.if_icmp .eq 5, 3) := by decide +kernel
theorem dL_law_439 : decode cL_law 439 = .ok (.iconst 0, 1) := by decide +kernel
theorem dL_law_440 : decode cL_law 440 = .ok (.ireturn, 1) := by decide +kernel
theorem dL_law_441 : decode cL_law 441 = .ok (.goto 897, 3) := by decide +kernel
theorem dL_law_444 : decode cL_law 444 = .ok (.aload_n 1, 1) := by decide +kernel
theorem dL_law_445 : decode cL_law 445 = .ok (.invokevirtual 114, 3) := by decide +kernel
theorem dL_law_448 : decode cL_law 448 = .ok (.aload_n 2, 1) := by decide +kernel
theorem dL_law_449 : decode cL_law 449 = .ok (.invokevirtual 117, 3) := by decide +kernel
theorem dL_law_452 : decode cL_law 452 = .ok (.if_icmp .eq 886, 3) := by decide +kernel
theorem dL_law_455 : decode cL_law 455 = .ok (.iconst 0, 1) := by decide +kernel
theorem dL_law_456 : decode cL_law 456 = .ok (.ireturn, 1) := by decide +kernel
theorem dL_law_457 : decode cL_law 457 = .ok (.aload_n 1, 1) := by decide +kernel
theorem dL_law_458 : decode cL_law 458 = .ok (.aload_n 0, 1) := by decide +kernel
theorem dL_law_459 : decode cL_law 459 = .ok (.iload 4, 2) := by decide +kernel
theorem dL_law_461 : decode cL_law 461 = .ok (.iconst 1, 1) := by decide +kernel
theorem dL_law_462 : decode cL_law 462 = .ok (.iadd, 1) := by decide +kernel
theorem dL_law_463 : decode cL_law 463 = .ok (.iaload, 1) := by decide +kernel
theorem dL_law_464 : decode cL_law 464 = .ok (.aload_n 0, 1) := by decide +kernel
theorem dL_law_465 : decode cL_law 465 = .ok (.iload 4, 2) := by decide +kernel
theorem dL_law_467 : decode cL_law 467 = .ok (.iconst 2, 1) := by decide +kernel
theorem dL_law_468 : decode cL_law 468 = .ok (.iadd, 1) := by decide +kernel
theorem dL_law_469 : decode cL_law 469 = .ok (.iaload, 1) := by decide +kernel
theorem dL_law_470 : decode cL_law 470 = .ok (.aload_n 0, 1) := by decide +kernel
theorem dL_law_471 : decode cL_law 471 = .ok (.iload 4, 2) := by decide +kernel
theorem dL_law_473 : decode cL_law 473 = .ok (.iconst 3, 1) := by decide +kernel
theorem dL_law_474 : decode cL_law 474 = .ok (.iadd, 1) := by decide +kernel
theorem dL_law_475 : decode cL_law 475 = .ok (.iaload, 1) := by decide +kernel
theorem dL_law_476 : decode cL_law 476 = .ok (.invokestatic 118, 3) := by decide +kernel
theorem dL_law_479 : decode cL_law 479 = .ok (.istore 5, 2) := by decide +kernel
theorem dL_law_481 : decode cL_law 481 = .ok (.aload_n 2, 1) := by decide +kernel
theorem dL_law_482 : decode cL_law 482 = .ok (.aload_n 0, 1) := by decide +kernel
theorem dL_law_483 : decode cL_law 483 = .ok (.iload 4, 2) := by decide +kernel
theorem dL_law_485 : decode cL_law 485 = .ok (.iconst 1, 1) := by decide +kernel
theorem dL_law_486 : decode cL_law 486 = .ok (.iadd, 1) := by decide +kernel
theorem dL_law_487 : decode cL_law 487 = .ok (.iaload, 1) := by decide +kernel
theorem dL_law_488 : decode cL_law 488 = .ok (.aload_n 0, 1) := by decide +kernel
theorem dL_law_489 : decode cL_law 489 = .ok (.iload 4, 2) := by decide +kernel
theorem dL_law_491 : decode cL_law 491 = .ok (.iconst 2, 1) := by decide +kernel
theorem dL_law_492 : decode cL_law 492 = .ok (.iadd, 1) := by decide +kernel
theorem dL_law_493 : decode cL_law 493 = .ok (.iaload, 1) := by decide +kernel
theorem dL_law_494 : decode cL_law 494 = .ok (.aload_n 0, 1) := by decide +kernel
theorem dL_law_495 : decode cL_law 495 = .ok (.iload 4, 2) := by decide +kernel
theorem dL_law_497 : decode cL_law 497 = .ok (.iconst 3, 1) := by decide +kernel
theorem dL_law_498 : decode cL_law 498 = .ok (.iadd, 1) := by decide +kernel
theorem dL_law_499 : decode cL_law 499 = .ok (.iaload, 1) := by decide +kernel
theorem dL_law_500 : decode cL_law 500 = .ok (.invokevirtual 121, 3) := by decide +kernel
theorem dL_law_503 : decode cL_law 503 = .ok (.aload_n 2, 1) := by decide +kernel
theorem dL_law_504 : decode cL_law 504 = .ok (.invokevirtual 95, 3) := by decide +kernel
theorem dL_law_507 : decode cL_law 507 = .ok (.iload 5, 2) := by decide +kernel
theorem dL_law_509 : decode cL_law 509 = .ok (.if_icmp .eq 5, 3) := by decide +kernel
theorem dL_law_512 : decode cL_law 512 = .ok (.iconst 0, 1) := by decide +kernel
theorem dL_law_513 : decode cL_law 513 = .ok (.ireturn, 1) := by decide +kernel
theorem dL_law_514 : decode cL_law 514 = .ok (.goto 824, 3) := by decide +kernel
theorem dL_law_517 : decode cL_law 517 = .ok (.aload_n 1, 1) := by decide +kernel
theorem dL_law_518 : decode cL_law 518 = .ok (.aload_n 0, 1) := by decide +kernel
theorem dL_law_519 : decode cL_law 519 = .ok (.iload 4, 2) := by decide +kernel
theorem dL_law_521 : decode cL_law 521 = .ok (.iconst 1, 1) := by decide +kernel
theorem dL_law_522 : decode cL_law 522 = .ok (.iadd, 1) := by decide +kernel
theorem dL_law_523 : decode cL_law 523 = .ok (.iaload, 1) := by decide +kernel
theorem dL_law_524 : decode cL_law 524 = .ok (.invokestatic 122, 3) := by decide +kernel
theorem dL_law_527 : decode cL_law 527 = .ok (.istore 5, 2) := by decide +kernel
theorem dL_law_529 : decode cL_law 529 = .ok (.aload_n 2, 1) := by decide +kernel
theorem dL_law_530 : decode cL_law 530 = .ok (.aload_n 0, 1) := by decide +kernel
theorem dL_law_531 : decode cL_law 531 = .ok (.iload 4, 2) := by decide +kernel
theorem dL_law_533 : decode cL_law 533 = .ok (.iconst 1, 1) := by decide +kernel
theorem dL_law_534 : decode cL_law 534 = .ok (.iadd, 1) := by decide +kernel
theorem dL_law_535 : decode cL_law 535 = .ok (.iaload, 1) := by decide +kernel
theorem dL_law_536 : decode cL_law 536 = .ok (.invokevirtual 124, 3) := by decide +kernel
theorem dL_law_539 : decode cL_law 539 = .ok (.aload_n 2, 1) := by decide +kernel
theorem dL_law_540 : decode cL_law 540 = .ok (.invokevirtual 95, 3) := by decide +kernel
theorem dL_law_543 : decode cL_law 543 = .ok (.iload 5, 2) := by decide +kernel
theorem dL_law_545 : decode cL_law 545 = .ok (.if_icmp .eq 5, 3) := by decide +kernel
theorem dL_law_548 : decode cL_law 548 = .ok (.iconst 0, 1) := by decide +kernel
theorem dL_law_549 : decode cL_law 549 = .ok (.ireturn, 1) := by decide +kernel
theorem dL_law_550 : decode cL_law 550 = .ok (.goto 788, 3) := by decide +kernel
theorem dL_law_553 : decode cL_law 553 = .ok (.aload_n 1, 1) := by decide +kernel
theorem dL_law_554 : decode cL_law 554 = .ok (.aload_n 0, 1) := by decide +kernel
theorem dL_law_555 : decode cL_law 555 = .ok (.iload 4, 2) := by decide +kernel
theorem dL_law_557 : decode cL_law 557 = .ok (.iconst 1, 1) := by decide +kernel
theorem dL_law_558 : decode cL_law 558 = .ok (.iadd, 1) := by decide +kernel
theorem dL_law_559 : decode cL_law 559 = .ok (.iaload, 1) := by decide +kernel
theorem dL_law_560 : decode cL_law 560 = .ok (.aload_n 0, 1) := by decide +kernel
theorem dL_law_561 : decode cL_law 561 = .ok (.iload 4, 2) := by decide +kernel
theorem dL_law_563 : decode cL_law 563 = .ok (.iconst 2, 1) := by decide +kernel
theorem dL_law_564 : decode cL_law 564 = .ok (.iadd, 1) := by decide +kernel
theorem dL_law_565 : decode cL_law 565 = .ok (.iaload, 1) := by decide +kernel
theorem dL_law_566 : decode cL_law 566 = .ok (.aload_n 3, 1) := by decide +kernel
theorem dL_law_567 : decode cL_law 567 = .ok (.invokestatic 125, 3) := by decide +kernel
theorem dL_law_570 : decode cL_law 570 = .ok (.istore 5, 2) := by decide +kernel
theorem dL_law_572 : decode cL_law 572 = .ok (.aload_n 2, 1) := by decide +kernel
theorem dL_law_573 : decode cL_law 573 = .ok (.aload_n 0, 1) := by decide +kernel
theorem dL_law_574 : decode cL_law 574 = .ok (.iload 4, 2) := by decide +kernel
theorem dL_law_576 : decode cL_law 576 = .ok (.iconst 1, 1) := by decide +kernel
theorem dL_law_577 : decode cL_law 577 = .ok (.iadd, 1) := by decide +kernel
theorem dL_law_578 : decode cL_law 578 = .ok (.iaload, 1) := by decide +kernel
theorem dL_law_579 : decode cL_law 579 = .ok (.aload_n 0, 1) := by decide +kernel
theorem dL_law_580 : decode cL_law 580 = .ok (.iload 4, 2) := by decide +kernel
theorem dL_law_582 : decode cL_law 582 = .ok (.iconst 2, 1) := by decide +kernel
theorem dL_law_583 : decode cL_law 583 = .ok (.iadd, 1) := by decide +kernel
theorem dL_law_584 : decode cL_law 584 = .ok (.iaload, 1) := by decide +kernel
theorem dL_law_585 : decode cL_law 585 = .ok (.invokevirtual 127, 3) := by decide +kernel
theorem dL_law_588 : decode cL_law 588 = .ok (.istore 6, 2) := by decide +kernel
theorem dL_law_590 : decode cL_law 590 = .ok (.aload_n 2, 1) := by decide +kernel
theorem dL_law_591 : decode cL_law 591 = .ok (.invokevirtual 95, 3) := by decide +kernel
theorem dL_law_594 : decode cL_law 594 = .ok (.iload 5, 2) := by decide +kernel
theorem dL_law_596 : decode cL_law 596 = .ok (.if_icmp .eq 5, 3) := by decide +kernel
theorem dL_law_599 : decode cL_law 599 = .ok (.iconst 0, 1) := by decide +kernel
theorem dL_law_600 : decode cL_law 600 = .ok (.ireturn, 1) := by decide +kernel
theorem dL_law_601 : decode cL_law 601 = .ok (.iload 5, 2) := by decide +kernel
theorem dL_law_603 : decode cL_law 603 = .ok (.ifCond .ne 15, 3) := by decide +kernel
theorem dL_law_606 : decode cL_law 606 = .ok (.aload_n 3, 1) := by decide +kernel
theorem dL_law_607 : decode cL_law 607 = .ok (.iconst 0, 1) := by decide +kernel
theorem dL_law_608 : decode cL_law 608 = .ok (.laload, 1) := by decide +kernel
theorem dL_law_609 : decode cL_law 609 = .ok (.iload 6, 2) := by decide +kernel
theorem dL_law_611 : decode cL_law 611 = .ok (.i2l, 1) := by decide +kernel
theorem dL_law_612 : decode cL_law 612 = .ok (.lcmp, 1) := by decide +kernel
theorem dL_law_613 : decode cL_law 613 = .ok (.ifCond .eq 5, 3) := by decide +kernel
theorem dL_law_616 : decode cL_law 616 = .ok (.iconst 0, 1) := by decide +kernel
theorem dL_law_617 : decode cL_law 617 = .ok (.ireturn, 1) := by decide +kernel
theorem dL_law_618 : decode cL_law 618 = .ok (.goto 720, 3) := by decide +kernel
theorem dL_law_621 : decode cL_law 621 = .ok (.aload_n 1, 1) := by decide +kernel
theorem dL_law_622 : decode cL_law 622 = .ok (.aload_n 0, 1) := by decide +kernel
theorem dL_law_623 : decode cL_law 623 = .ok (.iload 4, 2) := by decide +kernel
theorem dL_law_625 : decode cL_law 625 = .ok (.iconst 1, 1) := by decide +kernel
theorem dL_law_626 : decode cL_law 626 = .ok (.iadd, 1) := by decide +kernel
theorem dL_law_627 : decode cL_law 627 = .ok (.iaload, 1) := by decide +kernel
theorem dL_law_628 : decode cL_law 628 = .ok (.aload_n 0, 1) := by decide +kernel
theorem dL_law_629 : decode cL_law 629 = .ok (.iload 4, 2) := by decide +kernel
theorem dL_law_631 : decode cL_law 631 = .ok (.iconst 2, 1) := by decide +kernel
theorem dL_law_632 : decode cL_law 632 = .ok (.iadd, 1) := by decide +kernel
theorem dL_law_633 : decode cL_law 633 = .ok (.iaload, 1) := by decide +kernel
theorem dL_law_634 : decode cL_law 634 = .ok (.aload_n 3, 1) := by decide +kernel
theorem dL_law_635 : decode cL_law 635 = .ok (.invokestatic 128, 3) := by decide +kernel
theorem dL_law_638 : decode cL_law 638 = .ok (.istore 5, 2) := by decide +kernel
theorem dL_law_640 : decode cL_law 640 = .ok (.aload_n 2, 1) := by decide +kernel
theorem dL_law_641 : decode cL_law 641 = .ok (.aload_n 0, 1) := by decide +kernel
theorem dL_law_642 : decode cL_law 642 = .ok (.iload 4, 2) := by decide +kernel
theorem dL_law_644 : decode cL_law 644 = .ok (.iconst 1, 1) := by decide +kernel
theorem dL_law_645 : decode cL_law 645 = .ok (.iadd, 1) := by decide +kernel
theorem dL_law_646 : decode cL_law 646 = .ok (.iaload, 1) := by decide +kernel
theorem dL_law_647 : decode cL_law 647 = .ok (.aload_n 0, 1) := by decide +kernel
theorem dL_law_648 : decode cL_law 648 = .ok (.iload 4, 2) := by decide +kernel
theorem dL_law_650 : decode cL_law 650 = .ok (.iconst 2, 1) := by decide +kernel
theorem dL_law_651 : decode cL_law 651 = .ok (.iadd, 1) := by decide +kernel
theorem dL_law_652 : decode cL_law 652 = .ok (.iaload, 1) := by decide +kernel
theorem dL_law_653 : decode cL_law 653 = .ok (.invokevirtual 130, 3) := by decide +kernel
theorem dL_law_656 : decode cL_law 656 = .ok (.istore 6, 2) := by decide +kernel
theorem dL_law_658 : decode cL_law 658 = .ok (.aload_n 2, 1) := by decide +kernel
theorem dL_law_659 : decode cL_law 659 = .ok (.invokevirtual 95, 3) := by decide +kernel
theorem dL_law_662 : decode cL_law 662 = .ok (.iload 5, 2) := by decide +kernel
theorem dL_law_664 : decode cL_law 664 = .ok (.if_icmp .eq 5, 3) := by decide +kernel
theorem dL_law_667 : decode cL_law 667 = .ok (.iconst 0, 1) := by decide +kernel
theorem dL_law_668 : decode cL_law 668 = .ok (.ireturn, 1) := by decide +kernel
theorem dL_law_669 : decode cL_law 669 = .ok (.iload 5, 2) := by decide +kernel
theorem dL_law_671 : decode cL_law 671 = .ok (.ifCond .ne 15, 3) := by decide +kernel
theorem dL_law_674 : decode cL_law 674 = .ok (.aload_n 3, 1) := by decide +kernel
theorem dL_law_675 : decode cL_law 675 = .ok (.iconst 0, 1) := by decide +kernel
theorem dL_law_676 : decode cL_law 676 = .ok (.laload, 1) := by decide +kernel
theorem dL_law_677 : decode cL_law 677 = .ok (.iload 6, 2) := by decide +kernel
theorem dL_law_679 : decode cL_law 679 = .ok (.i2l, 1) := by decide +kernel
theorem dL_law_680 : decode cL_law 680 = .ok (.lcmp, 1) := by decide +kernel
theorem dL_law_681 : decode cL_law 681 = .ok (.ifCond .eq 5, 3) := by decide +kernel
theorem dL_law_684 : decode cL_law 684 = .ok (.iconst 0, 1) := by decide +kernel
theorem dL_law_685 : decode cL_law 685 = .ok (.ireturn, 1) := by decide +kernel
theorem dL_law_686 : decode cL_law 686 = .ok (.goto 652, 3) := by decide +kernel
theorem dL_law_689 : decode cL_law 689 = .ok (.aload_n 1, 1) := by decide +kernel
theorem dL_law_690 : decode cL_law 690 = .ok (.invokestatic 131, 3) := by decide +kernel
theorem dL_law_693 : decode cL_law 693 = .ok (.istore 5, 2) := by decide +kernel
theorem dL_law_695 : decode cL_law 695 = .ok (.aload_n 2, 1) := by decide +kernel
theorem dL_law_696 : decode cL_law 696 = .ok (.invokevirtual 134, 3) := by decide +kernel
theorem dL_law_699 : decode cL_law 699 = .ok (.aload_n 2, 1) := by decide +kernel
theorem dL_law_700 : decode cL_law 700 = .ok (.invokevirtual 95, 3) := by decide +kernel
theorem dL_law_703 : decode cL_law 703 = .ok (.iload 5, 2) := by decide +kernel
theorem dL_law_705 : decode cL_law 705 = .ok (.if_icmp .eq 5, 3) := by decide +kernel
theorem dL_law_708 : decode cL_law 708 = .ok (.iconst 0, 1) := by decide +kernel
theorem dL_law_709 : decode cL_law 709 = .ok (.ireturn, 1) := by decide +kernel
theorem dL_law_710 : decode cL_law 710 = .ok (.goto 628, 3) := by decide +kernel
theorem dL_law_713 : decode cL_law 713 = .ok (.aload_n 1, 1) := by decide +kernel
theorem dL_law_714 : decode cL_law 714 = .ok (.aload_n 0, 1) := by decide +kernel
theorem dL_law_715 : decode cL_law 715 = .ok (.iload 4, 2) := by decide +kernel
theorem dL_law_717 : decode cL_law 717 = .ok (.iconst 1, 1) := by decide +kernel
theorem dL_law_718 : decode cL_law 718 = .ok (.iadd, 1) := by decide +kernel
theorem dL_law_719 : decode cL_law 719 = .ok (.iaload, 1) := by decide +kernel
theorem dL_law_720 : decode cL_law 720 = .ok (.invokestatic 135, 3) := by decide +kernel
theorem dL_law_723 : decode cL_law 723 = .ok (.istore 5, 2) := by decide +kernel
theorem dL_law_725 : decode cL_law 725 = .ok (.aload_n 2, 1) := by decide +kernel
theorem dL_law_726 : decode cL_law 726 = .ok (.aload_n 0, 1) := by decide +kernel
theorem dL_law_727 : decode cL_law 727 = .ok (.iload 4, 2) := by decide +kernel
theorem dL_law_729 : decode cL_law 729 = .ok (.iconst 1, 1) := by decide +kernel
theorem dL_law_730 : decode cL_law 730 = .ok (.iadd, 1) := by decide +kernel
theorem dL_law_731 : decode cL_law 731 = .ok (.iaload, 1) := by decide +kernel
theorem dL_law_732 : decode cL_law 732 = .ok (.invokevirtual 137, 3) := by decide +kernel
theorem dL_law_735 : decode cL_law 735 = .ok (.aload_n 2, 1) := by decide +kernel
theorem dL_law_736 : decode cL_law 736 = .ok (.invokevirtual 95, 3) := by decide +kernel
theorem dL_law_739 : decode cL_law 739 = .ok (.iload 5, 2) := by decide +kernel
theorem dL_law_741 : decode cL_law 741 = .ok (.if_icmp .eq 5, 3) := by decide +kernel
theorem dL_law_744 : decode cL_law 744 = .ok (.iconst 0, 1) := by decide +kernel
theorem dL_law_745 : decode cL_law 745 = .ok (.ireturn, 1) := by decide +kernel
theorem dL_law_746 : decode cL_law 746 = .ok (.goto 592, 3) := by decide +kernel
theorem dL_law_749 : decode cL_law 749 = .ok (.aload_n 1, 1) := by decide +kernel
theorem dL_law_750 : decode cL_law 750 = .ok (.invokevirtual 138, 3) := by decide +kernel
theorem dL_law_753 : decode cL_law 753 = .ok (.aload_n 2, 1) := by decide +kernel
theorem dL_law_754 : decode cL_law 754 = .ok (.invokevirtual 141, 3) := by decide +kernel
theorem dL_law_757 : decode cL_law 757 = .ok (.if_icmp .eq 581, 3) := by decide +kernel
theorem dL_law_760 : decode cL_law 760 = .ok (.iconst 0, 1) := by decide +kernel
theorem dL_law_761 : decode cL_law 761 = .ok (.ireturn, 1) := by decide +kernel
theorem dL_law_762 : decode cL_law 762 = .ok (.aload_n 1, 1) := by decide +kernel
theorem dL_law_763 : decode cL_law 763 = .ok (.aload_n 0, 1) := by decide +kernel
theorem dL_law_764 : decode cL_law 764 = .ok (.iload 4, 2) := by decide +kernel
theorem dL_law_766 : decode cL_law 766 = .ok (.iconst 1, 1) := by decide +kernel
theorem dL_law_767 : decode cL_law 767 = .ok (.iadd, 1) := by decide +kernel
theorem dL_law_768 : decode cL_law 768 = .ok (.iaload, 1) := by decide +kernel
theorem dL_law_769 : decode cL_law 769 = .ok (.aload_n 0, 1) := by decide +kernel
theorem dL_law_770 : decode cL_law 770 = .ok (.iload 4, 2) := by decide +kernel
theorem dL_law_772 : decode cL_law 772 = .ok (.iconst 2, 1) := by decide +kernel
theorem dL_law_773 : decode cL_law 773 = .ok (.iadd, 1) := by decide +kernel
theorem dL_law_774 : decode cL_law 774 = .ok (.iaload, 1) := by decide +kernel
theorem dL_law_775 : decode cL_law 775 = .ok (.aload_n 3, 1) := by decide +kernel
theorem dL_law_776 : decode cL_law 776 = .ok (.invokestatic 142, 3) := by decide +kernel
theorem dL_law_779 : decode cL_law 779 = .ok (.istore 5, 2) := by decide +kernel
theorem dL_law_781 : decode cL_law 781 = .ok (.aload_n 2, 1) := by decide +kernel
theorem dL_law_782 : decode cL_law 782 = .ok (.aload_n 0, 1) := by decide +kernel
theorem dL_law_783 : decode cL_law 783 = .ok (.iload 4, 2) := by decide +kernel
theorem dL_law_785 : decode cL_law 785 = .ok (.iconst 1, 1) := by decide +kernel
theorem dL_law_786 : decode cL_law 786 = .ok (.iadd, 1) := by decide +kernel
theorem dL_law_787 : decode cL_law 787 = .ok (.iaload, 1) := by decide +kernel
theorem dL_law_788 : decode cL_law 788 = .ok (.aload_n 0, 1) := by decide +kernel
theorem dL_law_789 : decode cL_law 789 = .ok (.iload 4, 2) := by decide +kernel
theorem dL_law_791 : decode cL_law 791 = .ok (.iconst 2, 1) := by decide +kernel
theorem dL_law_792 : decode cL_law 792 = .ok (.iadd, 1) := by decide +kernel
theorem dL_law_793 : decode cL_law 793 = .ok (.iaload, 1) := by decide +kernel
theorem dL_law_794 : decode cL_law 794 = .ok (.invokevirtual 144, 3) := by decide +kernel
theorem dL_law_797 : decode cL_law 797 = .ok (.istore 6, 2) := by decide +kernel
theorem dL_law_799 : decode cL_law 799 = .ok (.aload_n 2, 1) := by decide +kernel
theorem dL_law_800 : decode cL_law 800 = .ok (.invokevirtual 95, 3) := by decide +kernel
theorem dL_law_803 : decode cL_law 803 = .ok (.iload 5, 2) := by decide +kernel
theorem dL_law_805 : decode cL_law 805 = .ok (.if_icmp .eq 5, 3) := by decide +kernel
theorem dL_law_808 : decode cL_law 808 = .ok (.iconst 0, 1) := by decide +kernel
theorem dL_law_809 : decode cL_law 809 = .ok (.ireturn, 1) := by decide +kernel
theorem dL_law_810 : decode cL_law 810 = .ok (.iload 5, 2) := by decide +kernel
theorem dL_law_812 : decode cL_law 812 = .ok (.ifCond .ne 15, 3) := by decide +kernel
theorem dL_law_815 : decode cL_law 815 = .ok (.aload_n 3, 1) := by decide +kernel
theorem dL_law_816 : decode cL_law 816 = .ok (.iconst 0, 1) := by decide +kernel
theorem dL_law_817 : decode cL_law 817 = .ok (.laload, 1) := by decide +kernel
theorem dL_law_818 : decode cL_law 818 = .ok (.iload 6, 2) := by decide +kernel
theorem dL_law_820 : decode cL_law 820 = .ok (.i2l, 1) := by decide +kernel
theorem dL_law_821 : decode cL_law 821 = .ok (.lcmp, 1) := by decide +kernel
theorem dL_law_822 : decode cL_law 822 = .ok (.ifCond .eq 5, 3) := by decide +kernel
theorem dL_law_825 : decode cL_law 825 = .ok (.iconst 0, 1) := by decide +kernel
theorem dL_law_826 : decode cL_law 826 = .ok (.ireturn, 1) := by decide +kernel
theorem dL_law_827 : decode cL_law 827 = .ok (.goto 511, 3) := by decide +kernel
theorem dL_law_830 : decode cL_law 830 = .ok (.aload_n 1, 1) := by decide +kernel
theorem dL_law_831 : decode cL_law 831 = .ok (.aload_n 0, 1) := by decide +kernel
theorem dL_law_832 : decode cL_law 832 = .ok (.iload 4, 2) := by decide +kernel
theorem dL_law_834 : decode cL_law 834 = .ok (.iconst 1, 1) := by decide +kernel
theorem dL_law_835 : decode cL_law 835 = .ok (.iadd, 1) := by decide +kernel
theorem dL_law_836 : decode cL_law 836 = .ok (.iaload, 1) := by decide +kernel
theorem dL_law_837 : decode cL_law 837 = .ok (.aload_n 3, 1) := by decide +kernel
theorem dL_law_838 : decode cL_law 838 = .ok (.invokestatic 145, 3) := by decide +kernel
theorem dL_law_841 : decode cL_law 841 = .ok (.istore 5, 2) := by decide +kernel
theorem dL_law_843 : decode cL_law 843 = .ok (.aload_n 2, 1) := by decide +kernel
theorem dL_law_844 : decode cL_law 844 = .ok (.aload_n 0, 1) := by decide +kernel
theorem dL_law_845 : decode cL_law 845 = .ok (.iload 4, 2) := by decide +kernel
theorem dL_law_847 : decode cL_law 847 = .ok (.iconst 1, 1) := by decide +kernel
theorem dL_law_848 : decode cL_law 848 = .ok (.iadd, 1) := by decide +kernel
theorem dL_law_849 : decode cL_law 849 = .ok (.iaload, 1) := by decide +kernel
theorem dL_law_850 : decode cL_law 850 = .ok (.invokevirtual 147, 3) := by decide +kernel
theorem dL_law_853 : decode cL_law 853 = .ok (.istore 6, 2) := by decide +kernel
theorem dL_law_855 : decode cL_law 855 = .ok (.aload_n 2, 1) := by decide +kernel
theorem dL_law_856 : decode cL_law 856 = .ok (.invokevirtual 95, 3) := by decide +kernel
theorem dL_law_859 : decode cL_law 859 = .ok (.iload 5, 2) := by decide +kernel
theorem dL_law_861 : decode cL_law 861 = .ok (.if_icmp .eq 5, 3) := by decide +kernel
theorem dL_law_864 : decode cL_law 864 = .ok (.iconst 0, 1) := by decide +kernel
theorem dL_law_865 : decode cL_law 865 = .ok (.ireturn, 1) := by decide +kernel
theorem dL_law_866 : decode cL_law 866 = .ok (.iload 5, 2) := by decide +kernel
theorem dL_law_868 : decode cL_law 868 = .ok (.ifCond .ne 15, 3) := by decide +kernel
theorem dL_law_871 : decode cL_law 871 = .ok (.aload_n 3, 1) := by decide +kernel
theorem dL_law_872 : decode cL_law 872 = .ok (.iconst 0, 1) := by decide +kernel
theorem dL_law_873 : decode cL_law 873 = .ok (.laload, 1) := by decide +kernel
theorem dL_law_874 : decode cL_law 874 = .ok (.iload 6, 2) := by decide +kernel
theorem dL_law_876 : decode cL_law 876 = .ok (.i2l, 1) := by decide +kernel
theorem dL_law_877 : decode cL_law 877 = .ok (.lcmp, 1) := by decide +kernel
theorem dL_law_878 : decode cL_law 878 = .ok (.ifCond .eq 5, 3) := by decide +kernel
theorem dL_law_881 : decode cL_law 881 = .ok (.iconst 0, 1) := by decide +kernel
theorem dL_law_882 : decode cL_law 882 = .ok (.ireturn, 1) := by decide +kernel
theorem dL_law_883 : decode cL_law 883 = .ok (.goto 455, 3) := by decide +kernel
theorem dL_law_886 : decode cL_law 886 = .ok (.aload_n 1, 1) := by decide +kernel
theorem dL_law_887 : decode cL_law 887 = .ok (.aload_n 0, 1) := by decide +kernel
theorem dL_law_888 : decode cL_law 888 = .ok (.iload 4, 2) := by decide +kernel
theorem dL_law_890 : decode cL_law 890 = .ok (.iconst 1, 1) := by decide +kernel
theorem dL_law_891 : decode cL_law 891 = .ok (.iadd, 1) := by decide +kernel
theorem dL_law_892 : decode cL_law 892 = .ok (.iaload, 1) := by decide +kernel
theorem dL_law_893 : decode cL_law 893 = .ok (.aload_n 0, 1) := by decide +kernel
theorem dL_law_894 : decode cL_law 894 = .ok (.iload 4, 2) := by decide +kernel
theorem dL_law_896 : decode cL_law 896 = .ok (.iconst 2, 1) := by decide +kernel
theorem dL_law_897 : decode cL_law 897 = .ok (.iadd, 1) := by decide +kernel
theorem dL_law_898 : decode cL_law 898 = .ok (.iaload, 1) := by decide +kernel
theorem dL_law_899 : decode cL_law 899 = .ok (.aload_n 0, 1) := by decide +kernel
theorem dL_law_900 : decode cL_law 900 = .ok (.iload 4, 2) := by decide +kernel
theorem dL_law_902 : decode cL_law 902 = .ok (.iconst 3, 1) := by decide +kernel
theorem dL_law_903 : decode cL_law 903 = .ok (.iadd, 1) := by decide +kernel
theorem dL_law_904 : decode cL_law 904 = .ok (.iaload, 1) := by decide +kernel
theorem dL_law_905 : decode cL_law 905 = .ok (.aload_n 3, 1) := by decide +kernel
theorem dL_law_906 : decode cL_law 906 = .ok (.invokestatic 148, 3) := by decide +kernel
theorem dL_law_909 : decode cL_law 909 = .ok (.istore 5, 2) := by decide +kernel
theorem dL_law_911 : decode cL_law 911 = .ok (.aload_n 2, 1) := by decide +kernel
theorem dL_law_912 : decode cL_law 912 = .ok (.aload_n 0, 1) := by decide +kernel
theorem dL_law_913 : decode cL_law 913 = .ok (.iload 4, 2) := by decide +kernel
theorem dL_law_915 : decode cL_law 915 = .ok (.iconst 1, 1) := by decide +kernel
theorem dL_law_916 : decode cL_law 916 = .ok (.iadd, 1) := by decide +kernel
theorem dL_law_917 : decode cL_law 917 = .ok (.iaload, 1) := by decide +kernel
theorem dL_law_918 : decode cL_law 918 = .ok (.aload_n 0, 1) := by decide +kernel
theorem dL_law_919 : decode cL_law 919 = .ok (.iload 4, 2) := by decide +kernel
theorem dL_law_921 : decode cL_law 921 = .ok (.iconst 2, 1) := by decide +kernel
theorem dL_law_922 : decode cL_law 922 = .ok (.iadd, 1) := by decide +kernel
theorem dL_law_923 : decode cL_law 923 = .ok (.iaload, 1) := by decide +kernel
theorem dL_law_924 : decode cL_law 924 = .ok (.aload_n 0, 1) := by decide +kernel
theorem dL_law_925 : decode cL_law 925 = .ok (.iload 4, 2) := by decide +kernel
theorem dL_law_927 : decode cL_law 927 = .ok (.iconst 3, 1) := by decide +kernel
theorem dL_law_928 : decode cL_law 928 = .ok (.iadd, 1) := by decide +kernel
theorem dL_law_929 : decode cL_law 929 = .ok (.iaload, 1) := by decide +kernel
theorem dL_law_930 : decode cL_law 930 = .ok (.invokevirtual 151, 3) := by decide +kernel
theorem dL_law_933 : decode cL_law 933 = .ok (.istore 6, 2) := by decide +kernel
theorem dL_law_935 : decode cL_law 935 = .ok (.aload_n 2, 1) := by decide +kernel
theorem dL_law_936 : decode cL_law 936 = .ok (.invokevirtual 95, 3) := by decide +kernel
theorem dL_law_939 : decode cL_law 939 = .ok (.iload 5, 2) := by decide +kernel
theorem dL_law_941 : decode cL_law 941 = .ok (.if_icmp .eq 5, 3) := by decide +kernel
theorem dL_law_944 : decode cL_law 944 = .ok (.iconst 0, 1) := by decide +kernel
theorem dL_law_945 : decode cL_law 945 = .ok (.ireturn, 1) := by decide +kernel
theorem dL_law_946 : decode cL_law 946 = .ok (.iload 5, 2) := by decide +kernel
theorem dL_law_948 : decode cL_law 948 = .ok (.ifCond .ne 15, 3) := by decide +kernel
theorem dL_law_951 : decode cL_law 951 = .ok (.aload_n 3, 1) := by decide +kernel
theorem dL_law_952 : decode cL_law 952 = .ok (.iconst 0, 1) := by decide +kernel
theorem dL_law_953 : decode cL_law 953 = .ok (.laload, 1) := by decide +kernel
theorem dL_law_954 : decode cL_law 954 = .ok (.iload 6, 2) := by decide +kernel
theorem dL_law_956 : decode cL_law 956 = .ok (.i2l, 1) := by decide +kernel
theorem dL_law_957 : decode cL_law 957 = .ok (.lcmp, 1) := by decide +kernel
theorem dL_law_958 : decode cL_law 958 = .ok (.ifCond .eq 5, 3) := by decide +kernel
theorem dL_law_961 : decode cL_law 961 = .ok (.iconst 0, 1) := by decide +kernel
theorem dL_law_962 : decode cL_law 962 = .ok (.ireturn, 1) := by decide +kernel
theorem dL_law_963 : decode cL_law 963 = .ok (.goto 375, 3) := by decide +kernel
theorem dL_law_966 : decode cL_law 966 = .ok (.aload_n 1, 1) := by decide +kernel
theorem dL_law_967 : decode cL_law 967 = .ok (.aload_n 0, 1) := by decide +kernel
theorem dL_law_968 : decode cL_law 968 = .ok (.iload 4, 2) := by decide +kernel
theorem dL_law_970 : decode cL_law 970 = .ok (.iconst 1, 1) := by decide +kernel
theorem dL_law_971 : decode cL_law 971 = .ok (.iadd, 1) := by decide +kernel
theorem dL_law_972 : decode cL_law 972 = .ok (.iaload, 1) := by decide +kernel
theorem dL_law_973 : decode cL_law 973 = .ok (.aload_n 3, 1) := by decide +kernel
theorem dL_law_974 : decode cL_law 974 = .ok (.invokestatic 152, 3) := by decide +kernel
theorem dL_law_977 : decode cL_law 977 = .ok (.istore 5, 2) := by decide +kernel
theorem dL_law_979 : decode cL_law 979 = .ok (.aload_n 2, 1) := by decide +kernel
theorem dL_law_980 : decode cL_law 980 = .ok (.aload_n 0, 1) := by decide +kernel
theorem dL_law_981 : decode cL_law 981 = .ok (.iload 4, 2) := by decide +kernel
theorem dL_law_983 : decode cL_law 983 = .ok (.iconst 1, 1) := by decide +kernel
theorem dL_law_984 : decode cL_law 984 = .ok (.iadd, 1) := by decide +kernel
theorem dL_law_985 : decode cL_law 985 = .ok (.iaload, 1) := by decide +kernel
theorem dL_law_986 : decode cL_law 986 = .ok (.invokevirtual 154, 3) := by decide +kernel
theorem dL_law_989 : decode cL_law 989 = .ok (.istore 6, 2) := by decide +kernel
theorem dL_law_991 : decode cL_law 991 = .ok (.aload_n 2, 1) := by decide +kernel
theorem dL_law_992 : decode cL_law 992 = .ok (.invokevirtual 95, 3) := by decide +kernel
theorem dL_law_995 : decode cL_law 995 = .ok (.iload 5, 2) := by decide +kernel
theorem dL_law_997 : decode cL_law 997 = .ok (.if_icmp .eq 5, 3) := by decide +kernel
theorem dL_law_1000 : decode cL_law 1000 = .ok (.iconst 0, 1) := by decide +kernel
theorem dL_law_1001 : decode cL_law 1001 = .ok (.ireturn, 1) := by decide +kernel
theorem dL_law_1002 : decode cL_law 1002 = .ok (.iload 5, 2) := by decide +kernel
theorem dL_law_1004 : decode cL_law 1004 = .ok (.ifCond .ne 15, 3) := by decide +kernel
theorem dL_law_1007 : decode cL_law 1007 = .ok (.aload_n 3, 1) := by decide +kernel
theorem dL_law_1008 : decode cL_law 1008 = .ok (.iconst 0, 1) := by decide +kernel
theorem dL_law_1009 : decode cL_law 1009 = .ok (.laload, 1) := by decide +kernel
theorem dL_law_1010 : decode cL_law 1010 = .ok (.iload 6, 2) := by decide +kernel
theorem dL_law_1012 : decode cL_law 1012 = .ok (.i2l, 1) := by decide +kernel
theorem dL_law_1013 : decode cL_law 1013 = .ok (.lcmp, 1) := by decide +kernel
theorem dL_law_1014 : decode cL_law 1014 = .ok (.ifCond .eq 5, 3) := by decide +kernel
theorem dL_law_1017 : decode cL_law 1017 = .ok (.iconst 0, 1) := by decide +kernel
theorem dL_law_1018 : decode cL_law 1018 = .ok (.ireturn, 1) := by decide +kernel
theorem dL_law_1019 : decode cL_law 1019 = .ok (.goto 319, 3) := by decide +kernel
theorem dL_law_1022 : decode cL_law 1022 = .ok (.aload_n 1, 1) := by decide +kernel
theorem dL_law_1023 : decode cL_law 1023 = .ok (.aload_n 0, 1) := by decide +kernel
theorem dL_law_1024 : decode cL_law 1024 = .ok (.iload 4, 2) := by decide +kernel
theorem dL_law_1026 : decode cL_law 1026 = .ok (.iconst 1, 1) := by decide +kernel
theorem dL_law_1027 : decode cL_law 1027 = .ok (.iadd, 1) := by decide +kernel
theorem dL_law_1028 : decode cL_law 1028 = .ok (.iaload, 1) := by decide +kernel
theorem dL_law_1029 : decode cL_law 1029 = .ok (.aload_n 3, 1) := by decide +kernel
theorem dL_law_1030 : decode cL_law 1030 = .ok (.invokestatic 155, 3) := by decide +kernel
theorem dL_law_1033 : decode cL_law 1033 = .ok (.istore 5, 2) := by decide +kernel
theorem dL_law_1035 : decode cL_law 1035 = .ok (.aload_n 2, 1) := by decide +kernel
theorem dL_law_1036 : decode cL_law 1036 = .ok (.aload_n 0, 1) := by decide +kernel
theorem dL_law_1037 : decode cL_law 1037 = .ok (.iload 4, 2) := by decide +kernel
theorem dL_law_1039 : decode cL_law 1039 = .ok (.iconst 1, 1) := by decide +kernel
theorem dL_law_1040 : decode cL_law 1040 = .ok (.iadd, 1) := by decide +kernel
theorem dL_law_1041 : decode cL_law 1041 = .ok (.iaload, 1) := by decide +kernel
theorem dL_law_1042 : decode cL_law 1042 = .ok (.invokevirtual 157, 3) := by decide +kernel
theorem dL_law_1045 : decode cL_law 1045 = .ok (.istore 6, 2) := by decide +kernel
theorem dL_law_1047 : decode cL_law 1047 = .ok (.aload_n 2, 1) := by decide +kernel
theorem dL_law_1048 : decode cL_law 1048 = .ok (.invokevirtual 95, 3) := by decide +kernel
theorem dL_law_1051 : decode cL_law 1051 = .ok (.iload 5, 2) := by decide +kernel
theorem dL_law_1053 : decode cL_law 1053 = .ok (.if_icmp .eq 5, 3) := by decide +kernel
theorem dL_law_1056 : decode cL_law 1056 = .ok (.iconst 0, 1) := by decide +kernel
theorem dL_law_1057 : decode cL_law 1057 = .ok (.ireturn, 1) := by decide +kernel
theorem dL_law_1058 : decode cL_law 1058 = .ok (.iload 5, 2) := by decide +kernel
theorem dL_law_1060 : decode cL_law 1060 = .ok (.ifCond .ne 15, 3) := by decide +kernel
theorem dL_law_1063 : decode cL_law 1063 = .ok (.aload_n 3, 1) := by decide +kernel
theorem dL_law_1064 : decode cL_law 1064 = .ok (.iconst 0, 1) := by decide +kernel
theorem dL_law_1065 : decode cL_law 1065 = .ok (.laload, 1) := by decide +kernel
theorem dL_law_1066 : decode cL_law 1066 = .ok (.iload 6, 2) := by decide +kernel
theorem dL_law_1068 : decode cL_law 1068 = .ok (.i2l, 1) := by decide +kernel
theorem dL_law_1069 : decode cL_law 1069 = .ok (.lcmp, 1) := by decide +kernel
theorem dL_law_1070 : decode cL_law 1070 = .ok (.ifCond .eq 5, 3) := by decide +kernel
theorem dL_law_1073 : decode cL_law 1073 = .ok (.iconst 0, 1) := by decide +kernel
theorem dL_law_1074 : decode cL_law 1074 = .ok (.ireturn, 1) := by decide +kernel
theorem dL_law_1075 : decode cL_law 1075 = .ok (.goto 263, 3) := by decide +kernel
theorem dL_law_1078 : decode cL_law 1078 = .ok (.aload_n 1, 1) := by decide +kernel
theorem dL_law_1079 : decode cL_law 1079 = .ok (.aload_n 0, 1) := by decide +kernel
theorem dL_law_1080 : decode cL_law 1080 = .ok (.iload 4, 2) := by decide +kernel
theorem dL_law_1082 : decode cL_law 1082 = .ok (.iconst 1, 1) := by decide +kernel
theorem dL_law_1083 : decode cL_law 1083 = .ok (.iadd, 1) := by decide +kernel
theorem dL_law_1084 : decode cL_law 1084 = .ok (.iaload, 1) := by decide +kernel
theorem dL_law_1085 : decode cL_law 1085 = .ok (.aload_n 0, 1) := by decide +kernel
theorem dL_law_1086 : decode cL_law 1086 = .ok (.iload 4, 2) := by decide +kernel
theorem dL_law_1088 : decode cL_law 1088 = .ok (.iconst 2, 1) := by decide +kernel
theorem dL_law_1089 : decode cL_law 1089 = .ok (.iadd, 1) := by decide +kernel
theorem dL_law_1090 : decode cL_law 1090 = .ok (.iaload, 1) := by decide +kernel
theorem dL_law_1091 : decode cL_law 1091 = .ok (.aload_n 3, 1) := by decide +kernel
theorem dL_law_1092 : decode cL_law 1092 = .ok (.invokestatic 158, 3) := by decide +kernel
theorem dL_law_1095 : decode cL_law 1095 = .ok (.istore 5, 2) := by decide +kernel
theorem dL_law_1097 : decode cL_law 1097 = .ok (.aload_n 2, 1) := by decide +kernel
theorem dL_law_1098 : decode cL_law 1098 = .ok (.aload_n 0, 1) := by decide +kernel
theorem dL_law_1099 : decode cL_law 1099 = .ok (.iload 4, 2) := by decide +kernel
theorem dL_law_1101 : decode cL_law 1101 = .ok (.iconst 1, 1) := by decide +kernel
theorem dL_law_1102 : decode cL_law 1102 = .ok (.iadd, 1) := by decide +kernel
theorem dL_law_1103 : decode cL_law 1103 = .ok (.iaload, 1) := by decide +kernel
theorem dL_law_1104 : decode cL_law 1104 = .ok (.aload_n 0, 1) := by decide +kernel
theorem dL_law_1105 : decode cL_law 1105 = .ok (.iload 4, 2) := by decide +kernel
theorem dL_law_1107 : decode cL_law 1107 = .ok (.iconst 2, 1) := by decide +kernel
theorem dL_law_1108 : decode cL_law 1108 = .ok (.iadd, 1) := by decide +kernel
theorem dL_law_1109 : decode cL_law 1109 = .ok (.iaload, 1) := by decide +kernel
theorem dL_law_1110 : decode cL_law 1110 = .ok (.invokevirtual 160, 3) := by decide +kernel
theorem dL_law_1113 : decode cL_law 1113 = .ok (.istore 6, 2) := by decide +kernel
theorem dL_law_1115 : decode cL_law 1115 = .ok (.aload_n 2, 1) := by decide +kernel
theorem dL_law_1116 : decode cL_law 1116 = .ok (.invokevirtual 95, 3) := by decide +kernel
theorem dL_law_1119 : decode cL_law 1119 = .ok (.iload 5, 2) := by decide +kernel
theorem dL_law_1121 : decode cL_law 1121 = .ok (.if_icmp .eq 5, 3) := by decide +kernel
theorem dL_law_1124 : decode cL_law 1124 = .ok (.iconst 0, 1) := by decide +kernel
theorem dL_law_1125 : decode cL_law 1125 = .ok (.ireturn, 1) := by decide +kernel
theorem dL_law_1126 : decode cL_law 1126 = .ok (.iload 5, 2) := by decide +kernel
theorem dL_law_1128 : decode cL_law 1128 = .ok (.ifCond .ne 15, 3) := by decide +kernel
theorem dL_law_1131 : decode cL_law 1131 = .ok (.aload_n 3, 1) := by decide +kernel
theorem dL_law_1132 : decode cL_law 1132 = .ok (.iconst 0, 1) := by decide +kernel
theorem dL_law_1133 : decode cL_law 1133 = .ok (.laload, 1) := by decide +kernel
theorem dL_law_1134 : decode cL_law 1134 = .ok (.iload 6, 2) := by decide +kernel
theorem dL_law_1136 : decode cL_law 1136 = .ok (.i2l, 1) := by decide +kernel
theorem dL_law_1137 : decode cL_law 1137 = .ok (.lcmp, 1) := by decide +kernel
theorem dL_law_1138 : decode cL_law 1138 = .ok (.ifCond .eq 5, 3) := by decide +kernel
theorem dL_law_1141 : decode cL_law 1141 = .ok (.iconst 0, 1) := by decide +kernel
theorem dL_law_1142 : decode cL_law 1142 = .ok (.ireturn, 1) := by decide +kernel
theorem dL_law_1143 : decode cL_law 1143 = .ok (.goto 195, 3) := by decide +kernel
theorem dL_law_1146 : decode cL_law 1146 = .ok (.aload_n 1, 1) := by decide +kernel
theorem dL_law_1147 : decode cL_law 1147 = .ok (.aload_n 0, 1) := by decide +kernel
theorem dL_law_1148 : decode cL_law 1148 = .ok (.iload 4, 2) := by decide +kernel
theorem dL_law_1150 : decode cL_law 1150 = .ok (.iconst 1, 1) := by decide +kernel
theorem dL_law_1151 : decode cL_law 1151 = .ok (.iadd, 1) := by decide +kernel
theorem dL_law_1152 : decode cL_law 1152 = .ok (.iaload, 1) := by decide +kernel
theorem dL_law_1153 : decode cL_law 1153 = .ok (.aload_n 0, 1) := by decide +kernel
theorem dL_law_1154 : decode cL_law 1154 = .ok (.iload 4, 2) := by decide +kernel
theorem dL_law_1156 : decode cL_law 1156 = .ok (.iconst 2, 1) := by decide +kernel
theorem dL_law_1157 : decode cL_law 1157 = .ok (.iadd, 1) := by decide +kernel
theorem dL_law_1158 : decode cL_law 1158 = .ok (.iaload, 1) := by decide +kernel
theorem dL_law_1159 : decode cL_law 1159 = .ok (.aload_n 3, 1) := by decide +kernel
theorem dL_law_1160 : decode cL_law 1160 = .ok (.invokestatic 161, 3) := by decide +kernel
theorem dL_law_1163 : decode cL_law 1163 = .ok (.istore 5, 2) := by decide +kernel
theorem dL_law_1165 : decode cL_law 1165 = .ok (.aload_n 2, 1) := by decide +kernel
theorem dL_law_1166 : decode cL_law 1166 = .ok (.aload_n 0, 1) := by decide +kernel
theorem dL_law_1167 : decode cL_law 1167 = .ok (.iload 4, 2) := by decide +kernel
theorem dL_law_1169 : decode cL_law 1169 = .ok (.iconst 1, 1) := by decide +kernel
theorem dL_law_1170 : decode cL_law 1170 = .ok (.iadd, 1) := by decide +kernel
theorem dL_law_1171 : decode cL_law 1171 = .ok (.iaload, 1) := by decide +kernel
theorem dL_law_1172 : decode cL_law 1172 = .ok (.aload_n 0, 1) := by decide +kernel
theorem dL_law_1173 : decode cL_law 1173 = .ok (.iload 4, 2) := by decide +kernel
theorem dL_law_1175 : decode cL_law 1175 = .ok (.iconst 2, 1) := by decide +kernel
theorem dL_law_1176 : decode cL_law 1176 = .ok (.iadd, 1) := by decide +kernel
theorem dL_law_1177 : decode cL_law 1177 = .ok (.iaload, 1) := by decide +kernel
theorem dL_law_1178 : decode cL_law 1178 = .ok (.invokevirtual 163, 3) := by decide +kernel
theorem dL_law_1181 : decode cL_law 1181 = .ok (.istore 6, 2) := by decide +kernel
theorem dL_law_1183 : decode cL_law 1183 = .ok (.aload_n 2, 1) := by decide +kernel
theorem dL_law_1184 : decode cL_law 1184 = .ok (.invokevirtual 95, 3) := by decide +kernel
theorem dL_law_1187 : decode cL_law 1187 = .ok (.iload 5, 2) := by decide +kernel
theorem dL_law_1189 : decode cL_law 1189 = .ok (.if_icmp .eq 5, 3) := by decide +kernel
theorem dL_law_1192 : decode cL_law 1192 = .ok (.iconst 0, 1) := by decide +kernel
theorem dL_law_1193 : decode cL_law 1193 = .ok (.ireturn, 1) := by decide +kernel
theorem dL_law_1194 : decode cL_law 1194 = .ok (.iload 5, 2) := by decide +kernel
theorem dL_law_1196 : decode cL_law 1196 = .ok (.ifCond .ne 15, 3) := by decide +kernel
theorem dL_law_1199 : decode cL_law 1199 = .ok (.aload_n 3, 1) := by decide +kernel
theorem dL_law_1200 : decode cL_law 1200 = .ok (.iconst 0, 1) := by decide +kernel
theorem dL_law_1201 : decode cL_law 1201 = .ok (.laload, 1) := by decide +kernel
theorem dL_law_1202 : decode cL_law 1202 = .ok (.iload 6, 2) := by decide +kernel
theorem dL_law_1204 : decode cL_law 1204 = .ok (.i2l, 1) := by decide +kernel
theorem dL_law_1205 : decode cL_law 1205 = .ok (.lcmp, 1) := by decide +kernel
theorem dL_law_1206 : decode cL_law 1206 = .ok (.ifCond .eq 5, 3) := by decide +kernel
theorem dL_law_1209 : decode cL_law 1209 = .ok (.iconst 0, 1) := by decide +kernel
theorem dL_law_1210 : decode cL_law 1210 = .ok (.ireturn, 1) := by decide +kernel
theorem dL_law_1211 : decode cL_law 1211 = .ok (.goto 127, 3) := by decide +kernel
theorem dL_law_1214 : decode cL_law 1214 = .ok (.aload_n 1, 1) := by decide +kernel
theorem dL_law_1215 : decode cL_law 1215 = .ok (.aload_n 0, 1) := by decide +kernel
theorem dL_law_1216 : decode cL_law 1216 = .ok (.iload 4, 2) := by decide +kernel
theorem dL_law_1218 : decode cL_law 1218 = .ok (.iconst 1, 1) := by decide +kernel
theorem dL_law_1219 : decode cL_law 1219 = .ok (.iadd, 1) := by decide +kernel
theorem dL_law_1220 : decode cL_law 1220 = .ok (.iaload, 1) := by decide +kernel
theorem dL_law_1221 : decode cL_law 1221 = .ok (.aload_n 0, 1) := by decide +kernel
theorem dL_law_1222 : decode cL_law 1222 = .ok (.iload 4, 2) := by decide +kernel
theorem dL_law_1224 : decode cL_law 1224 = .ok (.iconst 2, 1) := by decide +kernel
theorem dL_law_1225 : decode cL_law 1225 = .ok (.iadd, 1) := by decide +kernel
theorem dL_law_1226 : decode cL_law 1226 = .ok (.iaload, 1) := by decide +kernel
theorem dL_law_1227 : decode cL_law 1227 = .ok (.aload_n 3, 1) := by decide +kernel
theorem dL_law_1228 : decode cL_law 1228 = .ok (.invokestatic 164, 3) := by decide +kernel
theorem dL_law_1231 : decode cL_law 1231 = .ok (.istore 5, 2) := by decide +kernel
theorem dL_law_1233 : decode cL_law 1233 = .ok (.aload_n 2, 1) := by decide +kernel
theorem dL_law_1234 : decode cL_law 1234 = .ok (.aload_n 0, 1) := by decide +kernel
theorem dL_law_1235 : decode cL_law 1235 = .ok (.iload 4, 2) := by decide +kernel
theorem dL_law_1237 : decode cL_law 1237 = .ok (.iconst 1, 1) := by decide +kernel
theorem dL_law_1238 : decode cL_law 1238 = .ok (.iadd, 1) := by decide +kernel
theorem dL_law_1239 : decode cL_law 1239 = .ok (.iaload, 1) := by decide +kernel
theorem dL_law_1240 : decode cL_law 1240 = .ok (.aload_n 0, 1) := by decide +kernel
theorem dL_law_1241 : decode cL_law 1241 = .ok (.iload 4, 2) := by decide +kernel
theorem dL_law_1243 : decode cL_law 1243 = .ok (.iconst 2, 1) := by decide +kernel
theorem dL_law_1244 : decode cL_law 1244 = .ok (.iadd, 1) := by decide +kernel
theorem dL_law_1245 : decode cL_law 1245 = .ok (.iaload, 1) := by decide +kernel
theorem dL_law_1246 : decode cL_law 1246 = .ok (.invokevirtual 166, 3) := by decide +kernel
theorem dL_law_1249 : decode cL_law 1249 = .ok (.istore 6, 2) := by decide +kernel
theorem dL_law_1251 : decode cL_law 1251 = .ok (.aload_n 2, 1) := by decide +kernel
theorem dL_law_1252 : decode cL_law 1252 = .ok (.invokevirtual 95, 3) := by decide +kernel
theorem dL_law_1255 : decode cL_law 1255 = .ok (.iload 5, 2) := by decide +kernel
theorem dL_law_1257 : decode cL_law 1257 = .ok (.if_icmp .eq 5, 3) := by decide +kernel
theorem dL_law_1260 : decode cL_law 1260 = .ok (.iconst 0, 1) := by decide +kernel
theorem dL_law_1261 : decode cL_law 1261 = .ok (.ireturn, 1) := by decide +kernel
theorem dL_law_1262 : decode cL_law 1262 = .ok (.iload 5, 2) := by decide +kernel
theorem dL_law_1264 : decode cL_law 1264 = .ok (.ifCond .ne 15, 3) := by decide +kernel
theorem dL_law_1267 : decode cL_law 1267 = .ok (.aload_n 3, 1) := by decide +kernel
theorem dL_law_1268 : decode cL_law 1268 = .ok (.iconst 0, 1) := by decide +kernel
theorem dL_law_1269 : decode cL_law 1269 = .ok (.laload, 1) := by decide +kernel
theorem dL_law_1270 : decode cL_law 1270 = .ok (.iload 6, 2) := by decide +kernel
theorem dL_law_1272 : decode cL_law 1272 = .ok (.i2l, 1) := by decide +kernel
theorem dL_law_1273 : decode cL_law 1273 = .ok (.lcmp, 1) := by decide +kernel
theorem dL_law_1274 : decode cL_law 1274 = .ok (.ifCond .eq 5, 3) := by decide +kernel
theorem dL_law_1277 : decode cL_law 1277 = .ok (.iconst 0, 1) := by decide +kernel
theorem dL_law_1278 : decode cL_law 1278 = .ok (.ireturn, 1) := by decide +kernel
theorem dL_law_1279 : decode cL_law 1279 = .ok (.goto 59, 3) := by decide +kernel
theorem dL_law_1282 : decode cL_law 1282 = .ok (.aload_n 1, 1) := by decide +kernel
theorem dL_law_1283 : decode cL_law 1283 = .ok (.aload_n 0, 1) := by decide +kernel
theorem dL_law_1284 : decode cL_law 1284 = .ok (.iload 4, 2) := by decide +kernel
theorem dL_law_1286 : decode cL_law 1286 = .ok (.iconst 1, 1) := by decide +kernel
theorem dL_law_1287 : decode cL_law 1287 = .ok (.iadd, 1) := by decide +kernel
theorem dL_law_1288 : decode cL_law 1288 = .ok (.iaload, 1) := by decide +kernel
theorem dL_law_1289 : decode cL_law 1289 = .ok (.aload_n 3, 1) := by decide +kernel
theorem dL_law_1290 : decode cL_law 1290 = .ok (.invokestatic 167, 3) := by decide +kernel
theorem dL_law_1293 : decode cL_law 1293 = .ok (.istore 5, 2) := by decide +kernel
theorem dL_law_1295 : decode cL_law 1295 = .ok (.aload_n 2, 1) := by decide +kernel
theorem dL_law_1296 : decode cL_law 1296 = .ok (.aload_n 0, 1) := by decide +kernel
theorem dL_law_1297 : decode cL_law 1297 = .ok (.iload 4, 2) := by decide +kernel
theorem dL_law_1299 : decode cL_law 1299 = .ok (.iconst 1, 1) := by decide +kernel
theorem dL_law_1300 : decode cL_law 1300 = .ok (.iadd, 1) := by decide +kernel
theorem dL_law_1301 : decode cL_law 1301 = .ok (.iaload, 1) := by decide +kernel
theorem dL_law_1302 : decode cL_law 1302 = .ok (.invokevirtual 169, 3) := by decide +kernel
theorem dL_law_1305 : decode cL_law 1305 = .ok (.istore 6, 2) := by decide +kernel
theorem dL_law_1307 : decode cL_law 1307 = .ok (.aload_n 2, 1) := by decide +kernel
theorem dL_law_1308 : decode cL_law 1308 = .ok (.invokevirtual 95, 3) := by decide +kernel
theorem dL_law_1311 : decode cL_law 1311 = .ok (.iload 5, 2) := by decide +kernel
theorem dL_law_1313 : decode cL_law 1313 = .ok (.if_icmp .eq 5, 3) := by decide +kernel
theorem dL_law_1316 : decode cL_law 1316 = .ok (.iconst 0, 1) := by decide +kernel
theorem dL_law_1317 : decode cL_law 1317 = .ok (.ireturn, 1) := by decide +kernel
theorem dL_law_1318 : decode cL_law 1318 = .ok (.iload 5, 2) := by decide +kernel
theorem dL_law_1320 : decode cL_law 1320 = .ok (.ifCond .ne 15, 3) := by decide +kernel
theorem dL_law_1323 : decode cL_law 1323 = .ok (.aload_n 3, 1) := by decide +kernel
theorem dL_law_1324 : decode cL_law 1324 = .ok (.iconst 0, 1) := by decide +kernel
theorem dL_law_1325 : decode cL_law 1325 = .ok (.laload, 1) := by decide +kernel
theorem dL_law_1326 : decode cL_law 1326 = .ok (.iload 6, 2) := by decide +kernel
theorem dL_law_1328 : decode cL_law 1328 = .ok (.i2l, 1) := by decide +kernel
theorem dL_law_1329 : decode cL_law 1329 = .ok (.lcmp, 1) := by decide +kernel
theorem dL_law_1330 : decode cL_law 1330 = .ok (.ifCond .eq 5, 3) := by decide +kernel
theorem dL_law_1333 : decode cL_law 1333 = .ok (.iconst 0, 1) := by decide +kernel
theorem dL_law_1334 : decode cL_law 1334 = .ok (.ireturn, 1) := by decide +kernel
theorem dL_law_1335 : decode cL_law 1335 = .ok (.goto 3, 3) := by decide +kernel
theorem dL_law_1338 : decode cL_law 1338 = .ok (.iinc 4 6, 3) := by decide +kernel
theorem dL_law_1341 : decode cL_law 1341 = .ok (.goto (-1318), 3) := by decide +kernel
theorem dL_law_1344 : decode cL_law 1344 = .ok (.iconst 1, 1) := by decide +kernel
theorem dL_law_1345 : decode cL_law 1345 = .ok (.ireturn, 1) := by decide +kernel

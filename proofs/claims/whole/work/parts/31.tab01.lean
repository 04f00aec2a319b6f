set_option maxRecDepth 100000 in
set_option maxHeartbeats 8000000 in
theorem sn_20 : Sns 20 0 tRo_isReached := And.intro (sd_iconst (n := 1) (by decide) (by decide +kernel) (by decide +kernel)) (
  And.intro (sd_istore_n (k := 3) rfl (by decide) (by decide +kernel) (by decide +kernel)) (
  And.intro (sd_iconst (n := 0) (by decide) (by decide +kernel) (by decide +kernel)) (
  And.intro (sd_istore (by decide) (by decide +kernel) (by decide +kernel)) (
  And.intro (sd_iconst (n := 0) (by decide) (by decide +kernel) (by decide +kernel)) (
  And.intro (sd_istore (by decide) (by decide +kernel) (by decide +kernel)) (
  And.intro (sd_ms _ (sd_iload (by decide +kernel) (by decide +kernel))) (
  And.intro (sd_bipush (n := 8) (by decide) (by decide +kernel) (by decide +kernel)) (
  And.intro (sd_ige (off := 59) (by decide +kernel) (by decide +kernel) (by decide +kernel)) (
  And.intro (sd_iload_n (k := 3) rfl (by decide +kernel) (by decide +kernel)) (
  And.intro (sd_iload (by decide +kernel) (by decide +kernel)) (
  And.intro (sd_ieq (off := 53) (by decide +kernel) (by decide +kernel) (by decide +kernel)) (
  And.intro (sd_iload_n (k := 3) rfl (by decide +kernel) (by decide +kernel)) (
  And.intro (sd_istore (by decide) (by decide +kernel) (by decide +kernel)) (
  And.intro (sd_iconst (n := 0) (by decide) (by decide +kernel) (by decide +kernel)) (
  And.intro (sd_istore (by decide) (by decide +kernel) (by decide +kernel)) (
  And.intro (sd_ms _ (sd_iload (by decide +kernel) (by decide +kernel))) (
  And.intro (sd_aload_n (k := 0) rfl (by decide +kernel) (by decide +kernel)) (
  And.intro (sd_getI cf0 (by decide) (by decide) wf_0_19 (by decide +kernel) (by decide +kernel)) (
  And.intro (sd_ige (off := 32) (by decide +kernel) (by decide +kernel) (by decide +kernel)) (
  And.intro (sd_iload_n (k := 3) rfl (by decide +kernel) (by decide +kernel)) (
  And.intro (sd_iload (by decide +kernel) (by decide +kernel)) (
  And.intro (sd_ishr (by decide +kernel) (by decide +kernel)) (
  And.intro (sd_iconst (n := 1) (by decide) (by decide +kernel) (by decide +kernel)) (
  And.intro (sd_iand (by decide +kernel) (by decide +kernel)) (
  And.intro (sd_zeq (off := 17) (by decide +kernel) (by decide +kernel) (by decide +kernel)) (
  And.intro (sd_iload_n (k := 3) rfl (by decide +kernel) (by decide +kernel)) (
  And.intro (sd_aload_n (k := 0) rfl (by decide +kernel) (by decide +kernel)) (
  And.intro (sd_getR cf0 (by decide) (by decide) wf_0_38 (by decide +kernel) (by decide +kernel)) (
  And.intro (sd_iload (by decide +kernel) (by decide +kernel)) (
  And.intro (sd_iald (by decide +kernel) (by decide +kernel)) (
  And.intro (sd_iload_n (k := 2) rfl (by decide +kernel) (by decide +kernel)) (
  And.intro (sd_iconst (n := (-1)) (by decide) (by decide +kernel) (by decide +kernel)) (
  And.intro (sd_ixor (by decide +kernel) (by decide +kernel)) (
  And.intro (sd_iand (by decide +kernel) (by decide +kernel)) (
  And.intro (sd_ior (by decide +kernel) (by decide +kernel)) (
  And.intro (sd_istore_n (k := 3) rfl (by decide) (by decide +kernel) (by decide +kernel)) (
  And.intro (sd_iinc (n := 1) (by decide) (by decide) (by decide +kernel) (by decide +kernel)) (
  And.intro (sd_go (off := (-35)) (by decide +kernel) (by decide +kernel)) (
  And.intro (sd_iinc (n := 1) (by decide) (by decide) (by decide +kernel) (by decide +kernel)) (
  And.intro (sd_go (off := (-60)) (by decide +kernel) (by decide +kernel)) (
  And.intro (sd_iload_n (k := 3) rfl (by decide +kernel) (by decide +kernel)) (
  And.intro (sd_iload_n (k := 1) rfl (by decide +kernel) (by decide +kernel)) (
  And.intro (sd_ishr (by decide +kernel) (by decide +kernel)) (
  And.intro (sd_iconst (n := 1) (by decide) (by decide +kernel) (by decide +kernel)) (
  And.intro (sd_iand (by decide +kernel) (by decide +kernel)) (
  And.intro (sd_zeq (off := 7) (by decide +kernel) (by decide +kernel) (by decide +kernel)) (
  And.intro (sd_iconst (n := 1) (by decide) (by decide +kernel) (by decide +kernel)) (
  And.intro (sd_go (off := 4) (by decide +kernel) (by decide +kernel)) (
  And.intro (sd_iconst (n := 0) (by decide) (by decide +kernel) (by decide +kernel)) (
  And.intro (sd_zret (by decide +kernel) rfl) (
  trivial)))))))))))))))))))))))))))))))))))))))))))))))))))
set_option maxRecDepth 100000 in
set_option maxHeartbeats 8000000 in
theorem sn_21 : Sns 21 0 tRd_init := And.intro (sd_aload_n (k := 0) rfl (by decide +kernel) (by decide +kernel)) (
  And.intro (sd_obj wm_1_3 wo_1 wo_2 (by decide +kernel) (by decide +kernel)) (
  And.intro (sd_aload_n (k := 0) rfl (by decide +kernel) (by decide +kernel)) (
  And.intro (sd_sipush (n := 384) (by decide) (by decide +kernel) (by decide +kernel)) (
  And.intro (sd_newa1 (by decide +kernel) wa_1 (by decide +kernel)) (
  And.intro (sd_putR cf1 (by decide) (by decide) (Or.inl ⟨_, rfl⟩) rfl (by decide +kernel) (by decide +kernel) wf_1_11 (by decide +kernel) (by decide +kernel)) (
  And.intro (sd_aload_n (k := 0) rfl (by decide +kernel) (by decide +kernel)) (
  And.intro (sd_bipush (n := 64) (by decide) (by decide +kernel) (by decide +kernel)) (
  And.intro (sd_newa1 (by decide +kernel) wa_1 (by decide +kernel)) (
  And.intro (sd_putR cf1 (by decide) (by decide) (Or.inl ⟨_, rfl⟩) rfl (by decide +kernel) (by decide +kernel) wf_1_15 (by decide +kernel) (by decide +kernel)) (
  And.intro (sd_aload_n (k := 0) rfl (by decide +kernel) (by decide +kernel)) (
  And.intro (sd_iconst (n := 3) (by decide) (by decide +kernel) (by decide +kernel)) (
  And.intro (sd_newa4 (by decide +kernel) wa_4 (by decide +kernel)) (
  And.intro (sd_putR cf1 (by decide) (by decide) (Or.inl ⟨_, rfl⟩) rfl (by decide +kernel) (by decide +kernel) wf_1_18 (by decide +kernel) (by decide +kernel)) (
  And.intro (sd_aload_n (k := 0) rfl (by decide +kernel) (by decide +kernel)) (
  And.intro (sd_iconst (n := 3) (by decide) (by decide +kernel) (by decide +kernel)) (
  And.intro (sd_newa1 (by decide +kernel) wa_1 (by decide +kernel)) (
  And.intro (sd_putR cf1 (by decide) (by decide) (Or.inl ⟨_, rfl⟩) rfl (by decide +kernel) (by decide +kernel) wf_1_22 (by decide +kernel) (by decide +kernel)) (
  And.intro (sd_aload_n (k := 0) rfl (by decide +kernel) (by decide +kernel)) (
  And.intro (sd_bipush (n := 6) (by decide) (by decide +kernel) (by decide +kernel)) (
  And.intro (sd_newa1 (by decide +kernel) wa_1 (by decide +kernel)) (
  And.intro (sd_putR cf1 (by decide) (by decide) (Or.inl ⟨_, rfl⟩) rfl (by decide +kernel) (by decide +kernel) wf_1_25 (by decide +kernel) (by decide +kernel)) (
  And.intro (sd_aload_n (k := 0) rfl (by decide +kernel) (by decide +kernel)) (
  And.intro (sd_bipush (n := 6) (by decide) (by decide +kernel) (by decide +kernel)) (
  And.intro (sd_newa1 (by decide +kernel) wa_1 (by decide +kernel)) (
  And.intro (sd_putR cf1 (by decide) (by decide) (Or.inl ⟨_, rfl⟩) rfl (by decide +kernel) (by decide +kernel) wf_1_28 (by decide +kernel) (by decide +kernel)) (
  And.intro (sd_aload_n (k := 0) rfl (by decide +kernel) (by decide +kernel)) (
  And.intro (sd_iconst (n := 0) (by decide) (by decide +kernel) (by decide +kernel)) (
  And.intro (sd_putI cf1 (by decide) (by decide) rfl rfl wf_1_31 (by decide +kernel) (by decide +kernel)) (
  And.intro (sd_vret (by decide +kernel) rfl) (
  trivial))))))))))))))))))))))))))))))
set_option maxRecDepth 100000 in
set_option maxHeartbeats 8000000 in
theorem sn_22 : Sns 22 0 tRd_plan := And.intro (sd_aload_n (k := 0) rfl (by decide +kernel) (by decide +kernel)) (
  And.intro (sd_getR cf1 (by decide) (by decide) wf_1_11 (by decide +kernel) (by decide +kernel)) (
  And.intro (sd_ldc wk_1_35 (by decide +kernel) (by decide +kernel)) (
  And.intro (sd_SV mg_236 (by decide +kernel) wm_1_36 wt_236 (by decide +kernel)) (
  And.intro (sd_aload_n (k := 0) rfl (by decide +kernel) (by decide +kernel)) (
  And.intro (sd_getR cf1 (by decide) (by decide) wf_1_15 (by decide +kernel) (by decide +kernel)) (
  And.intro (sd_ldc wk_1_35 (by decide +kernel) (by decide +kernel)) (
  And.intro (sd_SV mg_236 (by decide +kernel) wm_1_36 wt_236 (by decide +kernel)) (
  And.intro (sd_aload_n (k := 0) rfl (by decide +kernel) (by decide +kernel)) (
  And.intro (sd_aload_n (k := 1) rfl (by decide +kernel) (by decide +kernel)) (
  And.intro (sd_aload_n (k := 2) rfl (by decide +kernel) (by decide +kernel)) (
  And.intro (sd_iload_n (k := 3) rfl (by decide +kernel) (by decide +kernel)) (
  And.intro (sd_VI mg_23 (by decide +kernel) wm_1_42 wn_23 wv_23 rfl rfl (by decide +kernel)) (
  And.intro (sd_istore (by decide) (by decide +kernel) (by decide +kernel)) (
  And.intro (sd_aload_n (k := 0) rfl (by decide +kernel) (by decide +kernel)) (
  And.intro (sd_getR cf1 (by decide) (by decide) wf_1_15 (by decide +kernel) (by decide +kernel)) (
  And.intro (sd_iconst (n := 0) (by decide) (by decide +kernel) (by decide +kernel)) (
  And.intro (sd_aload_n (k := 1) rfl (by decide +kernel) (by decide +kernel)) (
  And.intro (sd_aload_n (k := 2) rfl (by decide +kernel) (by decide +kernel)) (
  And.intro (sd_getR cf5 (by decide) (by decide) wf_1_46 (by decide +kernel) (by decide +kernel)) (
  And.intro (sd_iload_n (k := 3) rfl (by decide +kernel) (by decide +kernel)) (
  And.intro (sd_iald (by decide +kernel) (by decide +kernel)) (
  And.intro (sd_iconst (n := 0) (by decide) (by decide +kernel) (by decide +kernel)) (
  And.intro (sd_VI mg_13 (by decide +kernel) wm_1_51 wn_13 wv_13 rfl rfl (by decide +kernel)) (
  And.intro (sd_iast (by decide +kernel) (by decide +kernel)) (
  And.intro (sd_iconst (n := 0) (by decide) (by decide +kernel) (by decide +kernel)) (
  And.intro (sd_istore (by decide) (by decide +kernel) (by decide +kernel)) (
  And.intro (sd_ms _ (sd_iload (by decide +kernel) (by decide +kernel))) (
  And.intro (sd_aload_n (k := 1) rfl (by decide +kernel) (by decide +kernel)) (
  And.intro (sd_getI cf0 (by decide) (by decide) wf_1_57 (by decide +kernel) (by decide +kernel)) (
  And.intro (sd_ige (off := 48) (by decide +kernel) (by decide +kernel) (by decide +kernel)) (
  And.intro (sd_iload (by decide +kernel) (by decide +kernel)) (
  And.intro (sd_iload (by decide +kernel) (by decide +kernel)) (
  And.intro (sd_ishr (by decide +kernel) (by decide +kernel)) (
  And.intro (sd_iconst (n := 1) (by decide) (by decide +kernel) (by decide +kernel)) (
  And.intro (sd_iand (by decide +kernel) (by decide +kernel)) (
  And.intro (sd_zeq (off := 32) (by decide +kernel) (by decide +kernel) (by decide +kernel)) (
  And.intro (sd_aload_n (k := 0) rfl (by decide +kernel) (by decide +kernel)) (
  And.intro (sd_aload_n (k := 1) rfl (by decide +kernel) (by decide +kernel)) (
  And.intro (sd_aload_n (k := 2) rfl (by decide +kernel) (by decide +kernel)) (
  And.intro (sd_iconst (n := 1) (by decide) (by decide +kernel) (by decide +kernel)) (
  And.intro (sd_iload (by decide +kernel) (by decide +kernel)) (
  And.intro (sd_ishl (by decide +kernel) (by decide +kernel)) (
  And.intro (sd_iload (by decide +kernel) (by decide +kernel)) (
  And.intro (sd_aload_n (k := 1) rfl (by decide +kernel) (by decide +kernel)) (
  And.intro (sd_aload_n (k := 2) rfl (by decide +kernel) (by decide +kernel)) (
  And.intro (sd_getR cf5 (by decide) (by decide) wf_1_46 (by decide +kernel) (by decide +kernel)) (
  And.intro (sd_iload_n (k := 3) rfl (by decide +kernel) (by decide +kernel)) (
  And.intro (sd_iald (by decide +kernel) (by decide +kernel)) (
  And.intro (sd_aload_n (k := 1) rfl (by decide +kernel) (by decide +kernel)) (
  And.intro (sd_getR cf0 (by decide) (by decide) wf_1_60 (by decide +kernel) (by decide +kernel)) (
  And.intro (sd_iload (by decide +kernel) (by decide +kernel)) (
  And.intro (sd_iald (by decide +kernel) (by decide +kernel)) (
  And.intro (sd_VI mg_13 (by decide +kernel) wm_1_51 wn_13 wv_13 rfl rfl (by decide +kernel)) (
  And.intro (sd_VV mg_25 (by decide +kernel) wm_1_63 wn_25 wv_25 rfl rfl (by decide +kernel)) (
  And.intro (sd_iinc (n := 1) (by decide) (by decide) (by decide +kernel) (by decide +kernel)) (
  And.intro (sd_go (off := (-51)) (by decide +kernel) (by decide +kernel)) (
  And.intro (sd_iconst (n := 1) (by decide) (by decide +kernel) (by decide +kernel)) (
  And.intro (sd_istore (by decide) (by decide +kernel) (by decide +kernel)) (
  And.intro (sd_ms _ (sd_iload (by decide +kernel) (by decide +kernel))) (
  And.intro (sd_iconst (n := 1) (by decide) (by decide +kernel) (by decide +kernel)) (
  And.intro (sd_aload_n (k := 1) rfl (by decide +kernel) (by decide +kernel)) (
  And.intro (sd_getI cf0 (by decide) (by decide) wf_1_57 (by decide +kernel) (by decide +kernel)) (
  And.intro (sd_ishl (by decide +kernel) (by decide +kernel)) (
  And.intro (sd_ige (off := 62) (by decide +kernel) (by decide +kernel) (by decide +kernel)) (
  And.intro (sd_iconst (n := 0) (by decide) (by decide +kernel) (by decide +kernel)) (
  And.intro (sd_istore (by decide) (by decide +kernel) (by decide +kernel)) (
  And.intro (sd_ms _ (sd_iload (by decide +kernel) (by decide +kernel))) (
  And.intro (sd_aload_n (k := 1) rfl (by decide +kernel) (by decide +kernel)) (
  And.intro (sd_getI cf0 (by decide) (by decide) wf_1_57 (by decide +kernel) (by decide +kernel)) (
  And.intro (sd_ige (off := 44) (by decide +kernel) (by decide +kernel) (by decide +kernel)) (
  And.intro (sd_aload_n (k := 0) rfl (by decide +kernel) (by decide +kernel)) (
  And.intro (sd_getR cf1 (by decide) (by decide) wf_1_11 (by decide +kernel) (by decide +kernel)) (
  And.intro (sd_iload (by decide +kernel) (by decide +kernel)) (
  And.intro (sd_bipush (n := 6) (by decide) (by decide +kernel) (by decide +kernel)) (
  And.intro (sd_imul (by decide +kernel) (by decide +kernel)) (
  And.intro (sd_iload (by decide +kernel) (by decide +kernel)) (
  And.intro (sd_iadd (by decide +kernel) (by decide +kernel)) (
  And.intro (sd_iald (by decide +kernel) (by decide +kernel)) (
  And.intro (sd_ldc wk_1_35 (by decide +kernel) (by decide +kernel)) (
  And.intro (sd_ige (off := 20) (by decide +kernel) (by decide +kernel) (by decide +kernel)) (
  And.intro (sd_aload_n (k := 0) rfl (by decide +kernel) (by decide +kernel)) (
  And.intro (sd_aload_n (k := 1) rfl (by decide +kernel) (by decide +kernel)) (
  And.intro (sd_aload_n (k := 2) rfl (by decide +kernel) (by decide +kernel)) (
  And.intro (sd_iload (by decide +kernel) (by decide +kernel)) (
  And.intro (sd_iload (by decide +kernel) (by decide +kernel)) (
  And.intro (sd_iload (by decide +kernel) (by decide +kernel)) (
  And.intro (sd_iload (by decide +kernel) (by decide +kernel)) (
  And.intro (sd_iconst (n := (-1)) (by decide) (by decide +kernel) (by decide +kernel)) (
  And.intro (sd_ixor (by decide +kernel) (by decide +kernel)) (
  And.intro (sd_iand (by decide +kernel) (by decide +kernel)) (
  And.intro (sd_VV mg_24 (by decide +kernel) wm_1_67 wn_24 wv_24 rfl rfl (by decide +kernel)) (
  And.intro (sd_iinc (n := 1) (by decide) (by decide) (by decide +kernel) (by decide +kernel)) (
  And.intro (sd_go (off := (-47)) (by decide +kernel) (by decide +kernel)) (
  And.intro (sd_iinc (n := 1) (by decide) (by decide) (by decide +kernel) (by decide +kernel)) (
  And.intro (sd_go (off := (-67)) (by decide +kernel) (by decide +kernel)) (
  And.intro (sd_vret (by decide +kernel) rfl) (
  trivial)))))))))))))))))))))))))))))))))))))))))))))))))))))))))))))))))))))))))))))))))))))))))))))))))
set_option maxRecDepth 100000 in
set_option maxHeartbeats 8000000 in
theorem sn_23 : Sns 23 0 tRd_openTo := And.intro (sd_iconst (n := 0) (by decide) (by decide +kernel) (by decide +kernel)) (
  And.intro (sd_istore (by decide) (by decide +kernel) (by decide +kernel)) (
  And.intro (sd_iconst (n := 0) (by decide) (by decide +kernel) (by decide +kernel)) (
  And.intro (sd_istore (by decide) (by decide +kernel) (by decide +kernel)) (
  And.intro (sd_ms _ (sd_iload (by decide +kernel) (by decide +kernel))) (
  And.intro (sd_aload_n (k := 1) rfl (by decide +kernel) (by decide +kernel)) (
  And.intro (sd_getI cf0 (by decide) (by decide) wf_1_57 (by decide +kernel) (by decide +kernel)) (
  And.intro (sd_ige (off := 85) (by decide +kernel) (by decide +kernel) (by decide +kernel)) (
  And.intro (sd_aload_n (k := 2) rfl (by decide +kernel) (by decide +kernel)) (
  And.intro (sd_getR cf5 (by decide) (by decide) wf_1_70 (by decide +kernel) (by decide +kernel)) (
  And.intro (sd_iload (by decide +kernel) (by decide +kernel)) (
  And.intro (sd_iald (by decide +kernel) (by decide +kernel)) (
  And.intro (sd_iload_n (k := 3) rfl (by decide +kernel) (by decide +kernel)) (
  And.intro (sd_ieq (off := 14) (by decide +kernel) (by decide +kernel) (by decide +kernel)) (
  And.intro (sd_aload_n (k := 2) rfl (by decide +kernel) (by decide +kernel)) (
  And.intro (sd_getR cf5 (by decide) (by decide) wf_1_70 (by decide +kernel) (by decide +kernel)) (
  And.intro (sd_iload (by decide +kernel) (by decide +kernel)) (
  And.intro (sd_iald (by decide +kernel) (by decide +kernel)) (
  And.intro (sd_iconst (n := (-1)) (by decide) (by decide +kernel) (by decide +kernel)) (
  And.intro (sd_ine (off := 7) (by decide +kernel) (by decide +kernel) (by decide +kernel)) (
  And.intro (sd_iconst (n := 1) (by decide) (by decide +kernel) (by decide +kernel)) (
  And.intro (sd_go (off := 4) (by decide +kernel) (by decide +kernel)) (
  And.intro (sd_iconst (n := 0) (by decide) (by decide +kernel) (by decide +kernel)) (
  And.intro (sd_ms _ (sd_istore (by decide) (by decide +kernel) (by decide +kernel))) (
  And.intro (sd_aload_n (k := 2) rfl (by decide +kernel) (by decide +kernel)) (
  And.intro (sd_getI cf5 (by decide) (by decide) wf_1_73 (by decide +kernel) (by decide +kernel)) (
  And.intro (sd_aload_n (k := 2) rfl (by decide +kernel) (by decide +kernel)) (
  And.intro (sd_getI cf5 (by decide) (by decide) wf_1_76 (by decide +kernel) (by decide +kernel)) (
  And.intro (sd_ior (by decide +kernel) (by decide +kernel)) (
  And.intro (sd_iload (by decide +kernel) (by decide +kernel)) (
  And.intro (sd_ishr (by decide +kernel) (by decide +kernel)) (
  And.intro (sd_iconst (n := 1) (by decide) (by decide +kernel) (by decide +kernel)) (
  And.intro (sd_iand (by decide +kernel) (by decide +kernel)) (
  And.intro (sd_zeq (off := 7) (by decide +kernel) (by decide +kernel) (by decide +kernel)) (
  And.intro (sd_iconst (n := 1) (by decide) (by decide +kernel) (by decide +kernel)) (
  And.intro (sd_go (off := 4) (by decide +kernel) (by decide +kernel)) (
  And.intro (sd_iconst (n := 0) (by decide) (by decide +kernel) (by decide +kernel)) (
  And.intro (sd_istore (by decide) (by decide +kernel) (by decide +kernel)) (
  And.intro (sd_iload (by decide +kernel) (by decide +kernel)) (
  And.intro (sd_iload (by decide +kernel) (by decide +kernel)) (
  And.intro (sd_zeq (off := 15) (by decide +kernel) (by decide +kernel) (by decide +kernel)) (
  And.intro (sd_iload (by decide +kernel) (by decide +kernel)) (
  And.intro (sd_zne (off := 10) (by decide +kernel) (by decide +kernel) (by decide +kernel)) (
  And.intro (sd_iconst (n := 1) (by decide) (by decide +kernel) (by decide +kernel)) (
  And.intro (sd_iload (by decide +kernel) (by decide +kernel)) (
  And.intro (sd_ishl (by decide +kernel) (by decide +kernel)) (
  And.intro (sd_go (off := 4) (by decide +kernel) (by decide +kernel)) (
  And.intro (sd_iconst (n := 0) (by decide) (by decide +kernel) (by decide +kernel)) (
  And.intro (sd_ior (by decide +kernel) (by decide +kernel)) (
  And.intro (sd_istore (by decide) (by decide +kernel) (by decide +kernel)) (
  And.intro (sd_iinc (n := 1) (by decide) (by decide) (by decide +kernel) (by decide +kernel)) (
  And.intro (sd_go (off := (-88)) (by decide +kernel) (by decide +kernel)) (
  And.intro (sd_iload (by decide +kernel) (by decide +kernel)) (
  And.intro (sd_iret (by decide +kernel) rfl) (
  trivial))))))))))))))))))))))))))))))))))))))))))))))))))))))
set_option maxRecDepth 100000 in
set_option maxHeartbeats 8000000 in
theorem sn_24 : Sns 24 0 tRd_goFurther := And.intro (sd_aload_n (k := 0) rfl (by decide +kernel) (by decide +kernel)) (
  And.intro (sd_getR cf1 (by decide) (by decide) wf_1_11 (by decide +kernel) (by decide +kernel)) (
  And.intro (sd_iload_n (k := 3) rfl (by decide +kernel) (by decide +kernel)) (
  And.intro (sd_bipush (n := 6) (by decide) (by decide +kernel) (by decide +kernel)) (
  And.intro (sd_imul (by decide +kernel) (by decide +kernel)) (
  And.intro (sd_iload (by decide +kernel) (by decide +kernel)) (
  And.intro (sd_iadd (by decide +kernel) (by decide +kernel)) (
  And.intro (sd_iald (by decide +kernel) (by decide +kernel)) (
  And.intro (sd_istore (by decide) (by decide +kernel) (by decide +kernel)) (
  And.intro (sd_aload_n (k := 1) rfl (by decide +kernel) (by decide +kernel)) (
  And.intro (sd_getR cf0 (by decide) (by decide) wf_1_60 (by decide +kernel) (by decide +kernel)) (
  And.intro (sd_iload (by decide +kernel) (by decide +kernel)) (
  And.intro (sd_iald (by decide +kernel) (by decide +kernel)) (
  And.intro (sd_istore (by decide) (by decide +kernel) (by decide +kernel)) (
  And.intro (sd_iload (by decide +kernel) (by decide +kernel)) (
  And.intro (sd_aload_n (k := 1) rfl (by decide +kernel) (by decide +kernel)) (
  And.intro (sd_iload (by decide +kernel) (by decide +kernel)) (
  And.intro (sd_iconst (n := 0) (by decide) (by decide +kernel) (by decide +kernel)) (
  And.intro (sd_VI mg_13 (by decide +kernel) wm_1_51 wn_13 wv_13 rfl rfl (by decide +kernel)) (
  And.intro (sd_iadd (by decide +kernel) (by decide +kernel)) (
  And.intro (sd_istore (by decide) (by decide +kernel) (by decide +kernel)) (
  And.intro (sd_aload_n (k := 0) rfl (by decide +kernel) (by decide +kernel)) (
  And.intro (sd_getR cf1 (by decide) (by decide) wf_1_15 (by decide +kernel) (by decide +kernel)) (
  And.intro (sd_iload_n (k := 3) rfl (by decide +kernel) (by decide +kernel)) (
  And.intro (sd_aload_n (k := 0) rfl (by decide +kernel) (by decide +kernel)) (
  And.intro (sd_getR cf1 (by decide) (by decide) wf_1_15 (by decide +kernel) (by decide +kernel)) (
  And.intro (sd_iload_n (k := 3) rfl (by decide +kernel) (by decide +kernel)) (
  And.intro (sd_iald (by decide +kernel) (by decide +kernel)) (
  And.intro (sd_iload (by decide +kernel) (by decide +kernel)) (
  And.intro (sd_ldc wk_1_35 (by decide +kernel) (by decide +kernel)) (
  And.intro (sd_mmin wm_1_79 wo_6min wo_7 wo_8min (by decide +kernel) (by decide +kernel)) (
  And.intro (sd_mmin wm_1_79 wo_6min wo_7 wo_8min (by decide +kernel) (by decide +kernel)) (
  And.intro (sd_iast (by decide +kernel) (by decide +kernel)) (
  And.intro (sd_iconst (n := 0) (by decide) (by decide +kernel) (by decide +kernel)) (
  And.intro (sd_istore (by decide) (by decide +kernel) (by decide +kernel)) (
  And.intro (sd_ms _ (sd_iload (by decide +kernel) (by decide +kernel))) (
  And.intro (sd_aload_n (k := 1) rfl (by decide +kernel) (by decide +kernel)) (
  And.intro (sd_getI cf0 (by decide) (by decide) wf_1_57 (by decide +kernel) (by decide +kernel)) (
  And.intro (sd_ige (off := 49) (by decide +kernel) (by decide +kernel) (by decide +kernel)) (
  And.intro (sd_iload (by decide +kernel) (by decide +kernel)) (
  And.intro (sd_iload (by decide +kernel) (by decide +kernel)) (
  And.intro (sd_ishr (by decide +kernel) (by decide +kernel)) (
  And.intro (sd_iconst (n := 1) (by decide) (by decide +kernel) (by decide +kernel)) (
  And.intro (sd_iand (by decide +kernel) (by decide +kernel)) (
  And.intro (sd_zeq (off := 33) (by decide +kernel) (by decide +kernel) (by decide +kernel)) (
  And.intro (sd_aload_n (k := 0) rfl (by decide +kernel) (by decide +kernel)) (
  And.intro (sd_aload_n (k := 1) rfl (by decide +kernel) (by decide +kernel)) (
  And.intro (sd_aload_n (k := 2) rfl (by decide +kernel) (by decide +kernel)) (
  And.intro (sd_iload_n (k := 3) rfl (by decide +kernel) (by decide +kernel)) (
  And.intro (sd_iconst (n := 1) (by decide) (by decide +kernel) (by decide +kernel)) (
  And.intro (sd_iload (by decide +kernel) (by decide +kernel)) (
  And.intro (sd_ishl (by decide +kernel) (by decide +kernel)) (
  And.intro (sd_ior (by decide +kernel) (by decide +kernel)) (
  And.intro (sd_iload (by decide +kernel) (by decide +kernel)) (
  And.intro (sd_iload (by decide +kernel) (by decide +kernel)) (
  And.intro (sd_aload_n (k := 1) rfl (by decide +kernel) (by decide +kernel)) (
  And.intro (sd_iload (by decide +kernel) (by decide +kernel)) (
  And.intro (sd_aload_n (k := 1) rfl (by decide +kernel) (by decide +kernel)) (
  And.intro (sd_getR cf0 (by decide) (by decide) wf_1_60 (by decide +kernel) (by decide +kernel)) (
  And.intro (sd_iload (by decide +kernel) (by decide +kernel)) (
  And.intro (sd_iald (by decide +kernel) (by decide +kernel)) (
  And.intro (sd_VI mg_13 (by decide +kernel) wm_1_51 wn_13 wv_13 rfl rfl (by decide +kernel)) (
  And.intro (sd_iadd (by decide +kernel) (by decide +kernel)) (
  And.intro (sd_VV mg_25 (by decide +kernel) wm_1_63 wn_25 wv_25 rfl rfl (by decide +kernel)) (
  And.intro (sd_iinc (n := 1) (by decide) (by decide) (by decide +kernel) (by decide +kernel)) (
  And.intro (sd_go (off := (-52)) (by decide +kernel) (by decide +kernel)) (
  And.intro (sd_vret (by decide +kernel) rfl) (
  trivial)))))))))))))))))))))))))))))))))))))))))))))))))))))))))))))))))))
set_option maxRecDepth 100000 in
set_option maxHeartbeats 8000000 in
theorem sn_25 : Sns 25 0 tRd_reach := And.intro (sd_iload_n (k := 3) rfl (by decide +kernel) (by decide +kernel)) (
  And.intro (sd_bipush (n := 6) (by decide) (by decide +kernel) (by decide +kernel)) (
  And.intro (sd_imul (by decide +kernel) (by decide +kernel)) (
  And.intro (sd_iload (by decide +kernel) (by decide +kernel)) (
  And.intro (sd_iadd (by decide +kernel) (by decide +kernel)) (
  And.intro (sd_istore (by decide) (by decide +kernel) (by decide +kernel)) (
  And.intro (sd_aload_n (k := 2) rfl (by decide +kernel) (by decide +kernel)) (
  And.intro (sd_getI cf5 (by decide) (by decide) wf_1_84 (by decide +kernel) (by decide +kernel)) (
  And.intro (sd_iload (by decide +kernel) (by decide +kernel)) (
  And.intro (sd_iconst (n := 1) (by decide) (by decide +kernel) (by decide +kernel)) (
  And.intro (sd_isub (by decide +kernel) (by decide +kernel)) (
  And.intro (sd_iconst (n := 0) (by decide) (by decide +kernel) (by decide +kernel)) (
  And.intro (sd_mmax wm_1_87 wo_6max wo_7 wo_8max (by decide +kernel) (by decide +kernel)) (
  And.intro (sd_iadd (by decide +kernel) (by decide +kernel)) (
  And.intro (sd_aload_n (k := 1) rfl (by decide +kernel) (by decide +kernel)) (
  And.intro (sd_getR cf0 (by decide) (by decide) wf_1_90 (by decide +kernel) (by decide +kernel)) (
  And.intro (sd_iload (by decide +kernel) (by decide +kernel)) (
  And.intro (sd_iald (by decide +kernel) (by decide +kernel)) (
  And.intro (sd_igt (off := 7) (by decide +kernel) (by decide +kernel) (by decide +kernel)) (
  And.intro (sd_iconst (n := 1) (by decide) (by decide +kernel) (by decide +kernel)) (
  And.intro (sd_go (off := 4) (by decide +kernel) (by decide +kernel)) (
  And.intro (sd_iconst (n := 0) (by decide) (by decide +kernel) (by decide +kernel)) (
  And.intro (sd_istore (by decide) (by decide +kernel) (by decide +kernel)) (
  And.intro (sd_iload (by decide +kernel) (by decide +kernel)) (
  And.intro (sd_zeq (off := 24) (by decide +kernel) (by decide +kernel) (by decide +kernel)) (
  And.intro (sd_iload (by decide +kernel) (by decide +kernel)) (
  And.intro (sd_aload_n (k := 0) rfl (by decide +kernel) (by decide +kernel)) (
  And.intro (sd_getR cf1 (by decide) (by decide) wf_1_11 (by decide +kernel) (by decide +kernel)) (
  And.intro (sd_iload (by decide +kernel) (by decide +kernel)) (
  And.intro (sd_iald (by decide +kernel) (by decide +kernel)) (
  And.intro (sd_ige (off := 12) (by decide +kernel) (by decide +kernel) (by decide +kernel)) (
  And.intro (sd_aload_n (k := 0) rfl (by decide +kernel) (by decide +kernel)) (
  And.intro (sd_getR cf1 (by decide) (by decide) wf_1_11 (by decide +kernel) (by decide +kernel)) (
  And.intro (sd_iload (by decide +kernel) (by decide +kernel)) (
  And.intro (sd_iload (by decide +kernel) (by decide +kernel)) (
  And.intro (sd_iast (by decide +kernel) (by decide +kernel)) (
  And.intro (sd_vret (by decide +kernel) rfl) (
  trivial)))))))))))))))))))))))))))))))))))))
set_option maxRecDepth 100000 in
set_option maxHeartbeats 8000000 in
theorem sn_26 : Sns 26 0 tRd_bestSet := And.intro (sd_iconst (n := (-1)) (by decide) (by decide +kernel) (by decide +kernel)) (
  And.intro (sd_istore_n (k := 2) rfl (by decide) (by decide +kernel) (by decide +kernel)) (
  And.intro (sd_iconst (n := (-1)) (by decide) (by decide +kernel) (by decide +kernel)) (
  And.intro (sd_istore_n (k := 3) rfl (by decide) (by decide +kernel) (by decide +kernel)) (
  And.intro (sd_iconst (n := 0) (by decide) (by decide +kernel) (by decide +kernel)) (
  And.intro (sd_istore (by decide) (by decide +kernel) (by decide +kernel)) (
  And.intro (sd_ms _ (sd_iload (by decide +kernel) (by decide +kernel))) (
  And.intro (sd_iconst (n := 1) (by decide) (by decide +kernel) (by decide +kernel)) (
  And.intro (sd_aload_n (k := 1) rfl (by decide +kernel) (by decide +kernel)) (
  And.intro (sd_getI cf0 (by decide) (by decide) wf_1_57 (by decide +kernel) (by decide +kernel)) (
  And.intro (sd_ishl (by decide +kernel) (by decide +kernel)) (
  And.intro (sd_ige (off := 83) (by decide +kernel) (by decide +kernel) (by decide +kernel)) (
  And.intro (sd_aload_n (k := 0) rfl (by decide +kernel) (by decide +kernel)) (
  And.intro (sd_getR cf1 (by decide) (by decide) wf_1_15 (by decide +kernel) (by decide +kernel)) (
  And.intro (sd_iload (by decide +kernel) (by decide +kernel)) (
  And.intro (sd_iald (by decide +kernel) (by decide +kernel)) (
  And.intro (sd_ldc wk_1_35 (by decide +kernel) (by decide +kernel)) (
  And.intro (sd_ilt (off := 6) (by decide +kernel) (by decide +kernel) (by decide +kernel)) (
  And.intro (sd_go (off := 62) (by decide +kernel) (by decide +kernel)) (
  And.intro (sd_aload_n (k := 1) rfl (by decide +kernel) (by decide +kernel)) (
  And.intro (sd_iload (by decide +kernel) (by decide +kernel)) (
  And.intro (sd_VI mg_18 (by decide +kernel) wm_1_93 wn_18 wv_18 rfl rfl (by decide +kernel)) (
  And.intro (sd_istore (by decide) (by decide +kernel) (by decide +kernel)) (
  And.intro (sd_iload_n (k := 2) rfl (by decide +kernel) (by decide +kernel)) (
  And.intro (sd_iconst (n := (-1)) (by decide) (by decide +kernel) (by decide +kernel)) (
  And.intro (sd_ieq (off := 29) (by decide +kernel) (by decide +kernel) (by decide +kernel)) (
  And.intro (sd_iload (by decide +kernel) (by decide +kernel)) (
  And.intro (sd_iload_n (k := 3) rfl (by decide +kernel) (by decide +kernel)) (
  And.intro (sd_ine (off := 23) (by decide +kernel) (by decide +kernel) (by decide +kernel)) (
  And.intro (sd_aload_n (k := 0) rfl (by decide +kernel) (by decide +kernel)) (
  And.intro (sd_getR cf1 (by decide) (by decide) wf_1_15 (by decide +kernel) (by decide +kernel)) (
  And.intro (sd_iload (by decide +kernel) (by decide +kernel)) (
  And.intro (sd_iald (by decide +kernel) (by decide +kernel)) (
  And.intro (sd_aload_n (k := 0) rfl (by decide +kernel) (by decide +kernel)) (
  And.intro (sd_getR cf1 (by decide) (by decide) wf_1_15 (by decide +kernel) (by decide +kernel)) (
  And.intro (sd_iload_n (k := 2) rfl (by decide +kernel) (by decide +kernel)) (
  And.intro (sd_iald (by decide +kernel) (by decide +kernel)) (
  And.intro (sd_ige (off := 7) (by decide +kernel) (by decide +kernel) (by decide +kernel)) (
  And.intro (sd_iconst (n := 1) (by decide) (by decide +kernel) (by decide +kernel)) (
  And.intro (sd_go (off := 4) (by decide +kernel) (by decide +kernel)) (
  And.intro (sd_iconst (n := 0) (by decide) (by decide +kernel) (by decide +kernel)) (
  And.intro (sd_istore (by decide) (by decide +kernel) (by decide +kernel)) (
  And.intro (sd_iload (by decide +kernel) (by decide +kernel)) (
  And.intro (sd_iload_n (k := 3) rfl (by decide +kernel) (by decide +kernel)) (
  And.intro (sd_igt (off := 8) (by decide +kernel) (by decide +kernel) (by decide +kernel)) (
  And.intro (sd_iload (by decide +kernel) (by decide +kernel)) (
  And.intro (sd_zeq (off := 9) (by decide +kernel) (by decide +kernel) (by decide +kernel)) (
  And.intro (sd_iload (by decide +kernel) (by decide +kernel)) (
  And.intro (sd_istore_n (k := 2) rfl (by decide) (by decide +kernel) (by decide +kernel)) (
  And.intro (sd_iload (by decide +kernel) (by decide +kernel)) (
  And.intro (sd_istore_n (k := 3) rfl (by decide) (by decide +kernel) (by decide +kernel)) (
  And.intro (sd_iinc (n := 1) (by decide) (by decide) (by decide +kernel) (by decide +kernel)) (
  And.intro (sd_go (off := (-88)) (by decide +kernel) (by decide +kernel)) (
  And.intro (sd_iload_n (k := 2) rfl (by decide +kernel) (by decide +kernel)) (
  And.intro (sd_iret (by decide +kernel) rfl) (
  trivial)))))))))))))))))))))))))))))))))))))))))))))))))))))))
set_option maxRecDepth 100000 in
set_option maxHeartbeats 8000000 in
theorem sn_27 : Sns 27 0 tRd_part := And.intro (sd_iconst (n := 0) (by decide) (by decide +kernel) (by decide +kernel)) (
  And.intro (sd_istore_n (k := 3) rfl (by decide) (by decide +kernel) (by decide +kernel)) (
  And.intro (sd_ms _ (sd_iload_n (k := 3) rfl (by decide +kernel) (by decide +kernel))) (
  And.intro (sd_aload_n (k := 1) rfl (by decide +kernel) (by decide +kernel)) (
  And.intro (sd_getI cf0 (by decide) (by decide) wf_1_97 (by decide +kernel) (by decide +kernel)) (
  And.intro (sd_ige (off := 84) (by decide +kernel) (by decide +kernel) (by decide +kernel)) (
  And.intro (sd_aload_n (k := 0) rfl (by decide +kernel) (by decide +kernel)) (
  And.intro (sd_getR cf1 (by decide) (by decide) wf_1_22 (by decide +kernel) (by decide +kernel)) (
  And.intro (sd_iload_n (k := 3) rfl (by decide +kernel) (by decide +kernel)) (
  And.intro (sd_iconst (n := 0) (by decide) (by decide +kernel) (by decide +kernel)) (
  And.intro (sd_iast (by decide +kernel) (by decide +kernel)) (
  And.intro (sd_aload_n (k := 0) rfl (by decide +kernel) (by decide +kernel)) (
  And.intro (sd_getR cf1 (by decide) (by decide) wf_1_18 (by decide +kernel) (by decide +kernel)) (
  And.intro (sd_iload_n (k := 3) rfl (by decide +kernel) (by decide +kernel)) (
  And.intro (sd_lconst (n := 0) (by decide) (by decide +kernel) (by decide +kernel)) (
  And.intro (sd_last (by decide +kernel) (by decide +kernel)) (
  And.intro (sd_aload_n (k := 2) rfl (by decide +kernel) (by decide +kernel)) (
  And.intro (sd_getR cf5 (by decide) (by decide) wf_1_100 (by decide +kernel) (by decide +kernel)) (
  And.intro (sd_iload_n (k := 3) rfl (by decide +kernel) (by decide +kernel)) (
  And.intro (sd_iald (by decide +kernel) (by decide +kernel)) (
  And.intro (sd_zne (off := 55) (by decide +kernel) (by decide +kernel) (by decide +kernel)) (
  And.intro (sd_aload_n (k := 0) rfl (by decide +kernel) (by decide +kernel)) (
  And.intro (sd_aload_n (k := 1) rfl (by decide +kernel) (by decide +kernel)) (
  And.intro (sd_aload_n (k := 2) rfl (by decide +kernel) (by decide +kernel)) (
  And.intro (sd_iload_n (k := 3) rfl (by decide +kernel) (by decide +kernel)) (
  And.intro (sd_VV mg_22 (by decide +kernel) wm_1_103 wn_22 wv_22 rfl rfl (by decide +kernel)) (
  And.intro (sd_iconst (n := 0) (by decide) (by decide +kernel) (by decide +kernel)) (
  And.intro (sd_istore (by decide) (by decide +kernel) (by decide +kernel)) (
  And.intro (sd_ms _ (sd_iload (by decide +kernel) (by decide +kernel))) (
  And.intro (sd_bipush (n := 64) (by decide) (by decide +kernel) (by decide +kernel)) (
  And.intro (sd_ige (off := 38) (by decide +kernel) (by decide +kernel) (by decide +kernel)) (
  And.intro (sd_aload_n (k := 0) rfl (by decide +kernel) (by decide +kernel)) (
  And.intro (sd_getR cf1 (by decide) (by decide) wf_1_18 (by decide +kernel) (by decide +kernel)) (
  And.intro (sd_iload_n (k := 3) rfl (by decide +kernel) (by decide +kernel)) (
  And.intro (sd_dup2 (by decide +kernel) (by decide +kernel)) (
  And.intro (sd_lald (by decide +kernel) (by decide +kernel)) (
  And.intro (sd_aload_n (k := 0) rfl (by decide +kernel) (by decide +kernel)) (
  And.intro (sd_getR cf1 (by decide) (by decide) wf_1_15 (by decide +kernel) (by decide +kernel)) (
  And.intro (sd_iload (by decide +kernel) (by decide +kernel)) (
  And.intro (sd_iald (by decide +kernel) (by decide +kernel)) (
  And.intro (sd_ldc wk_1_35 (by decide +kernel) (by decide +kernel)) (
  And.intro (sd_ige (off := 10) (by decide +kernel) (by decide +kernel) (by decide +kernel)) (
  And.intro (sd_lconst (n := 1) (by decide) (by decide +kernel) (by decide +kernel)) (
  And.intro (sd_iload (by decide +kernel) (by decide +kernel)) (
  And.intro (sd_lshl (by decide +kernel) (by decide +kernel)) (
  And.intro (sd_go (off := 4) (by decide +kernel) (by decide +kernel)) (
  And.intro (sd_lconst (n := 0) (by decide) (by decide +kernel) (by decide +kernel)) (
  And.intro (sd_lor (by decide +kernel) (by decide +kernel)) (
  And.intro (sd_last (by decide +kernel) (by decide +kernel)) (
  And.intro (sd_iinc (n := 1) (by decide) (by decide) (by decide +kernel) (by decide +kernel)) (
  And.intro (sd_go (off := (-39)) (by decide +kernel) (by decide +kernel)) (
  And.intro (sd_iinc (n := 1) (by decide) (by decide) (by decide +kernel) (by decide +kernel)) (
  And.intro (sd_go (off := (-86)) (by decide +kernel) (by decide +kernel)) (
  And.intro (sd_aload_n (k := 0) rfl (by decide +kernel) (by decide +kernel)) (
  And.intro (sd_iconst (n := (-1)) (by decide) (by decide +kernel) (by decide +kernel)) (
  And.intro (sd_putI cf1 (by decide) (by decide) rfl rfl wf_1_31 (by decide +kernel) (by decide +kernel)) (
  And.intro (sd_aload_n (k := 0) rfl (by decide +kernel) (by decide +kernel)) (
  And.intro (sd_aload_n (k := 1) rfl (by decide +kernel) (by decide +kernel)) (
  And.intro (sd_iconst (n := 0) (by decide) (by decide +kernel) (by decide +kernel)) (
  And.intro (sd_iconst (n := 0) (by decide) (by decide +kernel) (by decide +kernel)) (
  And.intro (sd_aload_n (k := 1) rfl (by decide +kernel) (by decide +kernel)) (
  And.intro (sd_bipush (n := 63) (by decide) (by decide +kernel) (by decide +kernel)) (
  And.intro (sd_VI mg_18 (by decide +kernel) wm_1_93 wn_18 wv_18 rfl rfl (by decide +kernel)) (
  And.intro (sd_VV mg_28 (by decide +kernel) wm_1_107 wn_28 wv_28 rfl rfl (by decide +kernel)) (
  And.intro (sd_vret (by decide +kernel) rfl) (
  trivial)))))))))))))))))))))))))))))))))))))))))))))))))))))))))))))))))
set_option maxRecDepth 100000 in
set_option maxHeartbeats 8000000 in
theorem sn_28 : Sns 28 0 tRd_tryRows := And.intro (sd_iload_n (k := 2) rfl (by decide +kernel) (by decide +kernel)) (
  And.intro (sd_aload_n (k := 1) rfl (by decide +kernel) (by decide +kernel)) (
  And.intro (sd_getI cf0 (by decide) (by decide) wf_1_57 (by decide +kernel) (by decide +kernel)) (
  And.intro (sd_ige (off := 9) (by decide +kernel) (by decide +kernel) (by decide +kernel)) (
  And.intro (sd_iload_n (k := 2) rfl (by decide +kernel) (by decide +kernel)) (
  And.intro (sd_bipush (n := 6) (by decide) (by decide +kernel) (by decide +kernel)) (
  And.intro (sd_ilt (off := 32) (by decide +kernel) (by decide +kernel) (by decide +kernel)) (
  And.intro (sd_iload_n (k := 3) rfl (by decide +kernel) (by decide +kernel)) (
  And.intro (sd_aload_n (k := 0) rfl (by decide +kernel) (by decide +kernel)) (
  And.intro (sd_getI cf1 (by decide) (by decide) wf_1_31 (by decide +kernel) (by decide +kernel)) (
  And.intro (sd_ile (off := 23) (by decide +kernel) (by decide +kernel) (by decide +kernel)) (
  And.intro (sd_aload_n (k := 0) rfl (by decide +kernel) (by decide +kernel)) (
  And.intro (sd_iload_n (k := 3) rfl (by decide +kernel) (by decide +kernel)) (
  And.intro (sd_putI cf1 (by decide) (by decide) rfl rfl wf_1_31 (by decide +kernel) (by decide +kernel)) (
  And.intro (sd_aload_n (k := 0) rfl (by decide +kernel) (by decide +kernel)) (
  And.intro (sd_getR cf1 (by decide) (by decide) wf_1_25 (by decide +kernel) (by decide +kernel)) (
  And.intro (sd_iconst (n := 0) (by decide) (by decide +kernel) (by decide +kernel)) (
  And.intro (sd_aload_n (k := 0) rfl (by decide +kernel) (by decide +kernel)) (
  And.intro (sd_getR cf1 (by decide) (by decide) wf_1_28 (by decide +kernel) (by decide +kernel)) (
  And.intro (sd_iconst (n := 0) (by decide) (by decide +kernel) (by decide +kernel)) (
  And.intro (sd_bipush (n := 6) (by decide) (by decide +kernel) (by decide +kernel)) (
  And.intro (sd_copy wm_1_111 wo_3 wo_4 wo_5 (by decide +kernel) (by decide +kernel)) (
  And.intro (sd_vret (by decide +kernel) rfl) (
  And.intro (sd_iload_n (k := 3) rfl (by decide +kernel) (by decide +kernel)) (
  And.intro (sd_iload (by decide +kernel) (by decide +kernel)) (
  And.intro (sd_iadd (by decide +kernel) (by decide +kernel)) (
  And.intro (sd_aload_n (k := 0) rfl (by decide +kernel) (by decide +kernel)) (
  And.intro (sd_getI cf1 (by decide) (by decide) wf_1_31 (by decide +kernel) (by decide +kernel)) (
  And.intro (sd_igt (off := 4) (by decide +kernel) (by decide +kernel) (by decide +kernel)) (
  And.intro (sd_vret (by decide +kernel) rfl) (
  And.intro (sd_aload_n (k := 1) rfl (by decide +kernel) (by decide +kernel)) (
  And.intro (sd_getR cf0 (by decide) (by decide) wf_1_117 (by decide +kernel) (by decide +kernel)) (
  And.intro (sd_iload_n (k := 2) rfl (by decide +kernel) (by decide +kernel)) (
  And.intro (sd_iald (by decide +kernel) (by decide +kernel)) (
  And.intro (sd_istore (by decide) (by decide +kernel) (by decide +kernel)) (
  And.intro (sd_aload_n (k := 0) rfl (by decide +kernel) (by decide +kernel)) (
  And.intro (sd_getR cf1 (by decide) (by decide) wf_1_25 (by decide +kernel) (by decide +kernel)) (
  And.intro (sd_iload_n (k := 2) rfl (by decide +kernel) (by decide +kernel)) (
  And.intro (sd_iconst (n := (-1)) (by decide) (by decide +kernel) (by decide +kernel)) (
  And.intro (sd_iast (by decide +kernel) (by decide +kernel)) (
  And.intro (sd_aload_n (k := 0) rfl (by decide +kernel) (by decide +kernel)) (
  And.intro (sd_aload_n (k := 1) rfl (by decide +kernel) (by decide +kernel)) (
  And.intro (sd_iload_n (k := 2) rfl (by decide +kernel) (by decide +kernel)) (
  And.intro (sd_iconst (n := 1) (by decide) (by decide +kernel) (by decide +kernel)) (
  And.intro (sd_iadd (by decide +kernel) (by decide +kernel)) (
  And.intro (sd_iload_n (k := 3) rfl (by decide +kernel) (by decide +kernel)) (
  And.intro (sd_iload (by decide +kernel) (by decide +kernel)) (
  And.intro (sd_iload (by decide +kernel) (by decide +kernel)) (
  And.intro (sd_isub (by decide +kernel) (by decide +kernel)) (
  And.intro (sd_VV mg_28 (by decide +kernel) wm_1_107 wn_28 wv_28 rfl rfl (by decide +kernel)) (
  And.intro (sd_iconst (n := 0) (by decide) (by decide +kernel) (by decide +kernel)) (
  And.intro (sd_istore (by decide) (by decide +kernel) (by decide +kernel)) (
  And.intro (sd_ms _ (sd_iload (by decide +kernel) (by decide +kernel))) (
  And.intro (sd_aload_n (k := 1) rfl (by decide +kernel) (by decide +kernel)) (
  And.intro (sd_getI cf0 (by decide) (by decide) wf_1_97 (by decide +kernel) (by decide +kernel)) (
  And.intro (sd_ige (off := 88) (by decide +kernel) (by decide +kernel) (by decide +kernel)) (
  And.intro (sd_aload_n (k := 0) rfl (by decide +kernel) (by decide +kernel)) (
  And.intro (sd_getR cf1 (by decide) (by decide) wf_1_22 (by decide +kernel) (by decide +kernel)) (
  And.intro (sd_iload (by decide +kernel) (by decide +kernel)) (
  And.intro (sd_iald (by decide +kernel) (by decide +kernel)) (
  And.intro (sd_iconst (n := 1) (by decide) (by decide +kernel) (by decide +kernel)) (
  And.intro (sd_iload_n (k := 2) rfl (by decide +kernel) (by decide +kernel)) (
  And.intro (sd_ishl (by decide +kernel) (by decide +kernel)) (
  And.intro (sd_ior (by decide +kernel) (by decide +kernel)) (
  And.intro (sd_istore (by decide) (by decide +kernel) (by decide +kernel)) (
  And.intro (sd_aload_n (k := 0) rfl (by decide +kernel) (by decide +kernel)) (
  And.intro (sd_getR cf1 (by decide) (by decide) wf_1_18 (by decide +kernel) (by decide +kernel)) (
  And.intro (sd_iload (by decide +kernel) (by decide +kernel)) (
  And.intro (sd_lald (by decide +kernel) (by decide +kernel)) (
  And.intro (sd_iload (by decide +kernel) (by decide +kernel)) (
  And.intro (sd_lshr (by decide +kernel) (by decide +kernel)) (
  And.intro (sd_lconst (n := 1) (by decide) (by decide +kernel) (by decide +kernel)) (
  And.intro (sd_land (by decide +kernel) (by decide +kernel)) (
  And.intro (sd_lconst (n := 0) (by decide) (by decide +kernel) (by decide +kernel)) (
  And.intro (sd_lcmp (by decide +kernel) (by decide +kernel)) (
  And.intro (sd_zeq (off := 52) (by decide +kernel) (by decide +kernel) (by decide +kernel)) (
  And.intro (sd_aload_n (k := 0) rfl (by decide +kernel) (by decide +kernel)) (
  And.intro (sd_getR cf1 (by decide) (by decide) wf_1_25 (by decide +kernel) (by decide +kernel)) (
  And.intro (sd_iload_n (k := 2) rfl (by decide +kernel) (by decide +kernel)) (
  And.intro (sd_iload (by decide +kernel) (by decide +kernel)) (
  And.intro (sd_iast (by decide +kernel) (by decide +kernel)) (
  And.intro (sd_aload_n (k := 0) rfl (by decide +kernel) (by decide +kernel)) (
  And.intro (sd_getR cf1 (by decide) (by decide) wf_1_22 (by decide +kernel) (by decide +kernel)) (
  And.intro (sd_iload (by decide +kernel) (by decide +kernel)) (
  And.intro (sd_iload (by decide +kernel) (by decide +kernel)) (
  And.intro (sd_iast (by decide +kernel) (by decide +kernel)) (
  And.intro (sd_aload_n (k := 0) rfl (by decide +kernel) (by decide +kernel)) (
  And.intro (sd_aload_n (k := 1) rfl (by decide +kernel) (by decide +kernel)) (
  And.intro (sd_iload_n (k := 2) rfl (by decide +kernel) (by decide +kernel)) (
  And.intro (sd_iconst (n := 1) (by decide) (by decide +kernel) (by decide +kernel)) (
  And.intro (sd_iadd (by decide +kernel) (by decide +kernel)) (
  And.intro (sd_iload_n (k := 3) rfl (by decide +kernel) (by decide +kernel)) (
  And.intro (sd_iload (by decide +kernel) (by decide +kernel)) (
  And.intro (sd_iadd (by decide +kernel) (by decide +kernel)) (
  And.intro (sd_iload (by decide +kernel) (by decide +kernel)) (
  And.intro (sd_iload (by decide +kernel) (by decide +kernel)) (
  And.intro (sd_isub (by decide +kernel) (by decide +kernel)) (
  And.intro (sd_VV mg_28 (by decide +kernel) wm_1_107 wn_28 wv_28 rfl rfl (by decide +kernel)) (
  And.intro (sd_aload_n (k := 0) rfl (by decide +kernel) (by decide +kernel)) (
  And.intro (sd_getR cf1 (by decide) (by decide) wf_1_22 (by decide +kernel) (by decide +kernel)) (
  And.intro (sd_iload (by decide +kernel) (by decide +kernel)) (
  And.intro (sd_iload (by decide +kernel) (by decide +kernel)) (
  And.intro (sd_iconst (n := 1) (by decide) (by decide +kernel) (by decide +kernel)) (
  And.intro (sd_iload_n (k := 2) rfl (by decide +kernel) (by decide +kernel)) (
  And.intro (sd_ishl (by decide +kernel) (by decide +kernel)) (
  And.intro (sd_iconst (n := (-1)) (by decide) (by decide +kernel) (by decide +kernel)) (
  And.intro (sd_ixor (by decide +kernel) (by decide +kernel)) (
  And.intro (sd_iand (by decide +kernel) (by decide +kernel)) (
  And.intro (sd_iast (by decide +kernel) (by decide +kernel)) (
  And.intro (sd_iinc (n := 1) (by decide) (by decide) (by decide +kernel) (by decide +kernel)) (
  And.intro (sd_go (off := (-91)) (by decide +kernel) (by decide +kernel)) (
  And.intro (sd_vret (by decide +kernel) rfl) (
  trivial))))))))))))))))))))))))))))))))))))))))))))))))))))))))))))))))))))))))))))))))))))))))))))))))))))))))))))))))
set_option maxRecDepth 100000 in
set_option maxHeartbeats 8000000 in
theorem sn_29 : Sns 29 0 tRu_init := And.intro (sd_aload_n (k := 0) rfl (by decide +kernel) (by decide +kernel)) (
  And.intro (sd_obj wm_2_5 wo_1 wo_2 (by decide +kernel) (by decide +kernel)) (
  And.intro (sd_aload_n (k := 0) rfl (by decide +kernel) (by decide +kernel)) (
  And.intro (sd_sipush (n := 400) (by decide) (by decide +kernel) (by decide +kernel)) (
  And.intro (sd_newa1 (by decide +kernel) wa_1 (by decide +kernel)) (
  And.intro (sd_putR cf2 (by decide) (by decide) (Or.inl ⟨_, rfl⟩) rfl (by decide +kernel) (by decide +kernel) wf_2_11 (by decide +kernel) (by decide +kernel)) (
  And.intro (sd_aload_n (k := 0) rfl (by decide +kernel) (by decide +kernel)) (
  And.intro (sd_iconst (n := 0) (by decide) (by decide +kernel) (by decide +kernel)) (
  And.intro (sd_putI cf2 (by decide) (by decide) rfl rfl wf_2_17 (by decide +kernel) (by decide +kernel)) (
  And.intro (sd_aload_n (k := 0) rfl (by decide +kernel) (by decide +kernel)) (
  And.intro (sd_bipush (n := 13) (by decide) (by decide +kernel) (by decide +kernel)) (
  And.intro (sd_newa1 (by decide +kernel) wa_1 (by decide +kernel)) (
  And.intro (sd_putR cf2 (by decide) (by decide) (Or.inl ⟨_, rfl⟩) rfl (by decide +kernel) (by decide +kernel) wf_2_21 (by decide +kernel) (by decide +kernel)) (
  And.intro (sd_aload_n (k := 0) rfl (by decide +kernel) (by decide +kernel)) (
  And.intro (sd_bipush (n := 12) (by decide) (by decide +kernel) (by decide +kernel)) (
  And.intro (sd_newa1 (by decide +kernel) wa_1 (by decide +kernel)) (
  And.intro (sd_putR cf2 (by decide) (by decide) (Or.inl ⟨_, rfl⟩) rfl (by decide +kernel) (by decide +kernel) wf_2_24 (by decide +kernel) (by decide +kernel)) (
  And.intro (sd_aload_n (k := 0) rfl (by decide +kernel) (by decide +kernel)) (
  And.intro (sd_iconst (n := 0) (by decide) (by decide +kernel) (by decide +kernel)) (
  And.intro (sd_putI cf2 (by decide) (by decide) rfl rfl wf_2_27 (by decide +kernel) (by decide +kernel)) (
  And.intro (sd_aload_n (k := 0) rfl (by decide +kernel) (by decide +kernel)) (
  And.intro (sd_iconst (n := 0) (by decide) (by decide +kernel) (by decide +kernel)) (
  And.intro (sd_putI cf2 (by decide) (by decide) rfl rfl wf_2_30 (by decide +kernel) (by decide +kernel)) (
  And.intro (sd_aload_n (k := 0) rfl (by decide +kernel) (by decide +kernel)) (
  And.intro (sd_bipush (n := 11) (by decide) (by decide +kernel) (by decide +kernel)) (
  And.intro (sd_newa4 (by decide +kernel) wa_4 (by decide +kernel)) (
  And.intro (sd_putR cf2 (by decide) (by decide) (Or.inl ⟨_, rfl⟩) rfl (by decide +kernel) (by decide +kernel) wf_2_33 (by decide +kernel) (by decide +kernel)) (
  And.intro (sd_aload_n (k := 0) rfl (by decide +kernel) (by decide +kernel)) (
  And.intro (sd_bipush (n := 40) (by decide) (by decide +kernel) (by decide +kernel)) (
  And.intro (sd_newa4 (by decide +kernel) wa_4 (by decide +kernel)) (
  And.intro (sd_putR cf2 (by decide) (by decide) (Or.inl ⟨_, rfl⟩) rfl (by decide +kernel) (by decide +kernel) wf_2_37 (by decide +kernel) (by decide +kernel)) (
  And.intro (sd_vret (by decide +kernel) rfl) (
  trivial))))))))))))))))))))))))))))))))
set_option maxRecDepth 100000 in
set_option maxHeartbeats 8000000 in
theorem sn_30 : Sns 30 0 tRu_read := And.intro (sd_aload_n (k := 0) rfl (by decide +kernel) (by decide +kernel)) (
  And.intro (sd_iconst (n := 0) (by decide) (by decide +kernel) (by decide +kernel)) (
  And.intro (sd_putI cf2 (by decide) (by decide) rfl rfl wf_2_17 (by decide +kernel) (by decide +kernel)) (
  And.intro (sd_aload_n (k := 0) rfl (by decide +kernel) (by decide +kernel)) (
  And.intro (sd_iconst (n := 0) (by decide) (by decide +kernel) (by decide +kernel)) (
  And.intro (sd_putI cf2 (by decide) (by decide) rfl rfl wf_2_27 (by decide +kernel) (by decide +kernel)) (
  And.intro (sd_aload_n (k := 0) rfl (by decide +kernel) (by decide +kernel)) (
  And.intro (sd_iconst (n := 0) (by decide) (by decide +kernel) (by decide +kernel)) (
  And.intro (sd_putI cf2 (by decide) (by decide) rfl rfl wf_2_30 (by decide +kernel) (by decide +kernel)) (
  And.intro (sd_aload_n (k := 1) rfl (by decide +kernel) (by decide +kernel)) (
  And.intro (sd_ldcS (idx := 40) (by decide +kernel) (by decide +kernel) (by decide +kernel)) (
  And.intro (sd_VV mg_49 (by decide +kernel) wm_2_42 wn_49 wv_49 rfl rfl (by decide +kernel)) (
  And.intro (sd_iconst (n := 1) (by decide) (by decide +kernel) (by decide +kernel)) (
  And.intro (sd_istore_n (k := 2) rfl (by decide) (by decide +kernel) (by decide +kernel)) (
  And.intro (sd_iconst (n := 0) (by decide) (by decide +kernel) (by decide +kernel)) (
  And.intro (sd_istore_n (k := 3) rfl (by decide) (by decide +kernel) (by decide +kernel)) (
  And.intro (sd_ms _ (sd_iload_n (k := 3) rfl (by decide +kernel) (by decide +kernel))) (
  And.intro (sd_bipush (n := 12) (by decide) (by decide +kernel) (by decide +kernel)) (
  And.intro (sd_igt (off := 23) (by decide +kernel) (by decide +kernel) (by decide +kernel)) (
  And.intro (sd_iload_n (k := 2) rfl (by decide +kernel) (by decide +kernel)) (
  And.intro (sd_zeq (off := 19) (by decide +kernel) (by decide +kernel) (by decide +kernel)) (
  And.intro (sd_aload_n (k := 0) rfl (by decide +kernel) (by decide +kernel)) (
  And.intro (sd_aload_n (k := 1) rfl (by decide +kernel) (by decide +kernel)) (
  And.intro (sd_VV mg_31 (by decide +kernel) wm_2_46 wn_31 wv_31 rfl rfl (by decide +kernel)) (
  And.intro (sd_aload_n (k := 1) rfl (by decide +kernel) (by decide +kernel)) (
  And.intro (sd_VI mg_65 (by decide +kernel) wm_2_50 wn_65 wv_65 rfl rfl (by decide +kernel)) (
  And.intro (sd_istore_n (k := 2) rfl (by decide) (by decide +kernel) (by decide +kernel)) (
  And.intro (sd_iinc (n := 1) (by decide) (by decide) (by decide +kernel) (by decide +kernel)) (
  And.intro (sd_go (off := (-23)) (by decide +kernel) (by decide +kernel)) (
  And.intro (sd_aload_n (k := 1) rfl (by decide +kernel) (by decide +kernel)) (
  And.intro (sd_getI cf4 (by decide) (by decide) wf_2_54 (by decide +kernel) (by decide +kernel)) (
  And.intro (sd_zne (off := 7) (by decide +kernel) (by decide +kernel) (by decide +kernel)) (
  And.intro (sd_iconst (n := 1) (by decide) (by decide +kernel) (by decide +kernel)) (
  And.intro (sd_go (off := 4) (by decide +kernel) (by decide +kernel)) (
  And.intro (sd_iconst (n := 0) (by decide) (by decide +kernel) (by decide +kernel)) (
  And.intro (sd_zret (by decide +kernel) rfl) (
  trivial))))))))))))))))))))))))))))))))))))
set_option maxRecDepth 100000 in
set_option maxHeartbeats 8000000 in
theorem sn_31 : Sns 31 0 tRu_readClause := And.intro (sd_aload_n (k := 1) rfl (by decide +kernel) (by decide +kernel)) (
  And.intro (sd_bipush (n := 11) (by decide) (by decide +kernel) (by decide +kernel)) (
  And.intro (sd_VI mg_57 (by decide +kernel) wm_2_57 wn_57 wv_57 rfl rfl (by decide +kernel)) (
  And.intro (sd_zne (off := 9) (by decide +kernel) (by decide +kernel) (by decide +kernel)) (
  And.intro (sd_aload_n (k := 1) rfl (by decide +kernel) (by decide +kernel)) (
  And.intro (sd_iconst (n := 0) (by decide) (by decide +kernel) (by decide +kernel)) (
  And.intro (sd_VV mg_63 (by decide +kernel) wm_2_61 wn_63 wv_63 rfl rfl (by decide +kernel)) (
  And.intro (sd_vret (by decide +kernel) rfl) (
  And.intro (sd_aload_n (k := 0) rfl (by decide +kernel) (by decide +kernel)) (
  And.intro (sd_getI cf2 (by decide) (by decide) wf_2_27 (by decide +kernel) (by decide +kernel)) (
  And.intro (sd_bipush (n := 12) (by decide) (by decide +kernel) (by decide +kernel)) (
  And.intro (sd_ilt (off := 9) (by decide +kernel) (by decide +kernel) (by decide +kernel)) (
  And.intro (sd_aload_n (k := 1) rfl (by decide +kernel) (by decide +kernel)) (
  And.intro (sd_iconst (n := 4) (by decide) (by decide +kernel) (by decide +kernel)) (
  And.intro (sd_VV mg_63 (by decide +kernel) wm_2_61 wn_63 wv_63 rfl rfl (by decide +kernel)) (
  And.intro (sd_vret (by decide +kernel) rfl) (
  And.intro (sd_aload_n (k := 1) rfl (by decide +kernel) (by decide +kernel)) (
  And.intro (sd_VV mg_62 (by decide +kernel) wm_2_65 wn_62 wv_62 rfl rfl (by decide +kernel)) (
  And.intro (sd_aload_n (k := 0) rfl (by decide +kernel) (by decide +kernel)) (
  And.intro (sd_getR cf2 (by decide) (by decide) wf_2_21 (by decide +kernel) (by decide +kernel)) (
  And.intro (sd_aload_n (k := 0) rfl (by decide +kernel) (by decide +kernel)) (
  And.intro (sd_getI cf2 (by decide) (by decide) wf_2_27 (by decide +kernel) (by decide +kernel)) (
  And.intro (sd_aload_n (k := 0) rfl (by decide +kernel) (by decide +kernel)) (
  And.intro (sd_getI cf2 (by decide) (by decide) wf_2_17 (by decide +kernel) (by decide +kernel)) (
  And.intro (sd_iast (by decide +kernel) (by decide +kernel)) (
  And.intro (sd_aload_n (k := 0) rfl (by decide +kernel) (by decide +kernel)) (
  And.intro (sd_aload_n (k := 1) rfl (by decide +kernel) (by decide +kernel)) (
  And.intro (sd_VV mg_36 (by decide +kernel) wm_2_68 wn_36 wv_36 rfl rfl (by decide +kernel)) (
  And.intro (sd_aload_n (k := 0) rfl (by decide +kernel) (by decide +kernel)) (
  And.intro (sd_getR cf2 (by decide) (by decide) wf_2_24 (by decide +kernel) (by decide +kernel)) (
  And.intro (sd_aload_n (k := 0) rfl (by decide +kernel) (by decide +kernel)) (
  And.intro (sd_getI cf2 (by decide) (by decide) wf_2_27 (by decide +kernel) (by decide +kernel)) (
  And.intro (sd_aload_n (k := 0) rfl (by decide +kernel) (by decide +kernel)) (
  And.intro (sd_getI cf2 (by decide) (by decide) wf_2_17 (by decide +kernel) (by decide +kernel)) (
  And.intro (sd_iast (by decide +kernel) (by decide +kernel)) (
  And.intro (sd_aload_n (k := 1) rfl (by decide +kernel) (by decide +kernel)) (
  And.intro (sd_getI cf4 (by decide) (by decide) wf_2_54 (by decide +kernel) (by decide +kernel)) (
  And.intro (sd_zne (off := 22) (by decide +kernel) (by decide +kernel) (by decide +kernel)) (
  And.intro (sd_aload_n (k := 1) rfl (by decide +kernel) (by decide +kernel)) (
  And.intro (sd_bipush (n := 12) (by decide) (by decide +kernel) (by decide +kernel)) (
  And.intro (sd_VI mg_57 (by decide +kernel) wm_2_57 wn_57 wv_57 rfl rfl (by decide +kernel)) (
  And.intro (sd_zeq (off := 13) (by decide +kernel) (by decide +kernel) (by decide +kernel)) (
  And.intro (sd_aload_n (k := 1) rfl (by decide +kernel) (by decide +kernel)) (
  And.intro (sd_VV mg_62 (by decide +kernel) wm_2_65 wn_62 wv_62 rfl rfl (by decide +kernel)) (
  And.intro (sd_aload_n (k := 0) rfl (by decide +kernel) (by decide +kernel)) (
  And.intro (sd_aload_n (k := 1) rfl (by decide +kernel) (by decide +kernel)) (
  And.intro (sd_iconst (n := 0) (by decide) (by decide +kernel) (by decide +kernel)) (
  And.intro (sd_VV mg_32 (by decide +kernel) wm_2_71 wn_32 wv_32 rfl rfl (by decide +kernel)) (
  And.intro (sd_aload_n (k := 0) rfl (by decide +kernel) (by decide +kernel)) (
  And.intro (sd_dup (by decide +kernel) (by decide +kernel)) (
  And.intro (sd_getI cf2 (by decide) (by decide) wf_2_27 (by decide +kernel) (by decide +kernel)) (
  And.intro (sd_iconst (n := 1) (by decide) (by decide +kernel) (by decide +kernel)) (
  And.intro (sd_iadd (by decide +kernel) (by decide +kernel)) (
  And.intro (sd_putI cf2 (by decide) (by decide) rfl rfl wf_2_27 (by decide +kernel) (by decide +kernel)) (
  And.intro (sd_aload_n (k := 0) rfl (by decide +kernel) (by decide +kernel)) (
  And.intro (sd_getR cf2 (by decide) (by decide) wf_2_21 (by decide +kernel) (by decide +kernel)) (
  And.intro (sd_aload_n (k := 0) rfl (by decide +kernel) (by decide +kernel)) (
  And.intro (sd_getI cf2 (by decide) (by decide) wf_2_27 (by decide +kernel) (by decide +kernel)) (
  And.intro (sd_aload_n (k := 0) rfl (by decide +kernel) (by decide +kernel)) (
  And.intro (sd_getI cf2 (by decide) (by decide) wf_2_17 (by decide +kernel) (by decide +kernel)) (
  And.intro (sd_iast (by decide +kernel) (by decide +kernel)) (
  And.intro (sd_vret (by decide +kernel) rfl) (
  trivial))))))))))))))))))))))))))))))))))))))))))))))))))))))))))))))
set_option maxRecDepth 100000 in
set_option maxHeartbeats 8000000 in
theorem sn_32 : Sns 32 0 tRu_readTest := And.intro (sd_iconst (n := 0) (by decide) (by decide +kernel) (by decide +kernel)) (
  And.intro (sd_istore_n (k := 3) rfl (by decide) (by decide +kernel) (by decide +kernel)) (
  And.intro (sd_aload_n (k := 0) rfl (by decide +kernel) (by decide +kernel)) (
  And.intro (sd_aload_n (k := 1) rfl (by decide +kernel) (by decide +kernel)) (
  And.intro (sd_iload_n (k := 2) rfl (by decide +kernel) (by decide +kernel)) (
  And.intro (sd_VV mg_33 (by decide +kernel) wm_2_75 wn_33 wv_33 rfl rfl (by decide +kernel)) (
  And.intro (sd_iconst (n := 0) (by decide) (by decide +kernel) (by decide +kernel)) (
  And.intro (sd_istore (by decide) (by decide +kernel) (by decide +kernel)) (
  And.intro (sd_ms _ (sd_iload (by decide +kernel) (by decide +kernel))) (
  And.intro (sd_sipush (n := 400) (by decide) (by decide +kernel) (by decide +kernel)) (
  And.intro (sd_ige (off := 82) (by decide +kernel) (by decide +kernel) (by decide +kernel)) (
  And.intro (sd_aload_n (k := 1) rfl (by decide +kernel) (by decide +kernel)) (
  And.intro (sd_getI cf4 (by decide) (by decide) wf_2_54 (by decide +kernel) (by decide +kernel)) (
  And.intro (sd_zne (off := 75) (by decide +kernel) (by decide +kernel) (by decide +kernel)) (
  And.intro (sd_aload_n (k := 1) rfl (by decide +kernel) (by decide +kernel)) (
  And.intro (sd_bipush (n := 15) (by decide) (by decide +kernel) (by decide +kernel)) (
  And.intro (sd_VI mg_57 (by decide +kernel) wm_2_57 wn_57 wv_57 rfl rfl (by decide +kernel)) (
  And.intro (sd_istore (by decide) (by decide +kernel) (by decide +kernel)) (
  And.intro (sd_iload (by decide +kernel) (by decide +kernel)) (
  And.intro (sd_zne (off := 15) (by decide +kernel) (by decide +kernel) (by decide +kernel)) (
  And.intro (sd_aload_n (k := 1) rfl (by decide +kernel) (by decide +kernel)) (
  And.intro (sd_bipush (n := 14) (by decide) (by decide +kernel) (by decide +kernel)) (
  And.intro (sd_VI mg_57 (by decide +kernel) wm_2_57 wn_57 wv_57 rfl rfl (by decide +kernel)) (
  And.intro (sd_zne (off := 6) (by decide +kernel) (by decide +kernel) (by decide +kernel)) (
  And.intro (sd_go (off := 50) (by decide +kernel) (by decide +kernel)) (
  And.intro (sd_ms _ (sd_iload (by decide +kernel) (by decide +kernel))) (
  And.intro (sd_zeq (off := 13) (by decide +kernel) (by decide +kernel) (by decide +kernel)) (
  And.intro (sd_iload_n (k := 3) rfl (by decide +kernel) (by decide +kernel)) (
  And.intro (sd_zeq (off := 9) (by decide +kernel) (by decide +kernel) (by decide +kernel)) (
  And.intro (sd_aload_n (k := 0) rfl (by decide +kernel) (by decide +kernel)) (
  And.intro (sd_bipush (n := 15) (by decide) (by decide +kernel) (by decide +kernel)) (
  And.intro (sd_VV mg_38 (by decide +kernel) wm_2_78 wn_38 wv_38 rfl rfl (by decide +kernel)) (
  And.intro (sd_iload_n (k := 3) rfl (by decide +kernel) (by decide +kernel)) (
  And.intro (sd_iload (by decide +kernel) (by decide +kernel)) (
  And.intro (sd_ior (by decide +kernel) (by decide +kernel)) (
  And.intro (sd_istore_n (k := 3) rfl (by decide) (by decide +kernel) (by decide +kernel)) (
  And.intro (sd_aload_n (k := 1) rfl (by decide +kernel) (by decide +kernel)) (
  And.intro (sd_VV mg_62 (by decide +kernel) wm_2_65 wn_62 wv_62 rfl rfl (by decide +kernel)) (
  And.intro (sd_aload_n (k := 0) rfl (by decide +kernel) (by decide +kernel)) (
  And.intro (sd_aload_n (k := 1) rfl (by decide +kernel) (by decide +kernel)) (
  And.intro (sd_iload_n (k := 2) rfl (by decide +kernel) (by decide +kernel)) (
  And.intro (sd_VV mg_33 (by decide +kernel) wm_2_75 wn_33 wv_33 rfl rfl (by decide +kernel)) (
  And.intro (sd_iload (by decide +kernel) (by decide +kernel)) (
  And.intro (sd_zne (off := 9) (by decide +kernel) (by decide +kernel) (by decide +kernel)) (
  And.intro (sd_aload_n (k := 0) rfl (by decide +kernel) (by decide +kernel)) (
  And.intro (sd_bipush (n := 14) (by decide) (by decide +kernel) (by decide +kernel)) (
  And.intro (sd_VV mg_38 (by decide +kernel) wm_2_78 wn_38 wv_38 rfl rfl (by decide +kernel)) (
  And.intro (sd_iinc (n := 1) (by decide) (by decide) (by decide +kernel) (by decide +kernel)) (
  And.intro (sd_go (off := (-84)) (by decide +kernel) (by decide +kernel)) (
  And.intro (sd_iload_n (k := 3) rfl (by decide +kernel) (by decide +kernel)) (
  And.intro (sd_zeq (off := 9) (by decide +kernel) (by decide +kernel) (by decide +kernel)) (
  And.intro (sd_aload_n (k := 0) rfl (by decide +kernel) (by decide +kernel)) (
  And.intro (sd_bipush (n := 15) (by decide) (by decide +kernel) (by decide +kernel)) (
  And.intro (sd_VV mg_38 (by decide +kernel) wm_2_78 wn_38 wv_38 rfl rfl (by decide +kernel)) (
  And.intro (sd_vret (by decide +kernel) rfl) (
  trivial)))))))))))))))))))))))))))))))))))))))))))))))))))))))
set_option maxRecDepth 100000 in
set_option maxHeartbeats 8000000 in
theorem sn_33 : Sns 33 0 tRu_readFact := And.intro (sd_aload_n (k := 1) rfl (by decide +kernel) (by decide +kernel)) (
  And.intro (sd_bipush (n := 13) (by decide) (by decide +kernel) (by decide +kernel)) (
  And.intro (sd_VI mg_57 (by decide +kernel) wm_2_57 wn_57 wv_57 rfl rfl (by decide +kernel)) (
  And.intro (sd_istore_n (k := 3) rfl (by decide) (by decide +kernel) (by decide +kernel)) (
  And.intro (sd_iload_n (k := 3) rfl (by decide +kernel) (by decide +kernel)) (
  And.intro (sd_zne (off := 12) (by decide +kernel) (by decide +kernel) (by decide +kernel)) (
  And.intro (sd_aload_n (k := 1) rfl (by decide +kernel) (by decide +kernel)) (
  And.intro (sd_bipush (n := 91) (by decide) (by decide +kernel) (by decide +kernel)) (
  And.intro (sd_VI mg_58 (by decide +kernel) wm_2_81 wn_58 wv_58 rfl rfl (by decide +kernel)) (
  And.intro (sd_zeq (off := 7) (by decide +kernel) (by decide +kernel) (by decide +kernel)) (
  And.intro (sd_iconst (n := 1) (by decide) (by decide +kernel) (by decide +kernel)) (
  And.intro (sd_go (off := 4) (by decide +kernel) (by decide +kernel)) (
  And.intro (sd_iconst (n := 0) (by decide) (by decide +kernel) (by decide +kernel)) (
  And.intro (sd_ms _ (sd_istore (by decide) (by decide +kernel) (by decide +kernel))) (
  And.intro (sd_iload (by decide +kernel) (by decide +kernel)) (
  And.intro (sd_zeq (off := 17) (by decide +kernel) (by decide +kernel) (by decide +kernel)) (
  And.intro (sd_iload_n (k := 2) rfl (by decide +kernel) (by decide +kernel)) (
  And.intro (sd_bipush (n := 10) (by decide) (by decide +kernel) (by decide +kernel)) (
  And.intro (sd_ilt (off := 11) (by decide +kernel) (by decide +kernel) (by decide +kernel)) (
  And.intro (sd_aload_n (k := 1) rfl (by decide +kernel) (by decide +kernel)) (
  And.intro (sd_iconst (n := 2) (by decide) (by decide +kernel) (by decide +kernel)) (
  And.intro (sd_VV mg_63 (by decide +kernel) wm_2_61 wn_63 wv_63 rfl rfl (by decide +kernel)) (
  And.intro (sd_go (off := 83) (by decide +kernel) (by decide +kernel)) (
  And.intro (sd_iload_n (k := 3) rfl (by decide +kernel) (by decide +kernel)) (
  And.intro (sd_zeq (off := 24) (by decide +kernel) (by decide +kernel) (by decide +kernel)) (
  And.intro (sd_aload_n (k := 1) rfl (by decide +kernel) (by decide +kernel)) (
  And.intro (sd_VV mg_62 (by decide +kernel) wm_2_65 wn_62 wv_62 rfl rfl (by decide +kernel)) (
  And.intro (sd_aload_n (k := 0) rfl (by decide +kernel) (by decide +kernel)) (
  And.intro (sd_aload_n (k := 1) rfl (by decide +kernel) (by decide +kernel)) (
  And.intro (sd_iload_n (k := 2) rfl (by decide +kernel) (by decide +kernel)) (
  And.intro (sd_iconst (n := 1) (by decide) (by decide +kernel) (by decide +kernel)) (
  And.intro (sd_iadd (by decide +kernel) (by decide +kernel)) (
  And.intro (sd_VV mg_33 (by decide +kernel) wm_2_75 wn_33 wv_33 rfl rfl (by decide +kernel)) (
  And.intro (sd_aload_n (k := 0) rfl (by decide +kernel) (by decide +kernel)) (
  And.intro (sd_bipush (n := 13) (by decide) (by decide +kernel) (by decide +kernel)) (
  And.intro (sd_VV mg_38 (by decide +kernel) wm_2_78 wn_38 wv_38 rfl rfl (by decide +kernel)) (
  And.intro (sd_go (off := 58) (by decide +kernel) (by decide +kernel)) (
  And.intro (sd_iload (by decide +kernel) (by decide +kernel)) (
  And.intro (sd_zeq (off := 24) (by decide +kernel) (by decide +kernel) (by decide +kernel)) (
  And.intro (sd_aload_n (k := 1) rfl (by decide +kernel) (by decide +kernel)) (
  And.intro (sd_VV mg_62 (by decide +kernel) wm_2_65 wn_62 wv_62 rfl rfl (by decide +kernel)) (
  And.intro (sd_aload_n (k := 0) rfl (by decide +kernel) (by decide +kernel)) (
  And.intro (sd_aload_n (k := 1) rfl (by decide +kernel) (by decide +kernel)) (
  And.intro (sd_iload_n (k := 2) rfl (by decide +kernel) (by decide +kernel)) (
  And.intro (sd_iconst (n := 1) (by decide) (by decide +kernel) (by decide +kernel)) (
  And.intro (sd_iadd (by decide +kernel) (by decide +kernel)) (
  And.intro (sd_VV mg_32 (by decide +kernel) wm_2_71 wn_32 wv_32 rfl rfl (by decide +kernel)) (
  And.intro (sd_aload_n (k := 1) rfl (by decide +kernel) (by decide +kernel)) (
  And.intro (sd_bipush (n := 93) (by decide) (by decide +kernel) (by decide +kernel)) (
  And.intro (sd_VV mg_66 (by decide +kernel) wm_2_84 wn_66 wv_66 rfl rfl (by decide +kernel)) (
  And.intro (sd_go (off := 32) (by decide +kernel) (by decide +kernel)) (
  And.intro (sd_aload_n (k := 0) rfl (by decide +kernel) (by decide +kernel)) (
  And.intro (sd_aload_n (k := 1) rfl (by decide +kernel) (by decide +kernel)) (
  And.intro (sd_VV mg_36 (by decide +kernel) wm_2_68 wn_36 wv_36 rfl rfl (by decide +kernel)) (
  And.intro (sd_aload_n (k := 1) rfl (by decide +kernel) (by decide +kernel)) (
  And.intro (sd_VI mg_60 (by decide +kernel) wm_2_87 wn_60 wv_60 rfl rfl (by decide +kernel)) (
  And.intro (sd_istore (by decide) (by decide +kernel) (by decide +kernel)) (
  And.intro (sd_aload_n (k := 0) rfl (by decide +kernel) (by decide +kernel)) (
  And.intro (sd_aload_n (k := 1) rfl (by decide +kernel) (by decide +kernel)) (
  And.intro (sd_iload (by decide +kernel) (by decide +kernel)) (
  And.intro (sd_VV mg_34 (by decide +kernel) wm_2_91 wn_34 wv_34 rfl rfl (by decide +kernel)) (
  And.intro (sd_aload_n (k := 0) rfl (by decide +kernel) (by decide +kernel)) (
  And.intro (sd_aload_n (k := 1) rfl (by decide +kernel) (by decide +kernel)) (
  And.intro (sd_VV mg_36 (by decide +kernel) wm_2_68 wn_36 wv_36 rfl rfl (by decide +kernel)) (
  And.intro (sd_aload_n (k := 0) rfl (by decide +kernel) (by decide +kernel)) (
  And.intro (sd_iload (by decide +kernel) (by decide +kernel)) (
  And.intro (sd_VV mg_38 (by decide +kernel) wm_2_78 wn_38 wv_38 rfl rfl (by decide +kernel)) (
  And.intro (sd_vret (by decide +kernel) rfl) (
  trivial))))))))))))))))))))))))))))))))))))))))))))))))))))))))))))))))))))
set_option maxRecDepth 100000 in
set_option maxHeartbeats 8000000 in
theorem sn_34 : Sns 34 0 tRu_countSign := And.intro (sd_iload_n (k := 2) rfl (by decide +kernel) (by decide +kernel)) (
  And.intro (sd_SI mg_35 (by decide +kernel) wm_2_94 wt_35 (by decide +kernel)) (
  And.intro (sd_zne (off := 11) (by decide +kernel) (by decide +kernel) (by decide +kernel)) (
  And.intro (sd_aload_n (k := 1) rfl (by decide +kernel) (by decide +kernel)) (
  And.intro (sd_iconst (n := 0) (by decide) (by decide +kernel) (by decide +kernel)) (
  And.intro (sd_VV mg_63 (by decide +kernel) wm_2_61 wn_63 wv_63 rfl rfl (by decide +kernel)) (
  And.intro (sd_go (off := 17) (by decide +kernel) (by decide +kernel)) (
  And.intro (sd_aload_n (k := 0) rfl (by decide +kernel) (by decide +kernel)) (
  And.intro (sd_getI cf2 (by decide) (by decide) wf_2_30 (by decide +kernel) (by decide +kernel)) (
  And.intro (sd_bipush (n := 60) (by decide) (by decide +kernel) (by decide +kernel)) (
  And.intro (sd_ilt (off := 8) (by decide +kernel) (by decide +kernel) (by decide +kernel)) (
  And.intro (sd_aload_n (k := 1) rfl (by decide +kernel) (by decide +kernel)) (
  And.intro (sd_iconst (n := 3) (by decide) (by decide +kernel) (by decide +kernel)) (
  And.intro (sd_VV mg_63 (by decide +kernel) wm_2_61 wn_63 wv_63 rfl rfl (by decide +kernel)) (
  And.intro (sd_aload_n (k := 0) rfl (by decide +kernel) (by decide +kernel)) (
  And.intro (sd_dup (by decide +kernel) (by decide +kernel)) (
  And.intro (sd_getI cf2 (by decide) (by decide) wf_2_30 (by decide +kernel) (by decide +kernel)) (
  And.intro (sd_iconst (n := 1) (by decide) (by decide +kernel) (by decide +kernel)) (
  And.intro (sd_iadd (by decide +kernel) (by decide +kernel)) (
  And.intro (sd_putI cf2 (by decide) (by decide) rfl rfl wf_2_30 (by decide +kernel) (by decide +kernel)) (
  And.intro (sd_aload_n (k := 1) rfl (by decide +kernel) (by decide +kernel)) (
  And.intro (sd_VV mg_62 (by decide +kernel) wm_2_65 wn_62 wv_62 rfl rfl (by decide +kernel)) (
  And.intro (sd_vret (by decide +kernel) rfl) (
  trivial)))))))))))))))))))))))
set_option maxRecDepth 100000 in
set_option maxHeartbeats 8000000 in
theorem sn_35 : Sns 35 0 tRu_compares := And.intro (sd_iload_n (k := 0) rfl (by decide +kernel) (by decide +kernel)) (
  And.intro (sd_bipush (n := 60) (by decide) (by decide +kernel) (by decide +kernel)) (
  And.intro (sd_ieq (off := 29) (by decide +kernel) (by decide +kernel) (by decide +kernel)) (
  And.intro (sd_iload_n (k := 0) rfl (by decide +kernel) (by decide +kernel)) (
  And.intro (sd_bipush (n := 61) (by decide) (by decide +kernel) (by decide +kernel)) (
  And.intro (sd_ieq (off := 23) (by decide +kernel) (by decide +kernel) (by decide +kernel)) (
  And.intro (sd_iload_n (k := 0) rfl (by decide +kernel) (by decide +kernel)) (
  And.intro (sd_bipush (n := 62) (by decide) (by decide +kernel) (by decide +kernel)) (
  And.intro (sd_ieq (off := 17) (by decide +kernel) (by decide +kernel) (by decide +kernel)) (
  And.intro (sd_iload_n (k := 0) rfl (by decide +kernel) (by decide +kernel)) (
  And.intro (sd_sipush (n := 316) (by decide) (by decide +kernel) (by decide +kernel)) (
  And.intro (sd_ieq (off := 10) (by decide +kernel) (by decide +kernel) (by decide +kernel)) (
  And.intro (sd_iload_n (k := 0) rfl (by decide +kernel) (by decide +kernel)) (
  And.intro (sd_sipush (n := 318) (by decide) (by decide +kernel) (by decide +kernel)) (
  And.intro (sd_ine (off := 7) (by decide +kernel) (by decide +kernel) (by decide +kernel)) (
  And.intro (sd_iconst (n := 1) (by decide) (by decide +kernel) (by decide +kernel)) (
  And.intro (sd_go (off := 4) (by decide +kernel) (by decide +kernel)) (
  And.intro (sd_iconst (n := 0) (by decide) (by decide +kernel) (by decide +kernel)) (
  And.intro (sd_zret (by decide +kernel) rfl) (
  trivial)))))))))))))))))))
set_option maxRecDepth 100000 in
set_option maxHeartbeats 8000000 in
theorem sn_36 : Sns 36 0 tRu_readSum := And.intro (sd_iconst (n := (-1)) (by decide) (by decide +kernel) (by decide +kernel)) (
  And.intro (sd_istore_n (k := 2) rfl (by decide) (by decide +kernel) (by decide +kernel)) (
  And.intro (sd_aload_n (k := 0) rfl (by decide +kernel) (by decide +kernel)) (
  And.intro (sd_aload_n (k := 1) rfl (by decide +kernel) (by decide +kernel)) (
  And.intro (sd_VV mg_37 (by decide +kernel) wm_2_97 wn_37 wv_37 rfl rfl (by decide +kernel)) (
  And.intro (sd_iconst (n := 0) (by decide) (by decide +kernel) (by decide +kernel)) (
  And.intro (sd_istore_n (k := 3) rfl (by decide) (by decide +kernel) (by decide +kernel)) (
  And.intro (sd_ms _ (sd_iload_n (k := 3) rfl (by decide +kernel) (by decide +kernel))) (
  And.intro (sd_sipush (n := 400) (by decide) (by decide +kernel) (by decide +kernel)) (
  And.intro (sd_ige (off := 119) (by decide +kernel) (by decide +kernel) (by decide +kernel)) (
  And.intro (sd_aload_n (k := 1) rfl (by decide +kernel) (by decide +kernel)) (
  And.intro (sd_getI cf4 (by decide) (by decide) wf_2_54 (by decide +kernel) (by decide +kernel)) (
  And.intro (sd_zne (off := 112) (by decide +kernel) (by decide +kernel) (by decide +kernel)) (
  And.intro (sd_aload_n (k := 1) rfl (by decide +kernel) (by decide +kernel)) (
  And.intro (sd_VI mg_60 (by decide +kernel) wm_2_87 wn_60 wv_60 rfl rfl (by decide +kernel)) (
  And.intro (sd_istore (by decide) (by decide +kernel) (by decide +kernel)) (
  And.intro (sd_iload (by decide +kernel) (by decide +kernel)) (
  And.intro (sd_bipush (n := 43) (by decide) (by decide +kernel) (by decide +kernel)) (
  And.intro (sd_ieq (off := 10) (by decide +kernel) (by decide +kernel) (by decide +kernel)) (
  And.intro (sd_iload (by decide +kernel) (by decide +kernel)) (
  And.intro (sd_bipush (n := 45) (by decide) (by decide +kernel) (by decide +kernel)) (
  And.intro (sd_ine (off := 7) (by decide +kernel) (by decide +kernel) (by decide +kernel)) (
  And.intro (sd_ms _ (sd_iconst (n := 1) (by decide) (by decide +kernel) (by decide +kernel))) (
  And.intro (sd_go (off := 4) (by decide +kernel) (by decide +kernel)) (
  And.intro (sd_iconst (n := 0) (by decide) (by decide +kernel) (by decide +kernel)) (
  And.intro (sd_istore (by decide) (by decide +kernel) (by decide +kernel)) (
  And.intro (sd_iload (by decide +kernel) (by decide +kernel)) (
  And.intro (sd_zne (off := 27) (by decide +kernel) (by decide +kernel) (by decide +kernel)) (
  And.intro (sd_iload (by decide +kernel) (by decide +kernel)) (
  And.intro (sd_bipush (n := 42) (by decide) (by decide +kernel) (by decide +kernel)) (
  And.intro (sd_ieq (off := 20) (by decide +kernel) (by decide +kernel) (by decide +kernel)) (
  And.intro (sd_iload (by decide +kernel) (by decide +kernel)) (
  And.intro (sd_bipush (n := 47) (by decide) (by decide +kernel) (by decide +kernel)) (
  And.intro (sd_ieq (off := 13) (by decide +kernel) (by decide +kernel) (by decide +kernel)) (
  And.intro (sd_iload (by decide +kernel) (by decide +kernel)) (
  And.intro (sd_bipush (n := 37) (by decide) (by decide +kernel) (by decide +kernel)) (
  And.intro (sd_ieq (off := 6) (by decide +kernel) (by decide +kernel) (by decide +kernel)) (
  And.intro (sd_go (off := 56) (by decide +kernel) (by decide +kernel)) (
  And.intro (sd_ms _ (sd_iload (by decide +kernel) (by decide +kernel))) (
  And.intro (sd_zeq (off := 13) (by decide +kernel) (by decide +kernel) (by decide +kernel)) (
  And.intro (sd_iload_n (k := 2) rfl (by decide +kernel) (by decide +kernel)) (
  And.intro (sd_iconst (n := (-1)) (by decide) (by decide +kernel) (by decide +kernel)) (
  And.intro (sd_ieq (off := 8) (by decide +kernel) (by decide +kernel) (by decide +kernel)) (
  And.intro (sd_aload_n (k := 0) rfl (by decide +kernel) (by decide +kernel)) (
  And.intro (sd_iload_n (k := 2) rfl (by decide +kernel) (by decide +kernel)) (
  And.intro (sd_VV mg_38 (by decide +kernel) wm_2_78 wn_38 wv_38 rfl rfl (by decide +kernel)) (
  And.intro (sd_iload (by decide +kernel) (by decide +kernel)) (
  And.intro (sd_zeq (off := 8) (by decide +kernel) (by decide +kernel) (by decide +kernel)) (
  And.intro (sd_iload (by decide +kernel) (by decide +kernel)) (
  And.intro (sd_go (off := 4) (by decide +kernel) (by decide +kernel)) (
  And.intro (sd_iload_n (k := 2) rfl (by decide +kernel) (by decide +kernel)) (
  And.intro (sd_istore_n (k := 2) rfl (by decide) (by decide +kernel) (by decide +kernel)) (
  And.intro (sd_aload_n (k := 1) rfl (by decide +kernel) (by decide +kernel)) (
  And.intro (sd_VV mg_62 (by decide +kernel) wm_2_65 wn_62 wv_62 rfl rfl (by decide +kernel)) (
  And.intro (sd_aload_n (k := 0) rfl (by decide +kernel) (by decide +kernel)) (
  And.intro (sd_aload_n (k := 1) rfl (by decide +kernel) (by decide +kernel)) (
  And.intro (sd_VV mg_37 (by decide +kernel) wm_2_97 wn_37 wv_37 rfl rfl (by decide +kernel)) (
  And.intro (sd_iload (by decide +kernel) (by decide +kernel)) (
  And.intro (sd_zne (off := 9) (by decide +kernel) (by decide +kernel) (by decide +kernel)) (
  And.intro (sd_aload_n (k := 0) rfl (by decide +kernel) (by decide +kernel)) (
  And.intro (sd_iload (by decide +kernel) (by decide +kernel)) (
  And.intro (sd_VV mg_38 (by decide +kernel) wm_2_78 wn_38 wv_38 rfl rfl (by decide +kernel)) (
  And.intro (sd_iinc (n := 1) (by decide) (by decide) (by decide +kernel) (by decide +kernel)) (
  And.intro (sd_go (off := (-120)) (by decide +kernel) (by decide +kernel)) (
  And.intro (sd_iload_n (k := 2) rfl (by decide +kernel) (by decide +kernel)) (
  And.intro (sd_iconst (n := (-1)) (by decide) (by decide +kernel) (by decide +kernel)) (
  And.intro (sd_ieq (off := 8) (by decide +kernel) (by decide +kernel) (by decide +kernel)) (
  And.intro (sd_aload_n (k := 0) rfl (by decide +kernel) (by decide +kernel)) (
  And.intro (sd_iload_n (k := 2) rfl (by decide +kernel) (by decide +kernel)) (
  And.intro (sd_VV mg_38 (by decide +kernel) wm_2_78 wn_38 wv_38 rfl rfl (by decide +kernel)) (
  And.intro (sd_vret (by decide +kernel) rfl) (
  trivial)))))))))))))))))))))))))))))))))))))))))))))))))))))))))))))))))))))))
set_option maxRecDepth 100000 in
set_option maxHeartbeats 8000000 in
theorem sn_37 : Sns 37 0 tRu_readValue := And.intro (sd_aload_n (k := 1) rfl (by decide +kernel) (by decide +kernel)) (
  And.intro (sd_VI mg_59 (by decide +kernel) wm_2_100 wn_59 wv_59 rfl rfl (by decide +kernel)) (
  And.intro (sd_istore_n (k := 2) rfl (by decide) (by decide +kernel) (by decide +kernel)) (
  And.intro (sd_aload_n (k := 1) rfl (by decide +kernel) (by decide +kernel)) (
  And.intro (sd_VI mg_61 (by decide +kernel) wm_2_103 wn_61 wv_61 rfl rfl (by decide +kernel)) (
  And.intro (sd_istore_n (k := 3) rfl (by decide) (by decide +kernel) (by decide +kernel)) (
  And.intro (sd_aload_n (k := 1) rfl (by decide +kernel) (by decide +kernel)) (
  And.intro (sd_VI mg_56 (by decide +kernel) wm_2_106 wn_56 wv_56 rfl rfl (by decide +kernel)) (
  And.intro (sd_zne (off := 22) (by decide +kernel) (by decide +kernel) (by decide +kernel)) (
  And.intro (sd_iload_n (k := 2) rfl (by decide +kernel) (by decide +kernel)) (
  And.intro (sd_iconst (n := (-1)) (by decide) (by decide +kernel) (by decide +kernel)) (
  And.intro (sd_ieq (off := 9) (by decide +kernel) (by decide +kernel) (by decide +kernel)) (
  And.intro (sd_iload_n (k := 2) rfl (by decide +kernel) (by decide +kernel)) (
  And.intro (sd_bipush (n := 11) (by decide) (by decide +kernel) (by decide +kernel)) (
  And.intro (sd_ilt (off := 11) (by decide +kernel) (by decide +kernel) (by decide +kernel)) (
  And.intro (sd_aload_n (k := 1) rfl (by decide +kernel) (by decide +kernel)) (
  And.intro (sd_iconst (n := 0) (by decide) (by decide +kernel) (by decide +kernel)) (
  And.intro (sd_VV mg_63 (by decide +kernel) wm_2_61 wn_63 wv_63 rfl rfl (by decide +kernel)) (
  And.intro (sd_go (off := 74) (by decide +kernel) (by decide +kernel)) (
  And.intro (sd_aload_n (k := 1) rfl (by decide +kernel) (by decide +kernel)) (
  And.intro (sd_VI mg_56 (by decide +kernel) wm_2_106 wn_56 wv_56 rfl rfl (by decide +kernel)) (
  And.intro (sd_zeq (off := 16) (by decide +kernel) (by decide +kernel) (by decide +kernel)) (
  And.intro (sd_iload_n (k := 3) rfl (by decide +kernel) (by decide +kernel)) (
  And.intro (sd_iconst (n := (-1)) (by decide) (by decide +kernel) (by decide +kernel)) (
  And.intro (sd_ine (off := 11) (by decide +kernel) (by decide +kernel) (by decide +kernel)) (
  And.intro (sd_aload_n (k := 1) rfl (by decide +kernel) (by decide +kernel)) (
  And.intro (sd_iconst (n := 1) (by decide) (by decide +kernel) (by decide +kernel)) (
  And.intro (sd_VV mg_63 (by decide +kernel) wm_2_61 wn_63 wv_63 rfl rfl (by decide +kernel)) (
  And.intro (sd_go (off := 54) (by decide +kernel) (by decide +kernel)) (
  And.intro (sd_aload_n (k := 0) rfl (by decide +kernel) (by decide +kernel)) (
  And.intro (sd_getI cf2 (by decide) (by decide) wf_2_30 (by decide +kernel) (by decide +kernel)) (
  And.intro (sd_bipush (n := 60) (by decide) (by decide +kernel) (by decide +kernel)) (
  And.intro (sd_ilt (off := 11) (by decide +kernel) (by decide +kernel) (by decide +kernel)) (
  And.intro (sd_aload_n (k := 1) rfl (by decide +kernel) (by decide +kernel)) (
  And.intro (sd_iconst (n := 3) (by decide) (by decide +kernel) (by decide +kernel)) (
  And.intro (sd_VV mg_63 (by decide +kernel) wm_2_61 wn_63 wv_63 rfl rfl (by decide +kernel)) (
  And.intro (sd_go (off := 37) (by decide +kernel) (by decide +kernel)) (
  And.intro (sd_aload_n (k := 0) rfl (by decide +kernel) (by decide +kernel)) (
  And.intro (sd_dup (by decide +kernel) (by decide +kernel)) (
  And.intro (sd_getI cf2 (by decide) (by decide) wf_2_30 (by decide +kernel) (by decide +kernel)) (
  And.intro (sd_iconst (n := 1) (by decide) (by decide +kernel) (by decide +kernel)) (
  And.intro (sd_iadd (by decide +kernel) (by decide +kernel)) (
  And.intro (sd_putI cf2 (by decide) (by decide) rfl rfl wf_2_30 (by decide +kernel) (by decide +kernel)) (
  And.intro (sd_aload_n (k := 0) rfl (by decide +kernel) (by decide +kernel)) (
  And.intro (sd_aload_n (k := 1) rfl (by decide +kernel) (by decide +kernel)) (
  And.intro (sd_VI mg_56 (by decide +kernel) wm_2_106 wn_56 wv_56 rfl rfl (by decide +kernel)) (
  And.intro (sd_zeq (off := 11) (by decide +kernel) (by decide +kernel) (by decide +kernel)) (
  And.intro (sd_sipush (n := 1000) (by decide) (by decide +kernel) (by decide +kernel)) (
  And.intro (sd_iload_n (k := 3) rfl (by decide +kernel) (by decide +kernel)) (
  And.intro (sd_iadd (by decide +kernel) (by decide +kernel)) (
  And.intro (sd_go (off := 4) (by decide +kernel) (by decide +kernel)) (
  And.intro (sd_iload_n (k := 2) rfl (by decide +kernel) (by decide +kernel)) (
  And.intro (sd_VV mg_38 (by decide +kernel) wm_2_78 wn_38 wv_38 rfl rfl (by decide +kernel)) (
  And.intro (sd_aload_n (k := 1) rfl (by decide +kernel) (by decide +kernel)) (
  And.intro (sd_VV mg_62 (by decide +kernel) wm_2_65 wn_62 wv_62 rfl rfl (by decide +kernel)) (
  And.intro (sd_vret (by decide +kernel) rfl) (
  trivial))))))))))))))))))))))))))))))))))))))))))))))))))))))))
set_option maxRecDepth 100000 in
set_option maxHeartbeats 8000000 in
theorem sn_38 : Sns 38 0 tRu_put := And.intro (sd_aload_n (k := 0) rfl (by decide +kernel) (by decide +kernel)) (
  And.intro (sd_getI cf2 (by decide) (by decide) wf_2_17 (by decide +kernel) (by decide +kernel)) (
  And.intro (sd_sipush (n := 400) (by decide) (by decide +kernel) (by decide +kernel)) (
  And.intro (sd_ige (off := 23) (by decide +kernel) (by decide +kernel) (by decide +kernel)) (
  And.intro (sd_aload_n (k := 0) rfl (by decide +kernel) (by decide +kernel)) (
  And.intro (sd_getR cf2 (by decide) (by decide) wf_2_11 (by decide +kernel) (by decide +kernel)) (
  And.intro (sd_aload_n (k := 0) rfl (by decide +kernel) (by decide +kernel)) (
  And.intro (sd_getI cf2 (by decide) (by decide) wf_2_17 (by decide +kernel) (by decide +kernel)) (
  And.intro (sd_iload_n (k := 1) rfl (by decide +kernel) (by decide +kernel)) (
  And.intro (sd_iast (by decide +kernel) (by decide +kernel)) (
  And.intro (sd_aload_n (k := 0) rfl (by decide +kernel) (by decide +kernel)) (
  And.intro (sd_dup (by decide +kernel) (by decide +kernel)) (
  And.intro (sd_getI cf2 (by decide) (by decide) wf_2_17 (by decide +kernel) (by decide +kernel)) (
  And.intro (sd_iconst (n := 1) (by decide) (by decide +kernel) (by decide +kernel)) (
  And.intro (sd_iadd (by decide +kernel) (by decide +kernel)) (
  And.intro (sd_putI cf2 (by decide) (by decide) rfl rfl wf_2_17 (by decide +kernel) (by decide +kernel)) (
  And.intro (sd_vret (by decide +kernel) rfl) (
  trivial)))))))))))))))))
set_option maxRecDepth 100000 in
set_option maxHeartbeats 8000000 in
theorem sn_39 : Sns 39 0 tRu_worth := And.intro (sd_aload_n (k := 0) rfl (by decide +kernel) (by decide +kernel)) (
  And.intro (sd_aload_n (k := 1) rfl (by decide +kernel) (by decide +kernel)) (
  And.intro (sd_aload_n (k := 2) rfl (by decide +kernel) (by decide +kernel)) (
  And.intro (sd_iload_n (k := 3) rfl (by decide +kernel) (by decide +kernel)) (
  And.intro (sd_iload (by decide +kernel) (by decide +kernel)) (
  And.intro (sd_VV mg_40 (by decide +kernel) wm_2_109 wn_40 wv_40 rfl rfl (by decide +kernel)) (
  And.intro (sd_iconst (n := 0) (by decide) (by decide +kernel) (by decide +kernel)) (
  And.intro (sd_istore (by decide) (by decide +kernel) (by decide +kernel)) (
  And.intro (sd_ms _ (sd_iload (by decide +kernel) (by decide +kernel))) (
  And.intro (sd_aload_n (k := 0) rfl (by decide +kernel) (by decide +kernel)) (
  And.intro (sd_getI cf2 (by decide) (by decide) wf_2_27 (by decide +kernel) (by decide +kernel)) (
  And.intro (sd_ige (off := 84) (by decide +kernel) (by decide +kernel) (by decide +kernel)) (
  And.intro (sd_aload_n (k := 0) rfl (by decide +kernel) (by decide +kernel)) (
  And.intro (sd_getR cf2 (by decide) (by decide) wf_2_24 (by decide +kernel) (by decide +kernel)) (
  And.intro (sd_iload (by decide +kernel) (by decide +kernel)) (
  And.intro (sd_iald (by decide +kernel) (by decide +kernel)) (
  And.intro (sd_aload_n (k := 0) rfl (by decide +kernel) (by decide +kernel)) (
  And.intro (sd_getR cf2 (by decide) (by decide) wf_2_21 (by decide +kernel) (by decide +kernel)) (
  And.intro (sd_iload (by decide +kernel) (by decide +kernel)) (
  And.intro (sd_iconst (n := 1) (by decide) (by decide +kernel) (by decide +kernel)) (
  And.intro (sd_iadd (by decide +kernel) (by decide +kernel)) (
  And.intro (sd_iald (by decide +kernel) (by decide +kernel)) (
  And.intro (sd_ine (off := 7) (by decide +kernel) (by decide +kernel) (by decide +kernel)) (
  And.intro (sd_iconst (n := 1) (by decide) (by decide +kernel) (by decide +kernel)) (
  And.intro (sd_go (off := 4) (by decide +kernel) (by decide +kernel)) (
  And.intro (sd_iconst (n := 0) (by decide) (by decide +kernel) (by decide +kernel)) (
  And.intro (sd_istore (by decide) (by decide +kernel) (by decide +kernel)) (
  And.intro (sd_iload (by decide +kernel) (by decide +kernel)) (
  And.intro (sd_zne (off := 28) (by decide +kernel) (by decide +kernel) (by decide +kernel)) (
  And.intro (sd_aload_n (k := 0) rfl (by decide +kernel) (by decide +kernel)) (
  And.intro (sd_aload_n (k := 0) rfl (by decide +kernel) (by decide +kernel)) (
  And.intro (sd_getR cf2 (by decide) (by decide) wf_2_24 (by decide +kernel) (by decide +kernel)) (
  And.intro (sd_iload (by decide +kernel) (by decide +kernel)) (
  And.intro (sd_iald (by decide +kernel) (by decide +kernel)) (
  And.intro (sd_aload_n (k := 0) rfl (by decide +kernel) (by decide +kernel)) (
  And.intro (sd_getR cf2 (by decide) (by decide) wf_2_21 (by decide +kernel) (by decide +kernel)) (
  And.intro (sd_iload (by decide +kernel) (by decide +kernel)) (
  And.intro (sd_iconst (n := 1) (by decide) (by decide +kernel) (by decide +kernel)) (
  And.intro (sd_iadd (by decide +kernel) (by decide +kernel)) (
  And.intro (sd_iald (by decide +kernel) (by decide +kernel)) (
  And.intro (sd_VL mg_41 (by decide +kernel) wm_2_113 wn_41 wv_41 rfl rfl (by decide +kernel)) (
  And.intro (sd_lconst (n := 0) (by decide) (by decide +kernel) (by decide +kernel)) (
  And.intro (sd_lcmp (by decide +kernel) (by decide +kernel)) (
  And.intro (sd_zeq (off := 22) (by decide +kernel) (by decide +kernel) (by decide +kernel)) (
  And.intro (sd_aload_n (k := 0) rfl (by decide +kernel) (by decide +kernel)) (
  And.intro (sd_aload_n (k := 0) rfl (by decide +kernel) (by decide +kernel)) (
  And.intro (sd_getR cf2 (by decide) (by decide) wf_2_21 (by decide +kernel) (by decide +kernel)) (
  And.intro (sd_iload (by decide +kernel) (by decide +kernel)) (
  And.intro (sd_iald (by decide +kernel) (by decide +kernel)) (
  And.intro (sd_aload_n (k := 0) rfl (by decide +kernel) (by decide +kernel)) (
  And.intro (sd_getR cf2 (by decide) (by decide) wf_2_24 (by decide +kernel) (by decide +kernel)) (
  And.intro (sd_iload (by decide +kernel) (by decide +kernel)) (
  And.intro (sd_iald (by decide +kernel) (by decide +kernel)) (
  And.intro (sd_VL mg_41 (by decide +kernel) wm_2_113 wn_41 wv_41 rfl rfl (by decide +kernel)) (
  And.intro (sd_lret (by decide +kernel) rfl) (
  And.intro (sd_iinc (n := 1) (by decide) (by decide) (by decide +kernel) (by decide +kernel)) (
  And.intro (sd_go (off := (-87)) (by decide +kernel) (by decide +kernel)) (
  And.intro (sd_lconst (n := 0) (by decide) (by decide +kernel) (by decide +kernel)) (
  And.intro (sd_lret (by decide +kernel) rfl) (
  trivial)))))))))))))))))))))))))))))))))))))))))))))))))))))))))))
set_option maxRecDepth 100000 in
set_option maxHeartbeats 8000000 in
theorem sn_40 : Sns 40 0 tRu_see := And.intro (sd_iconst (n := 0) (by decide) (by decide +kernel) (by decide +kernel)) (
  And.intro (sd_istore (by decide) (by decide +kernel) (by decide +kernel)) (
  And.intro (sd_ldc wk_2_117 (by decide +kernel) (by decide +kernel)) (
  And.intro (sd_istore (by decide) (by decide +kernel) (by decide +kernel)) (
  And.intro (sd_iconst (n := 0) (by decide) (by decide +kernel) (by decide +kernel)) (
  And.intro (sd_istore (by decide) (by decide +kernel) (by decide +kernel)) (
  And.intro (sd_iconst (n := 0) (by decide) (by decide +kernel) (by decide +kernel)) (
  And.intro (sd_istore (by decide) (by decide +kernel) (by decide +kernel)) (
  And.intro (sd_iconst (n := 0) (by decide) (by decide +kernel) (by decide +kernel)) (
  And.intro (sd_istore (by decide) (by decide +kernel) (by decide +kernel)) (
  And.intro (sd_ms _ (sd_iload (by decide +kernel) (by decide +kernel))) (
  And.intro (sd_aload_n (k := 1) rfl (by decide +kernel) (by decide +kernel)) (
  And.intro (sd_getI cf0 (by decide) (by decide) wf_2_118 (by decide +kernel) (by decide +kernel)) (
  And.intro (sd_ige (off := 73) (by decide +kernel) (by decide +kernel) (by decide +kernel)) (
  And.intro (sd_aload_n (k := 2) rfl (by decide +kernel) (by decide +kernel)) (
  And.intro (sd_getR cf5 (by decide) (by decide) wf_2_123 (by decide +kernel) (by decide +kernel)) (
  And.intro (sd_iload (by decide +kernel) (by decide +kernel)) (
  And.intro (sd_iald (by decide +kernel) (by decide +kernel)) (
  And.intro (sd_iload_n (k := 3) rfl (by decide +kernel) (by decide +kernel)) (
  And.intro (sd_ieq (off := 6) (by decide +kernel) (by decide +kernel) (by decide +kernel)) (
  And.intro (sd_go (off := 53) (by decide +kernel) (by decide +kernel)) (
  And.intro (sd_iinc (n := 1) (by decide) (by decide) (by decide +kernel) (by decide +kernel)) (
  And.intro (sd_aload_n (k := 2) rfl (by decide +kernel) (by decide +kernel)) (
  And.intro (sd_getI cf5 (by decide) (by decide) wf_2_128 (by decide +kernel) (by decide +kernel)) (
  And.intro (sd_iload (by decide +kernel) (by decide +kernel)) (
  And.intro (sd_ishr (by decide +kernel) (by decide +kernel)) (
  And.intro (sd_iconst (n := 1) (by decide) (by decide +kernel) (by decide +kernel)) (
  And.intro (sd_iand (by decide +kernel) (by decide +kernel)) (
  And.intro (sd_zeq (off := 9) (by decide +kernel) (by decide +kernel) (by decide +kernel)) (
  And.intro (sd_iinc (n := 1) (by decide) (by decide) (by decide +kernel) (by decide +kernel)) (
  And.intro (sd_go (off := 32) (by decide +kernel) (by decide +kernel)) (
  And.intro (sd_aload_n (k := 1) rfl (by decide +kernel) (by decide +kernel)) (
  And.intro (sd_getR cf0 (by decide) (by decide) wf_2_131 (by decide +kernel) (by decide +kernel)) (
  And.intro (sd_iload (by decide +kernel) (by decide +kernel)) (
  And.intro (sd_iald (by decide +kernel) (by decide +kernel)) (
  And.intro (sd_iload (by decide +kernel) (by decide +kernel)) (
  And.intro (sd_ine (off := 20) (by decide +kernel) (by decide +kernel) (by decide +kernel)) (
  And.intro (sd_iinc (n := 1) (by decide) (by decide) (by decide +kernel) (by decide +kernel)) (
  And.intro (sd_iload (by decide +kernel) (by decide +kernel)) (
  And.intro (sd_aload_n (k := 1) rfl (by decide +kernel) (by decide +kernel)) (
  And.intro (sd_getR cf0 (by decide) (by decide) wf_2_134 (by decide +kernel) (by decide +kernel)) (
  And.intro (sd_iload (by decide +kernel) (by decide +kernel)) (
  And.intro (sd_iald (by decide +kernel) (by decide +kernel)) (
  And.intro (sd_mmin wm_2_137 wo_6min wo_7 wo_8min (by decide +kernel) (by decide +kernel)) (
  And.intro (sd_istore (by decide) (by decide +kernel) (by decide +kernel)) (
  And.intro (sd_iinc (n := 1) (by decide) (by decide) (by decide +kernel) (by decide +kernel)) (
  And.intro (sd_go (off := (-76)) (by decide +kernel) (by decide +kernel)) (
  And.intro (sd_aload_n (k := 1) rfl (by decide +kernel) (by decide +kernel)) (
  And.intro (sd_iload (by decide +kernel) (by decide +kernel)) (
  And.intro (sd_iconst (n := 0) (by decide) (by decide +kernel) (by decide +kernel)) (
  And.intro (sd_VI mg_13 (by decide +kernel) wm_2_143 wn_13 wv_13 rfl rfl (by decide +kernel)) (
  And.intro (sd_istore (by decide) (by decide +kernel) (by decide +kernel)) (
  And.intro (sd_aload_n (k := 0) rfl (by decide +kernel) (by decide +kernel)) (
  And.intro (sd_getR cf2 (by decide) (by decide) wf_2_33 (by decide +kernel) (by decide +kernel)) (
  And.intro (sd_iconst (n := 0) (by decide) (by decide +kernel) (by decide +kernel)) (
  And.intro (sd_iload_n (k := 3) rfl (by decide +kernel) (by decide +kernel)) (
  And.intro (sd_i2l (by decide +kernel) (by decide +kernel)) (
  And.intro (sd_last (by decide +kernel) (by decide +kernel)) (
  And.intro (sd_aload_n (k := 0) rfl (by decide +kernel) (by decide +kernel)) (
  And.intro (sd_getR cf2 (by decide) (by decide) wf_2_33 (by decide +kernel) (by decide +kernel)) (
  And.intro (sd_iconst (n := 1) (by decide) (by decide +kernel) (by decide +kernel)) (
  And.intro (sd_iload (by decide +kernel) (by decide +kernel)) (
  And.intro (sd_i2l (by decide +kernel) (by decide +kernel)) (
  And.intro (sd_last (by decide +kernel) (by decide +kernel)) (
  And.intro (sd_aload_n (k := 0) rfl (by decide +kernel) (by decide +kernel)) (
  And.intro (sd_getR cf2 (by decide) (by decide) wf_2_33 (by decide +kernel) (by decide +kernel)) (
  And.intro (sd_iconst (n := 2) (by decide) (by decide +kernel) (by decide +kernel)) (
  And.intro (sd_aload_n (k := 1) rfl (by decide +kernel) (by decide +kernel)) (
  And.intro (sd_aload_n (k := 2) rfl (by decide +kernel) (by decide +kernel)) (
  And.intro (sd_getR cf5 (by decide) (by decide) wf_2_146 (by decide +kernel) (by decide +kernel)) (
  And.intro (sd_iload_n (k := 3) rfl (by decide +kernel) (by decide +kernel)) (
  And.intro (sd_iald (by decide +kernel) (by decide +kernel)) (
  And.intro (sd_iload (by decide +kernel) (by decide +kernel)) (
  And.intro (sd_VI mg_14 (by decide +kernel) wm_2_149 wn_14 wv_14 rfl rfl (by decide +kernel)) (
  And.intro (sd_i2l (by decide +kernel) (by decide +kernel)) (
  And.intro (sd_last (by decide +kernel) (by decide +kernel)) (
  And.intro (sd_aload_n (k := 0) rfl (by decide +kernel) (by decide +kernel)) (
  And.intro (sd_getR cf2 (by decide) (by decide) wf_2_33 (by decide +kernel) (by decide +kernel)) (
  And.intro (sd_iconst (n := 3) (by decide) (by decide +kernel) (by decide +kernel)) (
  And.intro (sd_iload (by decide +kernel) (by decide +kernel)) (
  And.intro (sd_i2l (by decide +kernel) (by decide +kernel)) (
  And.intro (sd_last (by decide +kernel) (by decide +kernel)) (
  And.intro (sd_aload_n (k := 0) rfl (by decide +kernel) (by decide +kernel)) (
  And.intro (sd_getR cf2 (by decide) (by decide) wf_2_33 (by decide +kernel) (by decide +kernel)) (
  And.intro (sd_iconst (n := 4) (by decide) (by decide +kernel) (by decide +kernel)) (
  And.intro (sd_iload (by decide +kernel) (by decide +kernel)) (
  And.intro (sd_zne (off := 9) (by decide +kernel) (by decide +kernel) (by decide +kernel)) (
  And.intro (sd_ldc2 wl_2_152 (by decide +kernel) (by decide +kernel)) (
  And.intro (sd_go (off := 11) (by decide +kernel) (by decide +kernel)) (
  And.intro (sd_iload (by decide +kernel) (by decide +kernel)) (
  And.intro (sd_aload_n (k := 2) rfl (by decide +kernel) (by decide +kernel)) (
  And.intro (sd_getI cf5 (by decide) (by decide) wf_2_154 (by decide +kernel) (by decide +kernel)) (
  And.intro (sd_isub (by decide +kernel) (by decide +kernel)) (
  And.intro (sd_i2l (by decide +kernel) (by decide +kernel)) (
  And.intro (sd_last (by decide +kernel) (by decide +kernel)) (
  And.intro (sd_aload_n (k := 0) rfl (by decide +kernel) (by decide +kernel)) (
  And.intro (sd_getR cf2 (by decide) (by decide) wf_2_33 (by decide +kernel) (by decide +kernel)) (
  And.intro (sd_iconst (n := 5) (by decide) (by decide +kernel) (by decide +kernel)) (
  And.intro (sd_iload (by decide +kernel) (by decide +kernel)) (
  And.intro (sd_ldc wk_2_117 (by decide +kernel) (by decide +kernel)) (
  And.intro (sd_ilt (off := 9) (by decide +kernel) (by decide +kernel) (by decide +kernel)) (
  And.intro (sd_ldc2 wl_2_152 (by decide +kernel) (by decide +kernel)) (
  And.intro (sd_go (off := 6) (by decide +kernel) (by decide +kernel)) (
  And.intro (sd_iload (by decide +kernel) (by decide +kernel)) (
  And.intro (sd_i2l (by decide +kernel) (by decide +kernel)) (
  And.intro (sd_last (by decide +kernel) (by decide +kernel)) (
  And.intro (sd_aload_n (k := 0) rfl (by decide +kernel) (by decide +kernel)) (
  And.intro (sd_getR cf2 (by decide) (by decide) wf_2_33 (by decide +kernel) (by decide +kernel)) (
  And.intro (sd_bipush (n := 6) (by decide) (by decide +kernel) (by decide +kernel)) (
  And.intro (sd_aload_n (k := 2) rfl (by decide +kernel) (by decide +kernel)) (
  And.intro (sd_getR cf5 (by decide) (by decide) wf_2_157 (by decide +kernel) (by decide +kernel)) (
  And.intro (sd_iload_n (k := 3) rfl (by decide +kernel) (by decide +kernel)) (
  And.intro (sd_iald (by decide +kernel) (by decide +kernel)) (
  And.intro (sd_i2l (by decide +kernel) (by decide +kernel)) (
  And.intro (sd_last (by decide +kernel) (by decide +kernel)) (
  And.intro (sd_aload_n (k := 0) rfl (by decide +kernel) (by decide +kernel)) (
  And.intro (sd_getR cf2 (by decide) (by decide) wf_2_33 (by decide +kernel) (by decide +kernel)) (
  And.intro (sd_bipush (n := 7) (by decide) (by decide +kernel) (by decide +kernel)) (
  And.intro (sd_iload (by decide +kernel) (by decide +kernel)) (
  And.intro (sd_i2l (by decide +kernel) (by decide +kernel)) (
  And.intro (sd_last (by decide +kernel) (by decide +kernel)) (
  And.intro (sd_aload_n (k := 0) rfl (by decide +kernel) (by decide +kernel)) (
  And.intro (sd_getR cf2 (by decide) (by decide) wf_2_33 (by decide +kernel) (by decide +kernel)) (
  And.intro (sd_bipush (n := 8) (by decide) (by decide +kernel) (by decide +kernel)) (
  And.intro (sd_iload (by decide +kernel) (by decide +kernel)) (
  And.intro (sd_i2l (by decide +kernel) (by decide +kernel)) (
  And.intro (sd_last (by decide +kernel) (by decide +kernel)) (
  And.intro (sd_aload_n (k := 0) rfl (by decide +kernel) (by decide +kernel)) (
  And.intro (sd_getR cf2 (by decide) (by decide) wf_2_33 (by decide +kernel) (by decide +kernel)) (
  And.intro (sd_bipush (n := 9) (by decide) (by decide +kernel) (by decide +kernel)) (
  And.intro (sd_aload_n (k := 2) rfl (by decide +kernel) (by decide +kernel)) (
  And.intro (sd_getI cf5 (by decide) (by decide) wf_2_154 (by decide +kernel) (by decide +kernel)) (
  And.intro (sd_i2l (by decide +kernel) (by decide +kernel)) (
  And.intro (sd_last (by decide +kernel) (by decide +kernel)) (
  And.intro (sd_aload_n (k := 0) rfl (by decide +kernel) (by decide +kernel)) (
  And.intro (sd_getR cf2 (by decide) (by decide) wf_2_33 (by decide +kernel) (by decide +kernel)) (
  And.intro (sd_bipush (n := 10) (by decide) (by decide +kernel) (by decide +kernel)) (
  And.intro (sd_aload_n (k := 1) rfl (by decide +kernel) (by decide +kernel)) (
  And.intro (sd_getR cf0 (by decide) (by decide) wf_2_160 (by decide +kernel) (by decide +kernel)) (
  And.intro (sd_iload (by decide +kernel) (by decide +kernel)) (
  And.intro (sd_iald (by decide +kernel) (by decide +kernel)) (
  And.intro (sd_i2l (by decide +kernel) (by decide +kernel)) (
  And.intro (sd_last (by decide +kernel) (by decide +kernel)) (
  And.intro (sd_vret (by decide +kernel) rfl) (
  trivial))))))))))))))))))))))))))))))))))))))))))))))))))))))))))))))))))))))))))))))))))))))))))))))))))))))))))))))))))))))))))))))))))))))))))))))))
set_option maxRecDepth 100000 in
set_option maxHeartbeats 8000000 in
theorem sn_41 : Sns 41 0 tRu_run := And.intro (sd_iconst (n := 0) (by decide) (by decide +kernel) (by decide +kernel)) (
  And.intro (sd_istore_n (k := 3) rfl (by decide) (by decide +kernel) (by decide +kernel)) (
  And.intro (sd_iload_n (k := 1) rfl (by decide +kernel) (by decide +kernel)) (
  And.intro (sd_istore (by decide) (by decide +kernel) (by decide +kernel)) (
  And.intro (sd_ms _ (sd_iload (by decide +kernel) (by decide +kernel))) (
  And.intro (sd_iload_n (k := 2) rfl (by decide +kernel) (by decide +kernel)) (
  And.intro (sd_ige (off := 149) (by decide +kernel) (by decide +kernel) (by decide +kernel)) (
  And.intro (sd_aload_n (k := 0) rfl (by decide +kernel) (by decide +kernel)) (
  And.intro (sd_getR cf2 (by decide) (by decide) wf_2_11 (by decide +kernel) (by decide +kernel)) (
  And.intro (sd_iload (by decide +kernel) (by decide +kernel)) (
  And.intro (sd_iald (by decide +kernel) (by decide +kernel)) (
  And.intro (sd_istore (by decide) (by decide +kernel) (by decide +kernel)) (
  And.intro (sd_iload (by decide +kernel) (by decide +kernel)) (
  And.intro (sd_bipush (n := 11) (by decide) (by decide +kernel) (by decide +kernel)) (
  And.intro (sd_ilt (off := 11) (by decide +kernel) (by decide +kernel) (by decide +kernel)) (
  And.intro (sd_iload (by decide +kernel) (by decide +kernel)) (
  And.intro (sd_sipush (n := 1000) (by decide) (by decide +kernel) (by decide +kernel)) (
  And.intro (sd_ilt (off := 47) (by decide +kernel) (by decide +kernel) (by decide +kernel)) (
  And.intro (sd_iload_n (k := 3) rfl (by decide +kernel) (by decide +kernel)) (
  And.intro (sd_bipush (n := 40) (by decide) (by decide +kernel) (by decide +kernel)) (
  And.intro (sd_ilt (off := 5) (by decide +kernel) (by decide +kernel) (by decide +kernel)) (
  And.intro (sd_lconst (n := 0) (by decide) (by decide +kernel) (by decide +kernel)) (
  And.intro (sd_lret (by decide +kernel) rfl) (
  And.intro (sd_aload_n (k := 0) rfl (by decide +kernel) (by decide +kernel)) (
  And.intro (sd_getR cf2 (by decide) (by decide) wf_2_37 (by decide +kernel) (by decide +kernel)) (
  And.intro (sd_iload_n (k := 3) rfl (by decide +kernel) (by decide +kernel)) (
  And.intro (sd_iload (by decide +kernel) (by decide +kernel)) (
  And.intro (sd_bipush (n := 11) (by decide) (by decide +kernel) (by decide +kernel)) (
  And.intro (sd_ige (off := 13) (by decide +kernel) (by decide +kernel) (by decide +kernel)) (
  And.intro (sd_aload_n (k := 0) rfl (by decide +kernel) (by decide +kernel)) (
  And.intro (sd_getR cf2 (by decide) (by decide) wf_2_33 (by decide +kernel) (by decide +kernel)) (
  And.intro (sd_iload (by decide +kernel) (by decide +kernel)) (
  And.intro (sd_lald (by decide +kernel) (by decide +kernel)) (
  And.intro (sd_go (off := 10) (by decide +kernel) (by decide +kernel)) (
  And.intro (sd_iload (by decide +kernel) (by decide +kernel)) (
  And.intro (sd_sipush (n := 1000) (by decide) (by decide +kernel) (by decide +kernel)) (
  And.intro (sd_isub (by decide +kernel) (by decide +kernel)) (
  And.intro (sd_i2l (by decide +kernel) (by decide +kernel)) (
  And.intro (sd_last (by decide +kernel) (by decide +kernel)) (
  And.intro (sd_iinc (n := 1) (by decide) (by decide) (by decide +kernel) (by decide +kernel)) (
  And.intro (sd_go (off := 75) (by decide +kernel) (by decide +kernel)) (
  And.intro (sd_iload (by decide +kernel) (by decide +kernel)) (
  And.intro (sd_bipush (n := 13) (by decide) (by decide +kernel) (by decide +kernel)) (
  And.intro (sd_ine (off := 31) (by decide +kernel) (by decide +kernel) (by decide +kernel)) (
  And.intro (sd_iload_n (k := 3) rfl (by decide +kernel) (by decide +kernel)) (
  And.intro (sd_iconst (n := 1) (by decide) (by decide +kernel) (by decide +kernel)) (
  And.intro (sd_ige (off := 5) (by decide +kernel) (by decide +kernel) (by decide +kernel)) (
  And.intro (sd_lconst (n := 0) (by decide) (by decide +kernel) (by decide +kernel)) (
  And.intro (sd_lret (by decide +kernel) rfl) (
  And.intro (sd_aload_n (k := 0) rfl (by decide +kernel) (by decide +kernel)) (
  And.intro (sd_getR cf2 (by decide) (by decide) wf_2_37 (by decide +kernel) (by decide +kernel)) (
  And.intro (sd_iload_n (k := 3) rfl (by decide +kernel) (by decide +kernel)) (
  And.intro (sd_iconst (n := 1) (by decide) (by decide +kernel) (by decide +kernel)) (
  And.intro (sd_isub (by decide +kernel) (by decide +kernel)) (
  And.intro (sd_lconst (n := 1) (by decide) (by decide +kernel) (by decide +kernel)) (
  And.intro (sd_aload_n (k := 0) rfl (by decide +kernel) (by decide +kernel)) (
  And.intro (sd_getR cf2 (by decide) (by decide) wf_2_37 (by decide +kernel) (by decide +kernel)) (
  And.intro (sd_iload_n (k := 3) rfl (by decide +kernel) (by decide +kernel)) (
  And.intro (sd_iconst (n := 1) (by decide) (by decide +kernel) (by decide +kernel)) (
  And.intro (sd_isub (by decide +kernel) (by decide +kernel)) (
  And.intro (sd_lald (by decide +kernel) (by decide +kernel)) (
  And.intro (sd_lsub (by decide +kernel) (by decide +kernel)) (
  And.intro (sd_last (by decide +kernel) (by decide +kernel)) (
  And.intro (sd_go (off := 40) (by decide +kernel) (by decide +kernel)) (
  And.intro (sd_iload_n (k := 3) rfl (by decide +kernel) (by decide +kernel)) (
  And.intro (sd_iconst (n := 2) (by decide) (by decide +kernel) (by decide +kernel)) (
  And.intro (sd_ige (off := 5) (by decide +kernel) (by decide +kernel) (by decide +kernel)) (
  And.intro (sd_lconst (n := 0) (by decide) (by decide +kernel) (by decide +kernel)) (
  And.intro (sd_lret (by decide +kernel) rfl) (
  And.intro (sd_iinc (n := (-1)) (by decide) (by decide) (by decide +kernel) (by decide +kernel)) (
  And.intro (sd_aload_n (k := 0) rfl (by decide +kernel) (by decide +kernel)) (
  And.intro (sd_getR cf2 (by decide) (by decide) wf_2_37 (by decide +kernel) (by decide +kernel)) (
  And.intro (sd_iload_n (k := 3) rfl (by decide +kernel) (by decide +kernel)) (
  And.intro (sd_iconst (n := 1) (by decide) (by decide +kernel) (by decide +kernel)) (
  And.intro (sd_isub (by decide +kernel) (by decide +kernel)) (
  And.intro (sd_iload (by decide +kernel) (by decide +kernel)) (
  And.intro (sd_aload_n (k := 0) rfl (by decide +kernel) (by decide +kernel)) (
  And.intro (sd_getR cf2 (by decide) (by decide) wf_2_37 (by decide +kernel) (by decide +kernel)) (
  And.intro (sd_iload_n (k := 3) rfl (by decide +kernel) (by decide +kernel)) (
  And.intro (sd_iconst (n := 1) (by decide) (by decide +kernel) (by decide +kernel)) (
  And.intro (sd_isub (by decide +kernel) (by decide +kernel)) (
  And.intro (sd_lald (by decide +kernel) (by decide +kernel)) (
  And.intro (sd_aload_n (k := 0) rfl (by decide +kernel) (by decide +kernel)) (
  And.intro (sd_getR cf2 (by decide) (by decide) wf_2_37 (by decide +kernel) (by decide +kernel)) (
  And.intro (sd_iload_n (k := 3) rfl (by decide +kernel) (by decide +kernel)) (
  And.intro (sd_lald (by decide +kernel) (by decide +kernel)) (
  And.intro (sd_SL mg_42 (by decide +kernel) wm_2_163 wt_42 (by decide +kernel)) (
  And.intro (sd_last (by decide +kernel) (by decide +kernel)) (
  And.intro (sd_iinc (n := 1) (by decide) (by decide) (by decide +kernel) (by decide +kernel)) (
  And.intro (sd_go (off := (-149)) (by decide +kernel) (by decide +kernel)) (
  And.intro (sd_iload_n (k := 3) rfl (by decide +kernel) (by decide +kernel)) (
  And.intro (sd_iconst (n := 1) (by decide) (by decide +kernel) (by decide +kernel)) (
  And.intro (sd_ige (off := 7) (by decide +kernel) (by decide +kernel) (by decide +kernel)) (
  And.intro (sd_lconst (n := 0) (by decide) (by decide +kernel) (by decide +kernel)) (
  And.intro (sd_go (off := 9) (by decide +kernel) (by decide +kernel)) (
  And.intro (sd_aload_n (k := 0) rfl (by decide +kernel) (by decide +kernel)) (
  And.intro (sd_getR cf2 (by decide) (by decide) wf_2_37 (by decide +kernel) (by decide +kernel)) (
  And.intro (sd_iconst (n := 0) (by decide) (by decide +kernel) (by decide +kernel)) (
  And.intro (sd_lald (by decide +kernel) (by decide +kernel)) (
  And.intro (sd_lret (by decide +kernel) rfl) (
  trivial))))))))))))))))))))))))))))))))))))))))))))))))))))))))))))))))))))))))))))))))))))))))))))))))))))
set_option maxRecDepth 100000 in
set_option maxHeartbeats 8000000 in
theorem sn_42 : Sns 42 0 tRu_join := And.intro (sd_iload_n (k := 0) rfl (by decide +kernel) (by decide +kernel)) (
  And.intro (sd_lok (len := 107) (dflt := 215) (ps := #[(14, 207), (15, 211), (37, 133), (42, 115), (43, 107), (45, 111), (47, 119), (60, 147), (61, 171), (62, 195), (316, 159), (318, 183)]) (by decide +kernel) (by decide +kernel) (by decide +kernel) (by decide +kernel)) (
  And.intro (sd_lload_n (k := 1) rfl (by decide +kernel) (by decide +kernel)) (
  And.intro (sd_lload_n (k := 3) rfl (by decide +kernel) (by decide +kernel)) (
  And.intro (sd_ladd (by decide +kernel) (by decide +kernel)) (
  And.intro (sd_lret (by decide +kernel) rfl) (
  And.intro (sd_lload_n (k := 1) rfl (by decide +kernel) (by decide +kernel)) (
  And.intro (sd_lload_n (k := 3) rfl (by decide +kernel) (by decide +kernel)) (
  And.intro (sd_lsub (by decide +kernel) (by decide +kernel)) (
  And.intro (sd_lret (by decide +kernel) rfl) (
  And.intro (sd_lload_n (k := 1) rfl (by decide +kernel) (by decide +kernel)) (
  And.intro (sd_lload_n (k := 3) rfl (by decide +kernel) (by decide +kernel)) (
  And.intro (sd_lmul (by decide +kernel) (by decide +kernel)) (
  And.intro (sd_lret (by decide +kernel) rfl) (
  And.intro (sd_lload_n (k := 3) rfl (by decide +kernel) (by decide +kernel)) (
  And.intro (sd_lconst (n := 0) (by decide) (by decide +kernel) (by decide +kernel)) (
  And.intro (sd_lcmp (by decide +kernel) (by decide +kernel)) (
  And.intro (sd_zne (off := 7) (by decide +kernel) (by decide +kernel) (by decide +kernel)) (
  And.intro (sd_lconst (n := 0) (by decide) (by decide +kernel) (by decide +kernel)) (
  And.intro (sd_go (off := 6) (by decide +kernel) (by decide +kernel)) (
  And.intro (sd_lload_n (k := 1) rfl (by decide +kernel) (by decide +kernel)) (
  And.intro (sd_lload_n (k := 3) rfl (by decide +kernel) (by decide +kernel)) (
  And.intro (sd_ldiv (by decide +kernel) (by decide +kernel)) (
  And.intro (sd_ms _ (sd_lret (by decide +kernel) rfl)) (
  And.intro (sd_lload_n (k := 3) rfl (by decide +kernel) (by decide +kernel)) (
  And.intro (sd_lconst (n := 0) (by decide) (by decide +kernel) (by decide +kernel)) (
  And.intro (sd_lcmp (by decide +kernel) (by decide +kernel)) (
  And.intro (sd_zne (off := 7) (by decide +kernel) (by decide +kernel) (by decide +kernel)) (
  And.intro (sd_lconst (n := 0) (by decide) (by decide +kernel) (by decide +kernel)) (
  And.intro (sd_go (off := 6) (by decide +kernel) (by decide +kernel)) (
  And.intro (sd_lload_n (k := 1) rfl (by decide +kernel) (by decide +kernel)) (
  And.intro (sd_lload_n (k := 3) rfl (by decide +kernel) (by decide +kernel)) (
  And.intro (sd_lrem (by decide +kernel) (by decide +kernel)) (
  And.intro (sd_ms _ (sd_lret (by decide +kernel) rfl)) (
  And.intro (sd_lload_n (k := 1) rfl (by decide +kernel) (by decide +kernel)) (
  And.intro (sd_lload_n (k := 3) rfl (by decide +kernel) (by decide +kernel)) (
  And.intro (sd_lcmp (by decide +kernel) (by decide +kernel)) (
  And.intro (sd_zge (off := 7) (by decide +kernel) (by decide +kernel) (by decide +kernel)) (
  And.intro (sd_lconst (n := 1) (by decide) (by decide +kernel) (by decide +kernel)) (
  And.intro (sd_go (off := 4) (by decide +kernel) (by decide +kernel)) (
  And.intro (sd_lconst (n := 0) (by decide) (by decide +kernel) (by decide +kernel)) (
  And.intro (sd_ms _ (sd_lret (by decide +kernel) rfl)) (
  And.intro (sd_lload_n (k := 1) rfl (by decide +kernel) (by decide +kernel)) (
  And.intro (sd_lload_n (k := 3) rfl (by decide +kernel) (by decide +kernel)) (
  And.intro (sd_lcmp (by decide +kernel) (by decide +kernel)) (
  And.intro (sd_zgt (off := 7) (by decide +kernel) (by decide +kernel) (by decide +kernel)) (
  And.intro (sd_lconst (n := 1) (by decide) (by decide +kernel) (by decide +kernel)) (
  And.intro (sd_go (off := 4) (by decide +kernel) (by decide +kernel)) (
  And.intro (sd_lconst (n := 0) (by decide) (by decide +kernel) (by decide +kernel)) (
  And.intro (sd_ms _ (sd_lret (by decide +kernel) rfl)) (
  And.intro (sd_lload_n (k := 1) rfl (by decide +kernel) (by decide +kernel)) (
  And.intro (sd_lload_n (k := 3) rfl (by decide +kernel) (by decide +kernel)) (
  And.intro (sd_lcmp (by decide +kernel) (by decide +kernel)) (
  And.intro (sd_zne (off := 7) (by decide +kernel) (by decide +kernel) (by decide +kernel)) (
  And.intro (sd_lconst (n := 1) (by decide) (by decide +kernel) (by decide +kernel)) (
  And.intro (sd_go (off := 4) (by decide +kernel) (by decide +kernel)) (
  And.intro (sd_lconst (n := 0) (by decide) (by decide +kernel) (by decide +kernel)) (
  And.intro (sd_ms _ (sd_lret (by decide +kernel) rfl)) (
  And.intro (sd_lload_n (k := 1) rfl (by decide +kernel) (by decide +kernel)) (
  And.intro (sd_lload_n (k := 3) rfl (by decide +kernel) (by decide +kernel)) (
  And.intro (sd_lcmp (by decide +kernel) (by decide +kernel)) (
  And.intro (sd_zlt (off := 7) (by decide +kernel) (by decide +kernel) (by decide +kernel)) (
  And.intro (sd_lconst (n := 1) (by decide) (by decide +kernel) (by decide +kernel)) (
  And.intro (sd_go (off := 4) (by decide +kernel) (by decide +kernel)) (
  And.intro (sd_lconst (n := 0) (by decide) (by decide +kernel) (by decide +kernel)) (
  And.intro (sd_ms _ (sd_lret (by decide +kernel) rfl)) (
  And.intro (sd_lload_n (k := 1) rfl (by decide +kernel) (by decide +kernel)) (
  And.intro (sd_lload_n (k := 3) rfl (by decide +kernel) (by decide +kernel)) (
  And.intro (sd_lcmp (by decide +kernel) (by decide +kernel)) (
  And.intro (sd_zle (off := 7) (by decide +kernel) (by decide +kernel) (by decide +kernel)) (
  And.intro (sd_lconst (n := 1) (by decide) (by decide +kernel) (by decide +kernel)) (
  And.intro (sd_go (off := 4) (by decide +kernel) (by decide +kernel)) (
  And.intro (sd_lconst (n := 0) (by decide) (by decide +kernel) (by decide +kernel)) (
  And.intro (sd_ms _ (sd_lret (by decide +kernel) rfl)) (
  And.intro (sd_lload_n (k := 1) rfl (by decide +kernel) (by decide +kernel)) (
  And.intro (sd_lload_n (k := 3) rfl (by decide +kernel) (by decide +kernel)) (
  And.intro (sd_land (by decide +kernel) (by decide +kernel)) (
  And.intro (sd_lret (by decide +kernel) rfl) (
  And.intro (sd_lload_n (k := 1) rfl (by decide +kernel) (by decide +kernel)) (
  And.intro (sd_lload_n (k := 3) rfl (by decide +kernel) (by decide +kernel)) (
  And.intro (sd_lor (by decide +kernel) (by decide +kernel)) (
  And.intro (sd_lret (by decide +kernel) rfl) (
  And.intro (sd_lconst (n := 0) (by decide) (by decide +kernel) (by decide +kernel)) (
  And.intro (sd_lret (by decide +kernel) rfl) (
  trivial))))))))))))))))))))))))))))))))))))))))))))))))))))))))))))))))))))))))))))))))))))
set_option maxRecDepth 100000 in
set_option maxHeartbeats 8000000 in
theorem sn_43 : Sns 43 0 tSc_init := And.intro (sd_aload_n (k := 0) rfl (by decide +kernel) (by decide +kernel)) (
  And.intro (sd_obj wm_3_3 wo_1 wo_2 (by decide +kernel) (by decide +kernel)) (
  And.intro (sd_aload_n (k := 0) rfl (by decide +kernel) (by decide +kernel)) (
  And.intro (sd_new cf0 cd0 wx_3_9 wy_0 wi_0 (by decide +kernel) (by decide +kernel)) (
  And.intro (sd_dup (by decide +kernel) (by decide +kernel)) (
  And.intro (sd_IN mg_1 rfl rfl (by decide +kernel) wq_3_11 wn_1 (by decide +kernel)) (
  And.intro (sd_putR cf3 (by decide) (by decide) (Or.inr ⟨_, rfl⟩) rfl (by decide +kernel) (by decide +kernel) wf_3_12 (by decide +kernel) (by decide +kernel)) (
  And.intro (sd_aload_n (k := 0) rfl (by decide +kernel) (by decide +kernel)) (
  And.intro (sd_new cf5 cd5 wx_3_18 wy_5 wi_5 (by decide +kernel) (by decide +kernel)) (
  And.intro (sd_dup (by decide +kernel) (by decide +kernel)) (
  And.intro (sd_I mg_67 rfl rfl (by decide +kernel) wm_3_20 wn_67 (by decide +kernel)) (
  And.intro (sd_putR cf3 (by decide) (by decide) (Or.inr ⟨_, rfl⟩) rfl (by decide +kernel) (by decide +kernel) wf_3_21 (by decide +kernel) (by decide +kernel)) (
  And.intro (sd_aload_n (k := 0) rfl (by decide +kernel) (by decide +kernel)) (
  And.intro (sd_iconst (n := (-1)) (by decide) (by decide +kernel) (by decide +kernel)) (
  And.intro (sd_putI cf3 (by decide) (by decide) rfl rfl wf_3_25 (by decide +kernel) (by decide +kernel)) (
  And.intro (sd_aload_n (k := 0) rfl (by decide +kernel) (by decide +kernel)) (
  And.intro (sd_iconst (n := 0) (by decide) (by decide +kernel) (by decide +kernel)) (
  And.intro (sd_putI cf3 (by decide) (by decide) rfl rfl wf_3_29 (by decide +kernel) (by decide +kernel)) (
  And.intro (sd_aload_n (k := 0) rfl (by decide +kernel) (by decide +kernel)) (
  And.intro (sd_bipush (n := 10) (by decide) (by decide +kernel) (by decide +kernel)) (
  And.intro (sd_newa1 (by decide +kernel) wa_1 (by decide +kernel)) (
  And.intro (sd_putR cf3 (by decide) (by decide) (Or.inl ⟨_, rfl⟩) rfl (by decide +kernel) (by decide +kernel) wf_3_32 (by decide +kernel) (by decide +kernel)) (
  And.intro (sd_aload_n (k := 0) rfl (by decide +kernel) (by decide +kernel)) (
  And.intro (sd_bipush (n := 10) (by decide) (by decide +kernel) (by decide +kernel)) (
  And.intro (sd_newa1 (by decide +kernel) wa_1 (by decide +kernel)) (
  And.intro (sd_putR cf3 (by decide) (by decide) (Or.inl ⟨_, rfl⟩) rfl (by decide +kernel) (by decide +kernel) wf_3_36 (by decide +kernel) (by decide +kernel)) (
  And.intro (sd_aload_n (k := 0) rfl (by decide +kernel) (by decide +kernel)) (
  And.intro (sd_bipush (n := 10) (by decide) (by decide +kernel) (by decide +kernel)) (
  And.intro (sd_newa1 (by decide +kernel) wa_1 (by decide +kernel)) (
  And.intro (sd_putR cf3 (by decide) (by decide) (Or.inl ⟨_, rfl⟩) rfl (by decide +kernel) (by decide +kernel) wf_3_39 (by decide +kernel) (by decide +kernel)) (
  And.intro (sd_aload_n (k := 0) rfl (by decide +kernel) (by decide +kernel)) (
  And.intro (sd_iconst (n := 0) (by decide) (by decide +kernel) (by decide +kernel)) (
  And.intro (sd_putI cf3 (by decide) (by decide) rfl rfl wf_3_42 (by decide +kernel) (by decide +kernel)) (
  And.intro (sd_aload_n (k := 0) rfl (by decide +kernel) (by decide +kernel)) (
  And.intro (sd_sipush (n := 560) (by decide) (by decide +kernel) (by decide +kernel)) (
  And.intro (sd_newa1 (by decide +kernel) wa_1 (by decide +kernel)) (
  And.intro (sd_putR cf3 (by decide) (by decide) (Or.inl ⟨_, rfl⟩) rfl (by decide +kernel) (by decide +kernel) wf_3_45 (by decide +kernel) (by decide +kernel)) (
  And.intro (sd_aload_n (k := 0) rfl (by decide +kernel) (by decide +kernel)) (
  And.intro (sd_iconst (n := 0) (by decide) (by decide +kernel) (by decide +kernel)) (
  And.intro (sd_putI cf3 (by decide) (by decide) rfl rfl wf_3_48 (by decide +kernel) (by decide +kernel)) (
  And.intro (sd_aload_n (k := 0) rfl (by decide +kernel) (by decide +kernel)) (
  And.intro (sd_iconst (n := 0) (by decide) (by decide +kernel) (by decide +kernel)) (
  And.intro (sd_putZ cf3 (by decide) (by decide) rfl rfl wf_3_51 (by decide +kernel) (by decide +kernel)) (
  And.intro (sd_vret (by decide +kernel) rfl) (
  trivial))))))))))))))))))))))))))))))))))))))))))))
set_option maxRecDepth 100000 in
set_option maxHeartbeats 8000000 in
theorem sn_44 : Sns 44 0 tSc_copyFrom := And.intro (sd_aload_n (k := 0) rfl (by decide +kernel) (by decide +kernel)) (
  And.intro (sd_getR cf3 (by decide) (by decide) wf_3_12 (by decide +kernel) (by decide +kernel)) (
  And.intro (sd_aload_n (k := 1) rfl (by decide +kernel) (by decide +kernel)) (
  And.intro (sd_getR cf3 (by decide) (by decide) wf_3_12 (by decide +kernel) (by decide +kernel)) (
  And.intro (sd_VV mg_2 (by decide +kernel) wm_3_55 wn_2 wv_2 rfl rfl (by decide +kernel)) (
  And.intro (sd_aload_n (k := 0) rfl (by decide +kernel) (by decide +kernel)) (
  And.intro (sd_getR cf3 (by decide) (by decide) wf_3_21 (by decide +kernel) (by decide +kernel)) (
  And.intro (sd_aload_n (k := 1) rfl (by decide +kernel) (by decide +kernel)) (
  And.intro (sd_getR cf3 (by decide) (by decide) wf_3_21 (by decide +kernel) (by decide +kernel)) (
  And.intro (sd_VV mg_69 (by decide +kernel) wm_3_59 wn_69 wv_69 rfl rfl (by decide +kernel)) (
  And.intro (sd_aload_n (k := 0) rfl (by decide +kernel) (by decide +kernel)) (
  And.intro (sd_aload_n (k := 1) rfl (by decide +kernel) (by decide +kernel)) (
  And.intro (sd_getI cf3 (by decide) (by decide) wf_3_25 (by decide +kernel) (by decide +kernel)) (
  And.intro (sd_putI cf3 (by decide) (by decide) rfl rfl wf_3_25 (by decide +kernel) (by decide +kernel)) (
  And.intro (sd_aload_n (k := 0) rfl (by decide +kernel) (by decide +kernel)) (
  And.intro (sd_aload_n (k := 1) rfl (by decide +kernel) (by decide +kernel)) (
  And.intro (sd_getI cf3 (by decide) (by decide) wf_3_29 (by decide +kernel) (by decide +kernel)) (
  And.intro (sd_putI cf3 (by decide) (by decide) rfl rfl wf_3_29 (by decide +kernel) (by decide +kernel)) (
  And.intro (sd_aload_n (k := 1) rfl (by decide +kernel) (by decide +kernel)) (
  And.intro (sd_getR cf3 (by decide) (by decide) wf_3_32 (by decide +kernel) (by decide +kernel)) (
  And.intro (sd_iconst (n := 0) (by decide) (by decide +kernel) (by decide +kernel)) (
  And.intro (sd_aload_n (k := 0) rfl (by decide +kernel) (by decide +kernel)) (
  And.intro (sd_getR cf3 (by decide) (by decide) wf_3_32 (by decide +kernel) (by decide +kernel)) (
  And.intro (sd_iconst (n := 0) (by decide) (by decide +kernel) (by decide +kernel)) (
  And.intro (sd_bipush (n := 10) (by decide) (by decide +kernel) (by decide +kernel)) (
  And.intro (sd_copy wm_3_62 wo_3 wo_4 wo_5 (by decide +kernel) (by decide +kernel)) (
  And.intro (sd_aload_n (k := 1) rfl (by decide +kernel) (by decide +kernel)) (
  And.intro (sd_getR cf3 (by decide) (by decide) wf_3_36 (by decide +kernel) (by decide +kernel)) (
  And.intro (sd_iconst (n := 0) (by decide) (by decide +kernel) (by decide +kernel)) (
  And.intro (sd_aload_n (k := 0) rfl (by decide +kernel) (by decide +kernel)) (
  And.intro (sd_getR cf3 (by decide) (by decide) wf_3_36 (by decide +kernel) (by decide +kernel)) (
  And.intro (sd_iconst (n := 0) (by decide) (by decide +kernel) (by decide +kernel)) (
  And.intro (sd_bipush (n := 10) (by decide) (by decide +kernel) (by decide +kernel)) (
  And.intro (sd_copy wm_3_62 wo_3 wo_4 wo_5 (by decide +kernel) (by decide +kernel)) (
  And.intro (sd_aload_n (k := 1) rfl (by decide +kernel) (by decide +kernel)) (
  And.intro (sd_getR cf3 (by decide) (by decide) wf_3_39 (by decide +kernel) (by decide +kernel)) (
  And.intro (sd_iconst (n := 0) (by decide) (by decide +kernel) (by decide +kernel)) (
  And.intro (sd_aload_n (k := 0) rfl (by decide +kernel) (by decide +kernel)) (
  And.intro (sd_getR cf3 (by decide) (by decide) wf_3_39 (by decide +kernel) (by decide +kernel)) (
  And.intro (sd_iconst (n := 0) (by decide) (by decide +kernel) (by decide +kernel)) (
  And.intro (sd_bipush (n := 10) (by decide) (by decide +kernel) (by decide +kernel)) (
  And.intro (sd_copy wm_3_62 wo_3 wo_4 wo_5 (by decide +kernel) (by decide +kernel)) (
  And.intro (sd_aload_n (k := 0) rfl (by decide +kernel) (by decide +kernel)) (
  And.intro (sd_aload_n (k := 1) rfl (by decide +kernel) (by decide +kernel)) (
  And.intro (sd_getI cf3 (by decide) (by decide) wf_3_42 (by decide +kernel) (by decide +kernel)) (
  And.intro (sd_putI cf3 (by decide) (by decide) rfl rfl wf_3_42 (by decide +kernel) (by decide +kernel)) (
  And.intro (sd_aload_n (k := 1) rfl (by decide +kernel) (by decide +kernel)) (
  And.intro (sd_getR cf3 (by decide) (by decide) wf_3_45 (by decide +kernel) (by decide +kernel)) (
  And.intro (sd_iconst (n := 0) (by decide) (by decide +kernel) (by decide +kernel)) (
  And.intro (sd_aload_n (k := 0) rfl (by decide +kernel) (by decide +kernel)) (
  And.intro (sd_getR cf3 (by decide) (by decide) wf_3_45 (by decide +kernel) (by decide +kernel)) (
  And.intro (sd_iconst (n := 0) (by decide) (by decide +kernel) (by decide +kernel)) (
  And.intro (sd_sipush (n := 560) (by decide) (by decide +kernel) (by decide +kernel)) (
  And.intro (sd_copy wm_3_62 wo_3 wo_4 wo_5 (by decide +kernel) (by decide +kernel)) (
  And.intro (sd_aload_n (k := 0) rfl (by decide +kernel) (by decide +kernel)) (
  And.intro (sd_aload_n (k := 1) rfl (by decide +kernel) (by decide +kernel)) (
  And.intro (sd_getI cf3 (by decide) (by decide) wf_3_48 (by decide +kernel) (by decide +kernel)) (
  And.intro (sd_putI cf3 (by decide) (by decide) rfl rfl wf_3_48 (by decide +kernel) (by decide +kernel)) (
  And.intro (sd_vret (by decide +kernel) rfl) (
  trivial)))))))))))))))))))))))))))))))))))))))))))))))))))))))))))
set_option maxRecDepth 100000 in
set_option maxHeartbeats 8000000 in
theorem sn_45 : Sns 45 0 tSc_keep := And.intro (sd_aload_n (k := 0) rfl (by decide +kernel) (by decide +kernel)) (
  And.intro (sd_getI cf3 (by decide) (by decide) wf_3_48 (by decide +kernel) (by decide +kernel)) (
  And.intro (sd_bipush (n := 20) (by decide) (by decide +kernel) (by decide +kernel)) (
  And.intro (sd_ilt (off := 26) (by decide +kernel) (by decide +kernel) (by decide +kernel)) (
  And.intro (sd_aload_n (k := 0) rfl (by decide +kernel) (by decide +kernel)) (
  And.intro (sd_getR cf3 (by decide) (by decide) wf_3_45 (by decide +kernel) (by decide +kernel)) (
  And.intro (sd_bipush (n := 28) (by decide) (by decide +kernel) (by decide +kernel)) (
  And.intro (sd_aload_n (k := 0) rfl (by decide +kernel) (by decide +kernel)) (
  And.intro (sd_getR cf3 (by decide) (by decide) wf_3_45 (by decide +kernel) (by decide +kernel)) (
  And.intro (sd_iconst (n := 0) (by decide) (by decide +kernel) (by decide +kernel)) (
  And.intro (sd_sipush (n := 532) (by decide) (by decide +kernel) (by decide +kernel)) (
  And.intro (sd_copy wm_3_62 wo_3 wo_4 wo_5 (by decide +kernel) (by decide +kernel)) (
  And.intro (sd_aload_n (k := 0) rfl (by decide +kernel) (by decide +kernel)) (
  And.intro (sd_bipush (n := 19) (by decide) (by decide +kernel) (by decide +kernel)) (
  And.intro (sd_putI cf3 (by decide) (by decide) rfl rfl wf_3_48 (by decide +kernel) (by decide +kernel)) (
  And.intro (sd_aload_n (k := 0) rfl (by decide +kernel) (by decide +kernel)) (
  And.intro (sd_getR cf3 (by decide) (by decide) wf_3_21 (by decide +kernel) (by decide +kernel)) (
  And.intro (sd_aload_n (k := 0) rfl (by decide +kernel) (by decide +kernel)) (
  And.intro (sd_getR cf3 (by decide) (by decide) wf_3_45 (by decide +kernel) (by decide +kernel)) (
  And.intro (sd_aload_n (k := 0) rfl (by decide +kernel) (by decide +kernel)) (
  And.intro (sd_getI cf3 (by decide) (by decide) wf_3_48 (by decide +kernel) (by decide +kernel)) (
  And.intro (sd_bipush (n := 28) (by decide) (by decide +kernel) (by decide +kernel)) (
  And.intro (sd_imul (by decide +kernel) (by decide +kernel)) (
  And.intro (sd_VV mg_70 (by decide +kernel) wm_3_68 wn_70 wv_70 rfl rfl (by decide +kernel)) (
  And.intro (sd_aload_n (k := 0) rfl (by decide +kernel) (by decide +kernel)) (
  And.intro (sd_dup (by decide +kernel) (by decide +kernel)) (
  And.intro (sd_getI cf3 (by decide) (by decide) wf_3_48 (by decide +kernel) (by decide +kernel)) (
  And.intro (sd_iconst (n := 1) (by decide) (by decide +kernel) (by decide +kernel)) (
  And.intro (sd_iadd (by decide +kernel) (by decide +kernel)) (
  And.intro (sd_putI cf3 (by decide) (by decide) rfl rfl wf_3_48 (by decide +kernel) (by decide +kernel)) (
  And.intro (sd_vret (by decide +kernel) rfl) (
  trivial)))))))))))))))))))))))))))))))

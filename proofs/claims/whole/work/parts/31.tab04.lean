set_option maxRecDepth 100000 in
set_option maxHeartbeats 8000000 in
theorem sn_126 : Sns 126 0 tPx_countPlaces := And.intro (sd_aload_n (k := 0) rfl (by decide +kernel) (by decide +kernel)) (
  And.intro (sd_iload_n (k := 1) rfl (by decide +kernel) (by decide +kernel)) (
  And.intro (sd_VR mg_122 (by decide +kernel) wm_6_305 wn_122 wv_122 rfl rfl (by decide +kernel)) (
  And.intro (sd_astore_n (k := 3) rfl (by decide) (by decide +kernel) (by decide +kernel)) (
  And.intro (sd_aload_n (k := 0) rfl (by decide +kernel) (by decide +kernel)) (
  And.intro (sd_VV mg_124 (by decide +kernel) wm_6_314 wn_124 wv_124 rfl rfl (by decide +kernel)) (
  And.intro (sd_iconst (n := 0) (by decide) (by decide +kernel) (by decide +kernel)) (
  And.intro (sd_istore (by decide) (by decide +kernel) (by decide +kernel)) (
  And.intro (sd_ms _ (sd_iload (by decide +kernel) (by decide +kernel))) (
  And.intro (sd_iload_n (k := 2) rfl (by decide +kernel) (by decide +kernel)) (
  And.intro (sd_igt (off := 25) (by decide +kernel) (by decide +kernel) (by decide +kernel)) (
  And.intro (sd_aload_n (k := 0) rfl (by decide +kernel) (by decide +kernel)) (
  And.intro (sd_getR cf6 (by decide) (by decide) wf_6_47 (by decide +kernel) (by decide +kernel)) (
  And.intro (sd_aload_n (k := 0) rfl (by decide +kernel) (by decide +kernel)) (
  And.intro (sd_getR cf6 (by decide) (by decide) wf_6_29 (by decide +kernel) (by decide +kernel)) (
  And.intro (sd_getR cf3 (by decide) (by decide) wf_6_77 (by decide +kernel) (by decide +kernel)) (
  And.intro (sd_aload_n (k := 3) rfl (by decide +kernel) (by decide +kernel)) (
  And.intro (sd_VI mg_77 (by decide +kernel) wm_6_186 wn_77 wv_77 rfl rfl (by decide +kernel)) (
  And.intro (sd_pop (by decide +kernel) (by decide +kernel)) (
  And.intro (sd_iinc (n := 1) (by decide) (by decide) (by decide +kernel) (by decide +kernel)) (
  And.intro (sd_go (off := (-25)) (by decide +kernel) (by decide +kernel)) (
  And.intro (sd_iconst (n := 0) (by decide) (by decide +kernel) (by decide +kernel)) (
  And.intro (sd_istore (by decide) (by decide +kernel) (by decide +kernel)) (
  And.intro (sd_ms _ (sd_iload (by decide +kernel) (by decide +kernel))) (
  And.intro (sd_aload_n (k := 0) rfl (by decide +kernel) (by decide +kernel)) (
  And.intro (sd_getR cf6 (by decide) (by decide) wf_6_29 (by decide +kernel) (by decide +kernel)) (
  And.intro (sd_getR cf3 (by decide) (by decide) wf_6_77 (by decide +kernel) (by decide +kernel)) (
  And.intro (sd_getI cf0 (by decide) (by decide) wf_6_163 (by decide +kernel) (by decide +kernel)) (
  And.intro (sd_ige (off := 35) (by decide +kernel) (by decide +kernel) (by decide +kernel)) (
  And.intro (sd_aload_n (k := 0) rfl (by decide +kernel) (by decide +kernel)) (
  And.intro (sd_getR cf6 (by decide) (by decide) wf_6_58 (by decide +kernel) (by decide +kernel)) (
  And.intro (sd_iload (by decide +kernel) (by decide +kernel)) (
  And.intro (sd_bipush (n := 9) (by decide) (by decide +kernel) (by decide +kernel)) (
  And.intro (sd_imul (by decide +kernel) (by decide +kernel)) (
  And.intro (sd_aload_n (k := 0) rfl (by decide +kernel) (by decide +kernel)) (
  And.intro (sd_getR cf6 (by decide) (by decide) wf_6_47 (by decide +kernel) (by decide +kernel)) (
  And.intro (sd_iload (by decide +kernel) (by decide +kernel)) (
  And.intro (sd_VI mg_72 (by decide +kernel) wm_6_205 wn_72 wv_72 rfl rfl (by decide +kernel)) (
  And.intro (sd_iadd (by decide +kernel) (by decide +kernel)) (
  And.intro (sd_iconst (n := 1) (by decide) (by decide +kernel) (by decide +kernel)) (
  And.intro (sd_iadd (by decide +kernel) (by decide +kernel)) (
  And.intro (sd_dup2 (by decide +kernel) (by decide +kernel)) (
  And.intro (sd_iald (by decide +kernel) (by decide +kernel)) (
  And.intro (sd_iconst (n := 1) (by decide) (by decide +kernel) (by decide +kernel)) (
  And.intro (sd_iadd (by decide +kernel) (by decide +kernel)) (
  And.intro (sd_iast (by decide +kernel) (by decide +kernel)) (
  And.intro (sd_iinc (n := 1) (by decide) (by decide) (by decide +kernel) (by decide +kernel)) (
  And.intro (sd_go (off := (-44)) (by decide +kernel) (by decide +kernel)) (
  And.intro (sd_vret (by decide +kernel) rfl) (
  trivial)))))))))))))))))))))))))))))))))))))))))))))))))
set_option maxRecDepth 100000 in
set_option maxHeartbeats 8000000 in
theorem sn_127 : Sns 127 0 tPx_mostAlike := And.intro (sd_iconst (n := 0) (by decide) (by decide +kernel) (by decide +kernel)) (
  And.intro (sd_istore_n (k := 2) rfl (by decide) (by decide +kernel) (by decide +kernel)) (
  And.intro (sd_iconst (n := 0) (by decide) (by decide +kernel) (by decide +kernel)) (
  And.intro (sd_istore_n (k := 3) rfl (by decide) (by decide +kernel) (by decide +kernel)) (
  And.intro (sd_ms _ (sd_iload_n (k := 3) rfl (by decide +kernel) (by decide +kernel))) (
  And.intro (sd_bipush (n := 9) (by decide) (by decide +kernel) (by decide +kernel)) (
  And.intro (sd_ige (off := 25) (by decide +kernel) (by decide +kernel) (by decide +kernel)) (
  And.intro (sd_iload_n (k := 2) rfl (by decide +kernel) (by decide +kernel)) (
  And.intro (sd_aload_n (k := 0) rfl (by decide +kernel) (by decide +kernel)) (
  And.intro (sd_getR cf6 (by decide) (by decide) wf_6_58 (by decide +kernel) (by decide +kernel)) (
  And.intro (sd_iload_n (k := 1) rfl (by decide +kernel) (by decide +kernel)) (
  And.intro (sd_bipush (n := 9) (by decide) (by decide +kernel) (by decide +kernel)) (
  And.intro (sd_imul (by decide +kernel) (by decide +kernel)) (
  And.intro (sd_iload_n (k := 3) rfl (by decide +kernel) (by decide +kernel)) (
  And.intro (sd_iadd (by decide +kernel) (by decide +kernel)) (
  And.intro (sd_iald (by decide +kernel) (by decide +kernel)) (
  And.intro (sd_mmax wm_6_317 wo_6max wo_7 wo_8max (by decide +kernel) (by decide +kernel)) (
  And.intro (sd_istore_n (k := 2) rfl (by decide) (by decide +kernel) (by decide +kernel)) (
  And.intro (sd_iinc (n := 1) (by decide) (by decide) (by decide +kernel) (by decide +kernel)) (
  And.intro (sd_go (off := (-25)) (by decide +kernel) (by decide +kernel)) (
  And.intro (sd_iload_n (k := 2) rfl (by decide +kernel) (by decide +kernel)) (
  And.intro (sd_iret (by decide +kernel) rfl) (
  trivial))))))))))))))))))))))
set_option maxRecDepth 100000 in
set_option maxHeartbeats 8000000 in
theorem sn_128 : Sns 128 0 tPx_drawn := And.intro (sd_iload_n (k := 0) rfl (by decide +kernel) (by decide +kernel)) (
  And.intro (sd_i2l (by decide +kernel) (by decide +kernel)) (
  And.intro (sd_ldc2 wl_6_320 (by decide +kernel) (by decide +kernel)) (
  And.intro (sd_lmul (by decide +kernel) (by decide +kernel)) (
  And.intro (sd_ldc2 wl_6_322 (by decide +kernel) (by decide +kernel)) (
  And.intro (sd_ladd (by decide +kernel) (by decide +kernel)) (
  And.intro (sd_ldc2 wl_6_324 (by decide +kernel) (by decide +kernel)) (
  And.intro (sd_land (by decide +kernel) (by decide +kernel)) (
  And.intro (sd_l2i (by decide +kernel) (by decide +kernel)) (
  And.intro (sd_iret (by decide +kernel) rfl) (
  trivial))))))))))
set_option maxRecDepth 100000 in
set_option maxHeartbeats 8000000 in
theorem sn_129 : Sns 129 0 tMo_init := And.intro (sd_aload_n (k := 0) rfl (by decide +kernel) (by decide +kernel)) (
  And.intro (sd_obj wm_7_3 wo_1 wo_2 (by decide +kernel) (by decide +kernel)) (
  And.intro (sd_aload_n (k := 0) rfl (by decide +kernel) (by decide +kernel)) (
  And.intro (sd_bipush (n := 13) (by decide) (by decide +kernel) (by decide +kernel)) (
  And.intro (sd_newa1 (by decide +kernel) wa_1 (by decide +kernel)) (
  And.intro (sd_dup (by decide +kernel) (by decide +kernel)) (
  And.intro (sd_iconst (n := 0) (by decide) (by decide +kernel) (by decide +kernel)) (
  And.intro (sd_iconst (n := 0) (by decide) (by decide +kernel) (by decide +kernel)) (
  And.intro (sd_iast (by decide +kernel) (by decide +kernel)) (
  And.intro (sd_dup (by decide +kernel) (by decide +kernel)) (
  And.intro (sd_iconst (n := 1) (by decide) (by decide +kernel) (by decide +kernel)) (
  And.intro (sd_iconst (n := 0) (by decide) (by decide +kernel) (by decide +kernel)) (
  And.intro (sd_iast (by decide +kernel) (by decide +kernel)) (
  And.intro (sd_dup (by decide +kernel) (by decide +kernel)) (
  And.intro (sd_iconst (n := 2) (by decide) (by decide +kernel) (by decide +kernel)) (
  And.intro (sd_iconst (n := 0) (by decide) (by decide +kernel) (by decide +kernel)) (
  And.intro (sd_iast (by decide +kernel) (by decide +kernel)) (
  And.intro (sd_dup (by decide +kernel) (by decide +kernel)) (
  And.intro (sd_iconst (n := 3) (by decide) (by decide +kernel) (by decide +kernel)) (
  And.intro (sd_iconst (n := 0) (by decide) (by decide +kernel) (by decide +kernel)) (
  And.intro (sd_iast (by decide +kernel) (by decide +kernel)) (
  And.intro (sd_dup (by decide +kernel) (by decide +kernel)) (
  And.intro (sd_iconst (n := 4) (by decide) (by decide +kernel) (by decide +kernel)) (
  And.intro (sd_iconst (n := 0) (by decide) (by decide +kernel) (by decide +kernel)) (
  And.intro (sd_iast (by decide +kernel) (by decide +kernel)) (
  And.intro (sd_dup (by decide +kernel) (by decide +kernel)) (
  And.intro (sd_iconst (n := 5) (by decide) (by decide +kernel) (by decide +kernel)) (
  And.intro (sd_iconst (n := 0) (by decide) (by decide +kernel) (by decide +kernel)) (
  And.intro (sd_iast (by decide +kernel) (by decide +kernel)) (
  And.intro (sd_dup (by decide +kernel) (by decide +kernel)) (
  And.intro (sd_bipush (n := 6) (by decide) (by decide +kernel) (by decide +kernel)) (
  And.intro (sd_iconst (n := 0) (by decide) (by decide +kernel) (by decide +kernel)) (
  And.intro (sd_iast (by decide +kernel) (by decide +kernel)) (
  And.intro (sd_dup (by decide +kernel) (by decide +kernel)) (
  And.intro (sd_bipush (n := 7) (by decide) (by decide +kernel) (by decide +kernel)) (
  And.intro (sd_iconst (n := 0) (by decide) (by decide +kernel) (by decide +kernel)) (
  And.intro (sd_iast (by decide +kernel) (by decide +kernel)) (
  And.intro (sd_dup (by decide +kernel) (by decide +kernel)) (
  And.intro (sd_bipush (n := 8) (by decide) (by decide +kernel) (by decide +kernel)) (
  And.intro (sd_iconst (n := 0) (by decide) (by decide +kernel) (by decide +kernel)) (
  And.intro (sd_iast (by decide +kernel) (by decide +kernel)) (
  And.intro (sd_dup (by decide +kernel) (by decide +kernel)) (
  And.intro (sd_bipush (n := 9) (by decide) (by decide +kernel) (by decide +kernel)) (
  And.intro (sd_iconst (n := 0) (by decide) (by decide +kernel) (by decide +kernel)) (
  And.intro (sd_iast (by decide +kernel) (by decide +kernel)) (
  And.intro (sd_dup (by decide +kernel) (by decide +kernel)) (
  And.intro (sd_bipush (n := 10) (by decide) (by decide +kernel) (by decide +kernel)) (
  And.intro (sd_iconst (n := 0) (by decide) (by decide +kernel) (by decide +kernel)) (
  And.intro (sd_iast (by decide +kernel) (by decide +kernel)) (
  And.intro (sd_dup (by decide +kernel) (by decide +kernel)) (
  And.intro (sd_bipush (n := 11) (by decide) (by decide +kernel) (by decide +kernel)) (
  And.intro (sd_iconst (n := 0) (by decide) (by decide +kernel) (by decide +kernel)) (
  And.intro (sd_iast (by decide +kernel) (by decide +kernel)) (
  And.intro (sd_dup (by decide +kernel) (by decide +kernel)) (
  And.intro (sd_bipush (n := 12) (by decide) (by decide +kernel) (by decide +kernel)) (
  And.intro (sd_iconst (n := (-1)) (by decide) (by decide +kernel) (by decide +kernel)) (
  And.intro (sd_iast (by decide +kernel) (by decide +kernel)) (
  And.intro (sd_putR cf7 (by decide) (by decide) (Or.inl ⟨_, rfl⟩) rfl (by decide +kernel) (by decide +kernel) wf_7_9 (by decide +kernel) (by decide +kernel)) (
  And.intro (sd_aload_n (k := 0) rfl (by decide +kernel) (by decide +kernel)) (
  And.intro (sd_bipush (n := 8) (by decide) (by decide +kernel) (by decide +kernel)) (
  And.intro (sd_newa1 (by decide +kernel) wa_1 (by decide +kernel)) (
  And.intro (sd_putR cf7 (by decide) (by decide) (Or.inl ⟨_, rfl⟩) rfl (by decide +kernel) (by decide +kernel) wf_7_13 (by decide +kernel) (by decide +kernel)) (
  And.intro (sd_aload_n (k := 0) rfl (by decide +kernel) (by decide +kernel)) (
  And.intro (sd_bipush (n := 64) (by decide) (by decide +kernel) (by decide +kernel)) (
  And.intro (sd_newa1 (by decide +kernel) wa_1 (by decide +kernel)) (
  And.intro (sd_putR cf7 (by decide) (by decide) (Or.inl ⟨_, rfl⟩) rfl (by decide +kernel) (by decide +kernel) wf_7_16 (by decide +kernel) (by decide +kernel)) (
  And.intro (sd_aload_n (k := 0) rfl (by decide +kernel) (by decide +kernel)) (
  And.intro (sd_bipush (n := 64) (by decide) (by decide +kernel) (by decide +kernel)) (
  And.intro (sd_newa1 (by decide +kernel) wa_1 (by decide +kernel)) (
  And.intro (sd_putR cf7 (by decide) (by decide) (Or.inl ⟨_, rfl⟩) rfl (by decide +kernel) (by decide +kernel) wf_7_19 (by decide +kernel) (by decide +kernel)) (
  And.intro (sd_aload_n (k := 0) rfl (by decide +kernel) (by decide +kernel)) (
  And.intro (sd_bipush (n := 6) (by decide) (by decide +kernel) (by decide +kernel)) (
  And.intro (sd_newa1 (by decide +kernel) wa_1 (by decide +kernel)) (
  And.intro (sd_putR cf7 (by decide) (by decide) (Or.inl ⟨_, rfl⟩) rfl (by decide +kernel) (by decide +kernel) wf_7_22 (by decide +kernel) (by decide +kernel)) (
  And.intro (sd_aload_n (k := 0) rfl (by decide +kernel) (by decide +kernel)) (
  And.intro (sd_bipush (n := 6) (by decide) (by decide +kernel) (by decide +kernel)) (
  And.intro (sd_newa1 (by decide +kernel) wa_1 (by decide +kernel)) (
  And.intro (sd_putR cf7 (by decide) (by decide) (Or.inl ⟨_, rfl⟩) rfl (by decide +kernel) (by decide +kernel) wf_7_25 (by decide +kernel) (by decide +kernel)) (
  And.intro (sd_aload_n (k := 0) rfl (by decide +kernel) (by decide +kernel)) (
  And.intro (sd_bipush (n := 6) (by decide) (by decide +kernel) (by decide +kernel)) (
  And.intro (sd_newa1 (by decide +kernel) wa_1 (by decide +kernel)) (
  And.intro (sd_putR cf7 (by decide) (by decide) (Or.inl ⟨_, rfl⟩) rfl (by decide +kernel) (by decide +kernel) wf_7_28 (by decide +kernel) (by decide +kernel)) (
  And.intro (sd_aload_n (k := 0) rfl (by decide +kernel) (by decide +kernel)) (
  And.intro (sd_bipush (n := 6) (by decide) (by decide +kernel) (by decide +kernel)) (
  And.intro (sd_newa1 (by decide +kernel) wa_1 (by decide +kernel)) (
  And.intro (sd_putR cf7 (by decide) (by decide) (Or.inl ⟨_, rfl⟩) rfl (by decide +kernel) (by decide +kernel) wf_7_31 (by decide +kernel) (by decide +kernel)) (
  And.intro (sd_aload_n (k := 0) rfl (by decide +kernel) (by decide +kernel)) (
  And.intro (sd_bipush (n := 6) (by decide) (by decide +kernel) (by decide +kernel)) (
  And.intro (sd_newa1 (by decide +kernel) wa_1 (by decide +kernel)) (
  And.intro (sd_putR cf7 (by decide) (by decide) (Or.inl ⟨_, rfl⟩) rfl (by decide +kernel) (by decide +kernel) wf_7_34 (by decide +kernel) (by decide +kernel)) (
  And.intro (sd_aload_n (k := 0) rfl (by decide +kernel) (by decide +kernel)) (
  And.intro (sd_iconst (n := 3) (by decide) (by decide +kernel) (by decide +kernel)) (
  And.intro (sd_newa1 (by decide +kernel) wa_1 (by decide +kernel)) (
  And.intro (sd_putR cf7 (by decide) (by decide) (Or.inl ⟨_, rfl⟩) rfl (by decide +kernel) (by decide +kernel) wf_7_37 (by decide +kernel) (by decide +kernel)) (
  And.intro (sd_aload_n (k := 0) rfl (by decide +kernel) (by decide +kernel)) (
  And.intro (sd_iconst (n := 3) (by decide) (by decide +kernel) (by decide +kernel)) (
  And.intro (sd_newa1 (by decide +kernel) wa_1 (by decide +kernel)) (
  And.intro (sd_putR cf7 (by decide) (by decide) (Or.inl ⟨_, rfl⟩) rfl (by decide +kernel) (by decide +kernel) wf_7_40 (by decide +kernel) (by decide +kernel)) (
  And.intro (sd_aload_n (k := 0) rfl (by decide +kernel) (by decide +kernel)) (
  And.intro (sd_iconst (n := 3) (by decide) (by decide +kernel) (by decide +kernel)) (
  And.intro (sd_newa1 (by decide +kernel) wa_1 (by decide +kernel)) (
  And.intro (sd_putR cf7 (by decide) (by decide) (Or.inl ⟨_, rfl⟩) rfl (by decide +kernel) (by decide +kernel) wf_7_43 (by decide +kernel) (by decide +kernel)) (
  And.intro (sd_aload_n (k := 0) rfl (by decide +kernel) (by decide +kernel)) (
  And.intro (sd_iconst (n := 3) (by decide) (by decide +kernel) (by decide +kernel)) (
  And.intro (sd_newa1 (by decide +kernel) wa_1 (by decide +kernel)) (
  And.intro (sd_putR cf7 (by decide) (by decide) (Or.inl ⟨_, rfl⟩) rfl (by decide +kernel) (by decide +kernel) wf_7_46 (by decide +kernel) (by decide +kernel)) (
  And.intro (sd_aload_n (k := 0) rfl (by decide +kernel) (by decide +kernel)) (
  And.intro (sd_bipush (n := 10) (by decide) (by decide +kernel) (by decide +kernel)) (
  And.intro (sd_newa1 (by decide +kernel) wa_1 (by decide +kernel)) (
  And.intro (sd_putR cf7 (by decide) (by decide) (Or.inl ⟨_, rfl⟩) rfl (by decide +kernel) (by decide +kernel) wf_7_49 (by decide +kernel) (by decide +kernel)) (
  And.intro (sd_aload_n (k := 0) rfl (by decide +kernel) (by decide +kernel)) (
  And.intro (sd_bipush (n := 10) (by decide) (by decide +kernel) (by decide +kernel)) (
  And.intro (sd_newa1 (by decide +kernel) wa_1 (by decide +kernel)) (
  And.intro (sd_putR cf7 (by decide) (by decide) (Or.inl ⟨_, rfl⟩) rfl (by decide +kernel) (by decide +kernel) wf_7_52 (by decide +kernel) (by decide +kernel)) (
  And.intro (sd_aload_n (k := 0) rfl (by decide +kernel) (by decide +kernel)) (
  And.intro (sd_bipush (n := 10) (by decide) (by decide +kernel) (by decide +kernel)) (
  And.intro (sd_newa1 (by decide +kernel) wa_1 (by decide +kernel)) (
  And.intro (sd_putR cf7 (by decide) (by decide) (Or.inl ⟨_, rfl⟩) rfl (by decide +kernel) (by decide +kernel) wf_7_55 (by decide +kernel) (by decide +kernel)) (
  And.intro (sd_aload_n (k := 0) rfl (by decide +kernel) (by decide +kernel)) (
  And.intro (sd_iconst (n := 3) (by decide) (by decide +kernel) (by decide +kernel)) (
  And.intro (sd_newa1 (by decide +kernel) wa_1 (by decide +kernel)) (
  And.intro (sd_putR cf7 (by decide) (by decide) (Or.inl ⟨_, rfl⟩) rfl (by decide +kernel) (by decide +kernel) wf_7_58 (by decide +kernel) (by decide +kernel)) (
  And.intro (sd_aload_n (k := 0) rfl (by decide +kernel) (by decide +kernel)) (
  And.intro (sd_iconst (n := 5) (by decide) (by decide +kernel) (by decide +kernel)) (
  And.intro (sd_newa1 (by decide +kernel) wa_1 (by decide +kernel)) (
  And.intro (sd_putR cf7 (by decide) (by decide) (Or.inl ⟨_, rfl⟩) rfl (by decide +kernel) (by decide +kernel) wf_7_61 (by decide +kernel) (by decide +kernel)) (
  And.intro (sd_aload_n (k := 0) rfl (by decide +kernel) (by decide +kernel)) (
  And.intro (sd_bipush (n := 8) (by decide) (by decide +kernel) (by decide +kernel)) (
  And.intro (sd_newa1 (by decide +kernel) wa_1 (by decide +kernel)) (
  And.intro (sd_putR cf7 (by decide) (by decide) (Or.inl ⟨_, rfl⟩) rfl (by decide +kernel) (by decide +kernel) wf_7_64 (by decide +kernel) (by decide +kernel)) (
  And.intro (sd_aload_n (k := 0) rfl (by decide +kernel) (by decide +kernel)) (
  And.intro (sd_bipush (n := 64) (by decide) (by decide +kernel) (by decide +kernel)) (
  And.intro (sd_newa1 (by decide +kernel) wa_1 (by decide +kernel)) (
  And.intro (sd_putR cf7 (by decide) (by decide) (Or.inl ⟨_, rfl⟩) rfl (by decide +kernel) (by decide +kernel) wf_7_67 (by decide +kernel) (by decide +kernel)) (
  And.intro (sd_aload_n (k := 0) rfl (by decide +kernel) (by decide +kernel)) (
  And.intro (sd_bipush (n := 6) (by decide) (by decide +kernel) (by decide +kernel)) (
  And.intro (sd_newa1 (by decide +kernel) wa_1 (by decide +kernel)) (
  And.intro (sd_putR cf7 (by decide) (by decide) (Or.inl ⟨_, rfl⟩) rfl (by decide +kernel) (by decide +kernel) wf_7_70 (by decide +kernel) (by decide +kernel)) (
  And.intro (sd_aload_n (k := 0) rfl (by decide +kernel) (by decide +kernel)) (
  And.intro (sd_bipush (n := 6) (by decide) (by decide +kernel) (by decide +kernel)) (
  And.intro (sd_newa1 (by decide +kernel) wa_1 (by decide +kernel)) (
  And.intro (sd_putR cf7 (by decide) (by decide) (Or.inl ⟨_, rfl⟩) rfl (by decide +kernel) (by decide +kernel) wf_7_73 (by decide +kernel) (by decide +kernel)) (
  And.intro (sd_aload_n (k := 0) rfl (by decide +kernel) (by decide +kernel)) (
  And.intro (sd_bipush (n := 6) (by decide) (by decide +kernel) (by decide +kernel)) (
  And.intro (sd_newa1 (by decide +kernel) wa_1 (by decide +kernel)) (
  And.intro (sd_putR cf7 (by decide) (by decide) (Or.inl ⟨_, rfl⟩) rfl (by decide +kernel) (by decide +kernel) wf_7_76 (by decide +kernel) (by decide +kernel)) (
  And.intro (sd_aload_n (k := 0) rfl (by decide +kernel) (by decide +kernel)) (
  And.intro (sd_iconst (n := 3) (by decide) (by decide +kernel) (by decide +kernel)) (
  And.intro (sd_newa1 (by decide +kernel) wa_1 (by decide +kernel)) (
  And.intro (sd_putR cf7 (by decide) (by decide) (Or.inl ⟨_, rfl⟩) rfl (by decide +kernel) (by decide +kernel) wf_7_79 (by decide +kernel) (by decide +kernel)) (
  And.intro (sd_aload_n (k := 0) rfl (by decide +kernel) (by decide +kernel)) (
  And.intro (sd_bipush (n := 11) (by decide) (by decide +kernel) (by decide +kernel)) (
  And.intro (sd_putI cf7 (by decide) (by decide) rfl rfl wf_7_82 (by decide +kernel) (by decide +kernel)) (
  And.intro (sd_aload_n (k := 0) rfl (by decide +kernel) (by decide +kernel)) (
  And.intro (sd_sipush (n := 400) (by decide) (by decide +kernel) (by decide +kernel)) (
  And.intro (sd_newa2 (by decide +kernel) wa_2 (by decide +kernel)) (
  And.intro (sd_putR cf7 (by decide) (by decide) (Or.inl ⟨_, rfl⟩) rfl (by decide +kernel) (by decide +kernel) wf_7_86 (by decide +kernel) (by decide +kernel)) (
  And.intro (sd_aload_n (k := 0) rfl (by decide +kernel) (by decide +kernel)) (
  And.intro (sd_sipush (n := 1800) (by decide) (by decide +kernel) (by decide +kernel)) (
  And.intro (sd_newa1 (by decide +kernel) wa_1 (by decide +kernel)) (
  And.intro (sd_putR cf7 (by decide) (by decide) (Or.inl ⟨_, rfl⟩) rfl (by decide +kernel) (by decide +kernel) wf_7_90 (by decide +kernel) (by decide +kernel)) (
  And.intro (sd_aload_n (k := 0) rfl (by decide +kernel) (by decide +kernel)) (
  And.intro (sd_sipush (n := 1800) (by decide) (by decide +kernel) (by decide +kernel)) (
  And.intro (sd_newa1 (by decide +kernel) wa_1 (by decide +kernel)) (
  And.intro (sd_putR cf7 (by decide) (by decide) (Or.inl ⟨_, rfl⟩) rfl (by decide +kernel) (by decide +kernel) wf_7_93 (by decide +kernel) (by decide +kernel)) (
  And.intro (sd_aload_n (k := 0) rfl (by decide +kernel) (by decide +kernel)) (
  And.intro (sd_bipush (n := 6) (by decide) (by decide +kernel) (by decide +kernel)) (
  And.intro (sd_newa1 (by decide +kernel) wa_1 (by decide +kernel)) (
  And.intro (sd_putR cf7 (by decide) (by decide) (Or.inl ⟨_, rfl⟩) rfl (by decide +kernel) (by decide +kernel) wf_7_96 (by decide +kernel) (by decide +kernel)) (
  And.intro (sd_aload_n (k := 0) rfl (by decide +kernel) (by decide +kernel)) (
  And.intro (sd_bipush (n := 72) (by decide) (by decide +kernel) (by decide +kernel)) (
  And.intro (sd_newa1 (by decide +kernel) wa_1 (by decide +kernel)) (
  And.intro (sd_putR cf7 (by decide) (by decide) (Or.inl ⟨_, rfl⟩) rfl (by decide +kernel) (by decide +kernel) wf_7_99 (by decide +kernel) (by decide +kernel)) (
  And.intro (sd_aload_n (k := 0) rfl (by decide +kernel) (by decide +kernel)) (
  And.intro (sd_bipush (n := 72) (by decide) (by decide +kernel) (by decide +kernel)) (
  And.intro (sd_newa1 (by decide +kernel) wa_1 (by decide +kernel)) (
  And.intro (sd_putR cf7 (by decide) (by decide) (Or.inl ⟨_, rfl⟩) rfl (by decide +kernel) (by decide +kernel) wf_7_102 (by decide +kernel) (by decide +kernel)) (
  And.intro (sd_aload_n (k := 0) rfl (by decide +kernel) (by decide +kernel)) (
  And.intro (sd_bipush (n := 72) (by decide) (by decide +kernel) (by decide +kernel)) (
  And.intro (sd_newa1 (by decide +kernel) wa_1 (by decide +kernel)) (
  And.intro (sd_putR cf7 (by decide) (by decide) (Or.inl ⟨_, rfl⟩) rfl (by decide +kernel) (by decide +kernel) wf_7_105 (by decide +kernel) (by decide +kernel)) (
  And.intro (sd_aload_n (k := 0) rfl (by decide +kernel) (by decide +kernel)) (
  And.intro (sd_sipush (n := 402) (by decide) (by decide +kernel) (by decide +kernel)) (
  And.intro (sd_newa1 (by decide +kernel) wa_1 (by decide +kernel)) (
  And.intro (sd_putR cf7 (by decide) (by decide) (Or.inl ⟨_, rfl⟩) rfl (by decide +kernel) (by decide +kernel) wf_7_108 (by decide +kernel) (by decide +kernel)) (
  And.intro (sd_aload_n (k := 0) rfl (by decide +kernel) (by decide +kernel)) (
  And.intro (sd_bipush (n := 11) (by decide) (by decide +kernel) (by decide +kernel)) (
  And.intro (sd_newa4 (by decide +kernel) wa_4 (by decide +kernel)) (
  And.intro (sd_putR cf7 (by decide) (by decide) (Or.inl ⟨_, rfl⟩) rfl (by decide +kernel) (by decide +kernel) wf_7_111 (by decide +kernel) (by decide +kernel)) (
  And.intro (sd_aload_n (k := 0) rfl (by decide +kernel) (by decide +kernel)) (
  And.intro (sd_sipush (n := 300) (by decide) (by decide +kernel) (by decide +kernel)) (
  And.intro (sd_newa4 (by decide +kernel) wa_4 (by decide +kernel)) (
  And.intro (sd_putR cf7 (by decide) (by decide) (Or.inl ⟨_, rfl⟩) rfl (by decide +kernel) (by decide +kernel) wf_7_115 (by decide +kernel) (by decide +kernel)) (
  And.intro (sd_aload_n (k := 0) rfl (by decide +kernel) (by decide +kernel)) (
  And.intro (sd_sipush (n := 580) (by decide) (by decide +kernel) (by decide +kernel)) (
  And.intro (sd_newa1 (by decide +kernel) wa_1 (by decide +kernel)) (
  And.intro (sd_putR cf7 (by decide) (by decide) (Or.inl ⟨_, rfl⟩) rfl (by decide +kernel) (by decide +kernel) wf_7_118 (by decide +kernel) (by decide +kernel)) (
  And.intro (sd_aload_n (k := 0) rfl (by decide +kernel) (by decide +kernel)) (
  And.intro (sd_iconst (n := 1) (by decide) (by decide +kernel) (by decide +kernel)) (
  And.intro (sd_newa1 (by decide +kernel) wa_1 (by decide +kernel)) (
  And.intro (sd_putR cf7 (by decide) (by decide) (Or.inl ⟨_, rfl⟩) rfl (by decide +kernel) (by decide +kernel) wf_7_121 (by decide +kernel) (by decide +kernel)) (
  And.intro (sd_aload_n (k := 0) rfl (by decide +kernel) (by decide +kernel)) (
  And.intro (sd_sipush (n := 384) (by decide) (by decide +kernel) (by decide +kernel)) (
  And.intro (sd_newa1 (by decide +kernel) wa_1 (by decide +kernel)) (
  And.intro (sd_putR cf7 (by decide) (by decide) (Or.inl ⟨_, rfl⟩) rfl (by decide +kernel) (by decide +kernel) wf_7_124 (by decide +kernel) (by decide +kernel)) (
  And.intro (sd_aload_n (k := 0) rfl (by decide +kernel) (by decide +kernel)) (
  And.intro (sd_sipush (n := 192) (by decide) (by decide +kernel) (by decide +kernel)) (
  And.intro (sd_newa1 (by decide +kernel) wa_1 (by decide +kernel)) (
  And.intro (sd_putR cf7 (by decide) (by decide) (Or.inl ⟨_, rfl⟩) rfl (by decide +kernel) (by decide +kernel) wf_7_127 (by decide +kernel) (by decide +kernel)) (
  And.intro (sd_aload_n (k := 0) rfl (by decide +kernel) (by decide +kernel)) (
  And.intro (sd_bipush (n := 6) (by decide) (by decide +kernel) (by decide +kernel)) (
  And.intro (sd_newa1 (by decide +kernel) wa_1 (by decide +kernel)) (
  And.intro (sd_putR cf7 (by decide) (by decide) (Or.inl ⟨_, rfl⟩) rfl (by decide +kernel) (by decide +kernel) wf_7_130 (by decide +kernel) (by decide +kernel)) (
  And.intro (sd_aload_n (k := 0) rfl (by decide +kernel) (by decide +kernel)) (
  And.intro (sd_bipush (n := 6) (by decide) (by decide +kernel) (by decide +kernel)) (
  And.intro (sd_newa1 (by decide +kernel) wa_1 (by decide +kernel)) (
  And.intro (sd_putR cf7 (by decide) (by decide) (Or.inl ⟨_, rfl⟩) rfl (by decide +kernel) (by decide +kernel) wf_7_133 (by decide +kernel) (by decide +kernel)) (
  And.intro (sd_aload_n (k := 0) rfl (by decide +kernel) (by decide +kernel)) (
  And.intro (sd_iconst (n := 3) (by decide) (by decide +kernel) (by decide +kernel)) (
  And.intro (sd_newa1 (by decide +kernel) wa_1 (by decide +kernel)) (
  And.intro (sd_putR cf7 (by decide) (by decide) (Or.inl ⟨_, rfl⟩) rfl (by decide +kernel) (by decide +kernel) wf_7_136 (by decide +kernel) (by decide +kernel)) (
  And.intro (sd_aload_n (k := 0) rfl (by decide +kernel) (by decide +kernel)) (
  And.intro (sd_iconst (n := 3) (by decide) (by decide +kernel) (by decide +kernel)) (
  And.intro (sd_newa1 (by decide +kernel) wa_1 (by decide +kernel)) (
  And.intro (sd_putR cf7 (by decide) (by decide) (Or.inl ⟨_, rfl⟩) rfl (by decide +kernel) (by decide +kernel) wf_7_139 (by decide +kernel) (by decide +kernel)) (
  And.intro (sd_aload_n (k := 0) rfl (by decide +kernel) (by decide +kernel)) (
  And.intro (sd_bipush (n := 27) (by decide) (by decide +kernel) (by decide +kernel)) (
  And.intro (sd_newa1 (by decide +kernel) wa_1 (by decide +kernel)) (
  And.intro (sd_putR cf7 (by decide) (by decide) (Or.inl ⟨_, rfl⟩) rfl (by decide +kernel) (by decide +kernel) wf_7_142 (by decide +kernel) (by decide +kernel)) (
  And.intro (sd_aload_n (k := 0) rfl (by decide +kernel) (by decide +kernel)) (
  And.intro (sd_sipush (n := 4250) (by decide) (by decide +kernel) (by decide +kernel)) (
  And.intro (sd_newa1 (by decide +kernel) wa_1 (by decide +kernel)) (
  And.intro (sd_putR cf7 (by decide) (by decide) (Or.inl ⟨_, rfl⟩) rfl (by decide +kernel) (by decide +kernel) wf_7_145 (by decide +kernel) (by decide +kernel)) (
  And.intro (sd_aload_n (k := 0) rfl (by decide +kernel) (by decide +kernel)) (
  And.intro (sd_iconst (n := 4) (by decide) (by decide +kernel) (by decide +kernel)) (
  And.intro (sd_newa3 (by decide +kernel) wa_3 (by decide +kernel)) (
  And.intro (sd_putR cf7 (by decide) (by decide) (Or.inl ⟨_, rfl⟩) rfl (by decide +kernel) (by decide +kernel) wf_7_148 (by decide +kernel) (by decide +kernel)) (
  And.intro (sd_aload_n (k := 0) rfl (by decide +kernel) (by decide +kernel)) (
  And.intro (sd_iconst (n := 4) (by decide) (by decide +kernel) (by decide +kernel)) (
  And.intro (sd_newa3 (by decide +kernel) wa_3 (by decide +kernel)) (
  And.intro (sd_putR cf7 (by decide) (by decide) (Or.inl ⟨_, rfl⟩) rfl (by decide +kernel) (by decide +kernel) wf_7_152 (by decide +kernel) (by decide +kernel)) (
  And.intro (sd_vret (by decide +kernel) rfl) (
  trivial))))))))))))))))))))))))))))))))))))))))))))))))))))))))))))))))))))))))))))))))))))))))))))))))))))))))))))))))))))))))))))))))))))))))))))))))))))))))))))))))))))))))))))))))))))))))))))))))))))))))))))))))))))))))))))))))))))))))))))))))))
set_option maxRecDepth 100000 in
set_option maxHeartbeats 8000000 in
theorem sn_130 : Sns 130 0 tMo_in := And.intro (sd_lload_n (k := 0) rfl (by decide +kernel) (by decide +kernel)) (
  And.intro (sd_lload_n (k := 2) rfl (by decide +kernel) (by decide +kernel)) (
  And.intro (sd_lcmp (by decide +kernel) (by decide +kernel)) (
  And.intro (sd_zlt (off := 14) (by decide +kernel) (by decide +kernel) (by decide +kernel)) (
  And.intro (sd_lload_n (k := 0) rfl (by decide +kernel) (by decide +kernel)) (
  And.intro (sd_lload (by decide +kernel) (by decide +kernel)) (
  And.intro (sd_lcmp (by decide +kernel) (by decide +kernel)) (
  And.intro (sd_zgt (off := 7) (by decide +kernel) (by decide +kernel) (by decide +kernel)) (
  And.intro (sd_iconst (n := 1) (by decide) (by decide +kernel) (by decide +kernel)) (
  And.intro (sd_go (off := 4) (by decide +kernel) (by decide +kernel)) (
  And.intro (sd_iconst (n := 0) (by decide) (by decide +kernel) (by decide +kernel)) (
  And.intro (sd_zret (by decide +kernel) rfl) (
  trivial))))))))))))
set_option maxRecDepth 100000 in
set_option maxHeartbeats 8000000 in
theorem sn_131 : Sns 131 0 tMo_bits := And.intro (sd_iconst (n := 0) (by decide) (by decide +kernel) (by decide +kernel)) (
  And.intro (sd_istore_n (k := 1) rfl (by decide) (by decide +kernel) (by decide +kernel)) (
  And.intro (sd_iconst (n := 0) (by decide) (by decide +kernel) (by decide +kernel)) (
  And.intro (sd_istore_n (k := 2) rfl (by decide) (by decide +kernel) (by decide +kernel)) (
  And.intro (sd_ms _ (sd_iload_n (k := 2) rfl (by decide +kernel) (by decide +kernel))) (
  And.intro (sd_bipush (n := 16) (by decide) (by decide +kernel) (by decide +kernel)) (
  And.intro (sd_ige (off := 17) (by decide +kernel) (by decide +kernel) (by decide +kernel)) (
  And.intro (sd_iload_n (k := 1) rfl (by decide +kernel) (by decide +kernel)) (
  And.intro (sd_iload_n (k := 0) rfl (by decide +kernel) (by decide +kernel)) (
  And.intro (sd_iload_n (k := 2) rfl (by decide +kernel) (by decide +kernel)) (
  And.intro (sd_ishr (by decide +kernel) (by decide +kernel)) (
  And.intro (sd_iconst (n := 1) (by decide) (by decide +kernel) (by decide +kernel)) (
  And.intro (sd_iand (by decide +kernel) (by decide +kernel)) (
  And.intro (sd_iadd (by decide +kernel) (by decide +kernel)) (
  And.intro (sd_istore_n (k := 1) rfl (by decide) (by decide +kernel) (by decide +kernel)) (
  And.intro (sd_iinc (n := 1) (by decide) (by decide) (by decide +kernel) (by decide +kernel)) (
  And.intro (sd_go (off := (-17)) (by decide +kernel) (by decide +kernel)) (
  And.intro (sd_iload_n (k := 1) rfl (by decide +kernel) (by decide +kernel)) (
  And.intro (sd_iret (by decide +kernel) rfl) (
  trivial)))))))))))))))))))
set_option maxRecDepth 100000 in
set_option maxHeartbeats 8000000 in
theorem sn_132 : Sns 132 0 tMo_has := And.intro (sd_iload_n (k := 0) rfl (by decide +kernel) (by decide +kernel)) (
  And.intro (sd_iload_n (k := 1) rfl (by decide +kernel) (by decide +kernel)) (
  And.intro (sd_ishr (by decide +kernel) (by decide +kernel)) (
  And.intro (sd_iconst (n := 1) (by decide) (by decide +kernel) (by decide +kernel)) (
  And.intro (sd_iand (by decide +kernel) (by decide +kernel)) (
  And.intro (sd_iconst (n := 1) (by decide) (by decide +kernel) (by decide +kernel)) (
  And.intro (sd_ine (off := 7) (by decide +kernel) (by decide +kernel) (by decide +kernel)) (
  And.intro (sd_iconst (n := 1) (by decide) (by decide +kernel) (by decide +kernel)) (
  And.intro (sd_go (off := 4) (by decide +kernel) (by decide +kernel)) (
  And.intro (sd_iconst (n := 0) (by decide) (by decide +kernel) (by decide +kernel)) (
  And.intro (sd_zret (by decide +kernel) rfl) (
  trivial)))))))))))
set_option maxRecDepth 100000 in
set_option maxHeartbeats 8000000 in
theorem sn_133 : Sns 133 0 tMo_isTown := And.intro (sd_iload_n (k := 1) rfl (by decide +kernel) (by decide +kernel)) (
  And.intro (sd_i2l (by decide +kernel) (by decide +kernel)) (
  And.intro (sd_lconst (n := 0) (by decide) (by decide +kernel) (by decide +kernel)) (
  And.intro (sd_aload_n (k := 0) rfl (by decide +kernel) (by decide +kernel)) (
  And.intro (sd_getR cf7 (by decide) (by decide) wf_7_9 (by decide +kernel) (by decide +kernel)) (
  And.intro (sd_iconst (n := 1) (by decide) (by decide +kernel) (by decide +kernel)) (
  And.intro (sd_iald (by decide +kernel) (by decide +kernel)) (
  And.intro (sd_iconst (n := 1) (by decide) (by decide +kernel) (by decide +kernel)) (
  And.intro (sd_isub (by decide +kernel) (by decide +kernel)) (
  And.intro (sd_i2l (by decide +kernel) (by decide +kernel)) (
  And.intro (sd_SI mg_130 (by decide +kernel) wm_7_158 wt_130 (by decide +kernel)) (
  And.intro (sd_zret (by decide +kernel) rfl) (
  trivial))))))))))))
set_option maxRecDepth 100000 in
set_option maxHeartbeats 8000000 in
theorem sn_134 : Sns 134 0 tMo_isSentence := And.intro (sd_iload_n (k := 1) rfl (by decide +kernel) (by decide +kernel)) (
  And.intro (sd_i2l (by decide +kernel) (by decide +kernel)) (
  And.intro (sd_lconst (n := 0) (by decide) (by decide +kernel) (by decide +kernel)) (
  And.intro (sd_aload_n (k := 0) rfl (by decide +kernel) (by decide +kernel)) (
  And.intro (sd_getR cf7 (by decide) (by decide) wf_7_9 (by decide +kernel) (by decide +kernel)) (
  And.intro (sd_iconst (n := 3) (by decide) (by decide +kernel) (by decide +kernel)) (
  And.intro (sd_iald (by decide +kernel) (by decide +kernel)) (
  And.intro (sd_iconst (n := 1) (by decide) (by decide +kernel) (by decide +kernel)) (
  And.intro (sd_isub (by decide +kernel) (by decide +kernel)) (
  And.intro (sd_i2l (by decide +kernel) (by decide +kernel)) (
  And.intro (sd_SI mg_130 (by decide +kernel) wm_7_158 wt_130 (by decide +kernel)) (
  And.intro (sd_zret (by decide +kernel) rfl) (
  trivial))))))))))))
set_option maxRecDepth 100000 in
set_option maxHeartbeats 8000000 in
theorem sn_135 : Sns 135 0 tMo_isWalker := And.intro (sd_iload_n (k := 1) rfl (by decide +kernel) (by decide +kernel)) (
  And.intro (sd_i2l (by decide +kernel) (by decide +kernel)) (
  And.intro (sd_lconst (n := 0) (by decide) (by decide +kernel) (by decide +kernel)) (
  And.intro (sd_aload_n (k := 0) rfl (by decide +kernel) (by decide +kernel)) (
  And.intro (sd_getR cf7 (by decide) (by decide) wf_7_9 (by decide +kernel) (by decide +kernel)) (
  And.intro (sd_iconst (n := 4) (by decide) (by decide +kernel) (by decide +kernel)) (
  And.intro (sd_iald (by decide +kernel) (by decide +kernel)) (
  And.intro (sd_iconst (n := 1) (by decide) (by decide +kernel) (by decide +kernel)) (
  And.intro (sd_isub (by decide +kernel) (by decide +kernel)) (
  And.intro (sd_i2l (by decide +kernel) (by decide +kernel)) (
  And.intro (sd_SI mg_130 (by decide +kernel) wm_7_158 wt_130 (by decide +kernel)) (
  And.intro (sd_zret (by decide +kernel) rfl) (
  trivial))))))))))))
set_option maxRecDepth 100000 in
set_option maxHeartbeats 8000000 in
theorem sn_136 : Sns 136 0 tMo_feed := And.intro (sd_aload_n (k := 0) rfl (by decide +kernel) (by decide +kernel)) (
  And.intro (sd_getI cf7 (by decide) (by decide) wf_7_162 (by decide +kernel) (by decide +kernel)) (
  And.intro (sd_bipush (n := 20) (by decide) (by decide +kernel) (by decide +kernel)) (
  And.intro (sd_iadd (by decide +kernel) (by decide +kernel)) (
  And.intro (sd_sipush (n := 400) (by decide) (by decide +kernel) (by decide +kernel)) (
  And.intro (sd_ile (off := 5) (by decide +kernel) (by decide +kernel) (by decide +kernel)) (
  And.intro (sd_iconst (n := (-1)) (by decide) (by decide +kernel) (by decide +kernel)) (
  And.intro (sd_iret (by decide +kernel) rfl) (
  And.intro (sd_aload_n (k := 0) rfl (by decide +kernel) (by decide +kernel)) (
  And.intro (sd_iload_n (k := 1) rfl (by decide +kernel) (by decide +kernel)) (
  And.intro (sd_VV mg_137 (by decide +kernel) wm_7_165 wn_137 wv_137 rfl rfl (by decide +kernel)) (
  And.intro (sd_aload_n (k := 0) rfl (by decide +kernel) (by decide +kernel)) (
  And.intro (sd_iload_n (k := 2) rfl (by decide +kernel) (by decide +kernel)) (
  And.intro (sd_VV mg_137 (by decide +kernel) wm_7_165 wn_137 wv_137 rfl rfl (by decide +kernel)) (
  And.intro (sd_aload_n (k := 0) rfl (by decide +kernel) (by decide +kernel)) (
  And.intro (sd_iload_n (k := 3) rfl (by decide +kernel) (by decide +kernel)) (
  And.intro (sd_VV mg_137 (by decide +kernel) wm_7_165 wn_137 wv_137 rfl rfl (by decide +kernel)) (
  And.intro (sd_aload_n (k := 0) rfl (by decide +kernel) (by decide +kernel)) (
  And.intro (sd_iload (by decide +kernel) (by decide +kernel)) (
  And.intro (sd_VV mg_137 (by decide +kernel) wm_7_165 wn_137 wv_137 rfl rfl (by decide +kernel)) (
  And.intro (sd_aload_n (k := 0) rfl (by decide +kernel) (by decide +kernel)) (
  And.intro (sd_iload (by decide +kernel) (by decide +kernel)) (
  And.intro (sd_VV mg_137 (by decide +kernel) wm_7_165 wn_137 wv_137 rfl rfl (by decide +kernel)) (
  And.intro (sd_aload_n (k := 0) rfl (by decide +kernel) (by decide +kernel)) (
  And.intro (sd_getI cf7 (by decide) (by decide) wf_7_162 (by decide +kernel) (by decide +kernel)) (
  And.intro (sd_iret (by decide +kernel) rfl) (
  trivial))))))))))))))))))))))))))
set_option maxRecDepth 100000 in
set_option maxHeartbeats 8000000 in
theorem sn_137 : Sns 137 0 tMo_put := And.intro (sd_bipush (n := 24) (by decide) (by decide +kernel) (by decide +kernel)) (
  And.intro (sd_istore_n (k := 2) rfl (by decide) (by decide +kernel) (by decide +kernel)) (
  And.intro (sd_ms _ (sd_iload_n (k := 2) rfl (by decide +kernel) (by decide +kernel))) (
  And.intro (sd_zlt (off := 32) (by decide +kernel) (by decide +kernel) (by decide +kernel)) (
  And.intro (sd_aload_n (k := 0) rfl (by decide +kernel) (by decide +kernel)) (
  And.intro (sd_getR cf7 (by decide) (by decide) wf_7_86 (by decide +kernel) (by decide +kernel)) (
  And.intro (sd_aload_n (k := 0) rfl (by decide +kernel) (by decide +kernel)) (
  And.intro (sd_getI cf7 (by decide) (by decide) wf_7_162 (by decide +kernel) (by decide +kernel)) (
  And.intro (sd_iload_n (k := 1) rfl (by decide +kernel) (by decide +kernel)) (
  And.intro (sd_iload_n (k := 2) rfl (by decide +kernel) (by decide +kernel)) (
  And.intro (sd_ishr (by decide +kernel) (by decide +kernel)) (
  And.intro (sd_i2b (by decide +kernel) (by decide +kernel)) (
  And.intro (sd_bast (by decide +kernel) (by decide +kernel)) (
  And.intro (sd_aload_n (k := 0) rfl (by decide +kernel) (by decide +kernel)) (
  And.intro (sd_dup (by decide +kernel) (by decide +kernel)) (
  And.intro (sd_getI cf7 (by decide) (by decide) wf_7_162 (by decide +kernel) (by decide +kernel)) (
  And.intro (sd_iconst (n := 1) (by decide) (by decide +kernel) (by decide +kernel)) (
  And.intro (sd_iadd (by decide +kernel) (by decide +kernel)) (
  And.intro (sd_putI cf7 (by decide) (by decide) rfl rfl wf_7_162 (by decide +kernel) (by decide +kernel)) (
  And.intro (sd_iinc (n := (-8)) (by decide) (by decide) (by decide +kernel) (by decide +kernel)) (
  And.intro (sd_go (off := (-30)) (by decide +kernel) (by decide +kernel)) (
  And.intro (sd_vret (by decide +kernel) rfl) (
  trivial))))))))))))))))))))))
set_option maxRecDepth 100000 in
set_option maxHeartbeats 8000000 in
theorem sn_138 : Sns 138 0 tMo_end := And.intro (sd_iload_n (k := 1) rfl (by decide +kernel) (by decide +kernel)) (
  And.intro (sd_zlt (off := 11) (by decide +kernel) (by decide +kernel) (by decide +kernel)) (
  And.intro (sd_iload_n (k := 1) rfl (by decide +kernel) (by decide +kernel)) (
  And.intro (sd_aload_n (k := 0) rfl (by decide +kernel) (by decide +kernel)) (
  And.intro (sd_getI cf7 (by decide) (by decide) wf_7_162 (by decide +kernel) (by decide +kernel)) (
  And.intro (sd_ile (off := 5) (by decide +kernel) (by decide +kernel) (by decide +kernel)) (
  And.intro (sd_iconst (n := (-1)) (by decide) (by decide +kernel) (by decide +kernel)) (
  And.intro (sd_iret (by decide +kernel) rfl) (
  And.intro (sd_aload_n (k := 0) rfl (by decide +kernel) (by decide +kernel)) (
  And.intro (sd_iload_n (k := 1) rfl (by decide +kernel) (by decide +kernel)) (
  And.intro (sd_putI cf7 (by decide) (by decide) rfl rfl wf_7_162 (by decide +kernel) (by decide +kernel)) (
  And.intro (sd_iload_n (k := 1) rfl (by decide +kernel) (by decide +kernel)) (
  And.intro (sd_iret (by decide +kernel) rfl) (
  trivial)))))))))))))
set_option maxRecDepth 100000 in
set_option maxHeartbeats 8000000 in
theorem sn_139 : Sns 139 0 tMo_wordOf := And.intro (sd_iload_n (k := 0) rfl (by decide +kernel) (by decide +kernel)) (
  And.intro (sd_tab (len := 55) (dflt := 85) (lo := 0) (hi := 9) (offs := #[55, 58, 61, 64, 67, 70, 73, 76, 79, 82]) (by decide +kernel) (by decide +kernel) (by decide +kernel) (by decide +kernel)) (
  And.intro (sd_ldcS (idx := 169) (by decide +kernel) (by decide +kernel) (by decide +kernel)) (
  And.intro (sd_aret (by decide +kernel) ⟨_, rfl⟩) (
  And.intro (sd_ldcS (idx := 171) (by decide +kernel) (by decide +kernel) (by decide +kernel)) (
  And.intro (sd_aret (by decide +kernel) ⟨_, rfl⟩) (
  And.intro (sd_ldcS (idx := 173) (by decide +kernel) (by decide +kernel) (by decide +kernel)) (
  And.intro (sd_aret (by decide +kernel) ⟨_, rfl⟩) (
  And.intro (sd_ldcS (idx := 175) (by decide +kernel) (by decide +kernel) (by decide +kernel)) (
  And.intro (sd_aret (by decide +kernel) ⟨_, rfl⟩) (
  And.intro (sd_ldcS (idx := 176) (by decide +kernel) (by decide +kernel) (by decide +kernel)) (
  And.intro (sd_aret (by decide +kernel) ⟨_, rfl⟩) (
  And.intro (sd_ldcS (idx := 177) (by decide +kernel) (by decide +kernel) (by decide +kernel)) (
  And.intro (sd_aret (by decide +kernel) ⟨_, rfl⟩) (
  And.intro (sd_ldcS (idx := 179) (by decide +kernel) (by decide +kernel) (by decide +kernel)) (
  And.intro (sd_aret (by decide +kernel) ⟨_, rfl⟩) (
  And.intro (sd_ldcS (idx := 180) (by decide +kernel) (by decide +kernel) (by decide +kernel)) (
  And.intro (sd_aret (by decide +kernel) ⟨_, rfl⟩) (
  And.intro (sd_ldcS (idx := 182) (by decide +kernel) (by decide +kernel) (by decide +kernel)) (
  And.intro (sd_aret (by decide +kernel) ⟨_, rfl⟩) (
  And.intro (sd_ldcS (idx := 184) (by decide +kernel) (by decide +kernel) (by decide +kernel)) (
  And.intro (sd_aret (by decide +kernel) ⟨_, rfl⟩) (
  And.intro (sd_ldcS (idx := 186) (by decide +kernel) (by decide +kernel) (by decide +kernel)) (
  And.intro (sd_aret (by decide +kernel) ⟨_, rfl⟩) (
  trivial))))))))))))))))))))))))
set_option maxRecDepth 100000 in
set_option maxHeartbeats 8000000 in
theorem sn_140 : Sns 140 0 tMo_fails := And.intro (sd_aload_n (k := 0) rfl (by decide +kernel) (by decide +kernel)) (
  And.intro (sd_aload_n (k := 0) rfl (by decide +kernel) (by decide +kernel)) (
  And.intro (sd_getI cf7 (by decide) (by decide) wf_7_188 (by decide +kernel) (by decide +kernel)) (
  And.intro (sd_zne (off := 14) (by decide +kernel) (by decide +kernel) (by decide +kernel)) (
  And.intro (sd_iconst (n := 1) (by decide) (by decide +kernel) (by decide +kernel)) (
  And.intro (sd_bipush (n := 8) (by decide) (by decide +kernel) (by decide +kernel)) (
  And.intro (sd_iload_n (k := 2) rfl (by decide +kernel) (by decide +kernel)) (
  And.intro (sd_imul (by decide +kernel) (by decide +kernel)) (
  And.intro (sd_iadd (by decide +kernel) (by decide +kernel)) (
  And.intro (sd_iload_n (k := 1) rfl (by decide +kernel) (by decide +kernel)) (
  And.intro (sd_iadd (by decide +kernel) (by decide +kernel)) (
  And.intro (sd_go (off := 7) (by decide +kernel) (by decide +kernel)) (
  And.intro (sd_aload_n (k := 0) rfl (by decide +kernel) (by decide +kernel)) (
  And.intro (sd_getI cf7 (by decide) (by decide) wf_7_188 (by decide +kernel) (by decide +kernel)) (
  And.intro (sd_putI cf7 (by decide) (by decide) rfl rfl wf_7_188 (by decide +kernel) (by decide +kernel)) (
  And.intro (sd_vret (by decide +kernel) rfl) (
  trivial))))))))))))))))
set_option maxRecDepth 100000 in
set_option maxHeartbeats 8000000 in
theorem sn_141 : Sns 141 0 tMo_sign := And.intro (sd_aload_n (k := 0) rfl (by decide +kernel) (by decide +kernel)) (
  And.intro (sd_getI cf7 (by decide) (by decide) wf_7_191 (by decide +kernel) (by decide +kernel)) (
  And.intro (sd_aload_n (k := 0) rfl (by decide +kernel) (by decide +kernel)) (
  And.intro (sd_getI cf7 (by decide) (by decide) wf_7_162 (by decide +kernel) (by decide +kernel)) (
  And.intro (sd_ige (off := 19) (by decide +kernel) (by decide +kernel) (by decide +kernel)) (
  And.intro (sd_aload_n (k := 0) rfl (by decide +kernel) (by decide +kernel)) (
  And.intro (sd_getR cf7 (by decide) (by decide) wf_7_86 (by decide +kernel) (by decide +kernel)) (
  And.intro (sd_aload_n (k := 0) rfl (by decide +kernel) (by decide +kernel)) (
  And.intro (sd_getI cf7 (by decide) (by decide) wf_7_191 (by decide +kernel) (by decide +kernel)) (
  And.intro (sd_bald (by decide +kernel) (by decide +kernel)) (
  And.intro (sd_sipush (n := 255) (by decide) (by decide +kernel) (by decide +kernel)) (
  And.intro (sd_iand (by decide +kernel) (by decide +kernel)) (
  And.intro (sd_go (off := 4) (by decide +kernel) (by decide +kernel)) (
  And.intro (sd_iconst (n := (-1)) (by decide) (by decide +kernel) (by decide +kernel)) (
  And.intro (sd_iret (by decide +kernel) rfl) (
  trivial)))))))))))))))
set_option maxRecDepth 100000 in
set_option maxHeartbeats 8000000 in
theorem sn_142 : Sns 142 0 tMo_blanks := And.intro (sd_ms _ (sd_aload_n (k := 0) rfl (by decide +kernel) (by decide +kernel))) (
  And.intro (sd_VI mg_141 (by decide +kernel) wm_7_194 wn_141 wv_141 rfl rfl (by decide +kernel)) (
  And.intro (sd_bipush (n := 32) (by decide) (by decide +kernel) (by decide +kernel)) (
  And.intro (sd_ine (off := 16) (by decide +kernel) (by decide +kernel) (by decide +kernel)) (
  And.intro (sd_aload_n (k := 0) rfl (by decide +kernel) (by decide +kernel)) (
  And.intro (sd_dup (by decide +kernel) (by decide +kernel)) (
  And.intro (sd_getI cf7 (by decide) (by decide) wf_7_191 (by decide +kernel) (by decide +kernel)) (
  And.intro (sd_iconst (n := 1) (by decide) (by decide +kernel) (by decide +kernel)) (
  And.intro (sd_iadd (by decide +kernel) (by decide +kernel)) (
  And.intro (sd_putI cf7 (by decide) (by decide) rfl rfl wf_7_191 (by decide +kernel) (by decide +kernel)) (
  And.intro (sd_go (off := (-19)) (by decide +kernel) (by decide +kernel)) (
  And.intro (sd_vret (by decide +kernel) rfl) (
  trivial))))))))))))
set_option maxRecDepth 100000 in
set_option maxHeartbeats 8000000 in
theorem sn_143 : Sns 143 0 tMo_isDigit := And.intro (sd_aload_n (k := 0) rfl (by decide +kernel) (by decide +kernel)) (
  And.intro (sd_VI mg_141 (by decide +kernel) wm_7_194 wn_141 wv_141 rfl rfl (by decide +kernel)) (
  And.intro (sd_i2l (by decide +kernel) (by decide +kernel)) (
  And.intro (sd_ldc2 wl_7_198 (by decide +kernel) (by decide +kernel)) (
  And.intro (sd_ldc2 wl_7_200 (by decide +kernel) (by decide +kernel)) (
  And.intro (sd_SI mg_130 (by decide +kernel) wm_7_158 wt_130 (by decide +kernel)) (
  And.intro (sd_zret (by decide +kernel) rfl) (
  trivial)))))))
set_option maxRecDepth 100000 in
set_option maxHeartbeats 8000000 in
theorem sn_144 : Sns 144 0 tMo_stood := And.intro (sd_aload_n (k := 0) rfl (by decide +kernel) (by decide +kernel)) (
  And.intro (sd_getI cf7 (by decide) (by decide) wf_7_191 (by decide +kernel) (by decide +kernel)) (
  And.intro (sd_istore_n (k := 2) rfl (by decide) (by decide +kernel) (by decide +kernel)) (
  And.intro (sd_ms _ (sd_iload_n (k := 2) rfl (by decide +kernel) (by decide +kernel))) (
  And.intro (sd_aload_n (k := 0) rfl (by decide +kernel) (by decide +kernel)) (
  And.intro (sd_getI cf7 (by decide) (by decide) wf_7_162 (by decide +kernel) (by decide +kernel)) (
  And.intro (sd_ige (off := 31) (by decide +kernel) (by decide +kernel) (by decide +kernel)) (
  And.intro (sd_aload_n (k := 0) rfl (by decide +kernel) (by decide +kernel)) (
  And.intro (sd_getR cf7 (by decide) (by decide) wf_7_86 (by decide +kernel) (by decide +kernel)) (
  And.intro (sd_iload_n (k := 2) rfl (by decide +kernel) (by decide +kernel)) (
  And.intro (sd_bald (by decide +kernel) (by decide +kernel)) (
  And.intro (sd_bipush (n := 97) (by decide) (by decide +kernel) (by decide +kernel)) (
  And.intro (sd_ilt (off := 20) (by decide +kernel) (by decide +kernel) (by decide +kernel)) (
  And.intro (sd_aload_n (k := 0) rfl (by decide +kernel) (by decide +kernel)) (
  And.intro (sd_getR cf7 (by decide) (by decide) wf_7_86 (by decide +kernel) (by decide +kernel)) (
  And.intro (sd_iload_n (k := 2) rfl (by decide +kernel) (by decide +kernel)) (
  And.intro (sd_bald (by decide +kernel) (by decide +kernel)) (
  And.intro (sd_bipush (n := 122) (by decide) (by decide +kernel) (by decide +kernel)) (
  And.intro (sd_igt (off := 9) (by decide +kernel) (by decide +kernel) (by decide +kernel)) (
  And.intro (sd_iinc (n := 1) (by decide) (by decide) (by decide +kernel) (by decide +kernel)) (
  And.intro (sd_go (off := (-33)) (by decide +kernel) (by decide +kernel)) (
  And.intro (sd_iload_n (k := 2) rfl (by decide +kernel) (by decide +kernel)) (
  And.intro (sd_aload_n (k := 0) rfl (by decide +kernel) (by decide +kernel)) (
  And.intro (sd_getI cf7 (by decide) (by decide) wf_7_191 (by decide +kernel) (by decide +kernel)) (
  And.intro (sd_isub (by decide +kernel) (by decide +kernel)) (
  And.intro (sd_aload_n (k := 1) rfl (by decide +kernel) (by decide +kernel)) (
  And.intro (sd_slen wm_7_202 (by decide +kernel) (by decide +kernel)) (
  And.intro (sd_ine (off := 7) (by decide +kernel) (by decide +kernel) (by decide +kernel)) (
  And.intro (sd_iconst (n := 1) (by decide) (by decide +kernel) (by decide +kernel)) (
  And.intro (sd_go (off := 4) (by decide +kernel) (by decide +kernel)) (
  And.intro (sd_iconst (n := 0) (by decide) (by decide +kernel) (by decide +kernel)) (
  And.intro (sd_istore_n (k := 3) rfl (by decide) (by decide +kernel) (by decide +kernel)) (
  And.intro (sd_iconst (n := 0) (by decide) (by decide +kernel) (by decide +kernel)) (
  And.intro (sd_istore (by decide) (by decide +kernel) (by decide +kernel)) (
  And.intro (sd_ms _ (sd_iload (by decide +kernel) (by decide +kernel))) (
  And.intro (sd_aload_n (k := 1) rfl (by decide +kernel) (by decide +kernel)) (
  And.intro (sd_slen wm_7_202 (by decide +kernel) (by decide +kernel)) (
  And.intro (sd_ige (off := 40) (by decide +kernel) (by decide +kernel) (by decide +kernel)) (
  And.intro (sd_iload_n (k := 3) rfl (by decide +kernel) (by decide +kernel)) (
  And.intro (sd_zeq (off := 36) (by decide +kernel) (by decide +kernel) (by decide +kernel)) (
  And.intro (sd_aload_n (k := 0) rfl (by decide +kernel) (by decide +kernel)) (
  And.intro (sd_getR cf7 (by decide) (by decide) wf_7_86 (by decide +kernel) (by decide +kernel)) (
  And.intro (sd_aload_n (k := 0) rfl (by decide +kernel) (by decide +kernel)) (
  And.intro (sd_getI cf7 (by decide) (by decide) wf_7_191 (by decide +kernel) (by decide +kernel)) (
  And.intro (sd_iload (by decide +kernel) (by decide +kernel)) (
  And.intro (sd_iadd (by decide +kernel) (by decide +kernel)) (
  And.intro (sd_bald (by decide +kernel) (by decide +kernel)) (
  And.intro (sd_aload_n (k := 1) rfl (by decide +kernel) (by decide +kernel)) (
  And.intro (sd_iload (by decide +kernel) (by decide +kernel)) (
  And.intro (sd_schr wm_7_207 (by decide +kernel) (by decide +kernel)) (
  And.intro (sd_ine (off := 7) (by decide +kernel) (by decide +kernel) (by decide +kernel)) (
  And.intro (sd_iconst (n := 1) (by decide) (by decide +kernel) (by decide +kernel)) (
  And.intro (sd_go (off := 4) (by decide +kernel) (by decide +kernel)) (
  And.intro (sd_iconst (n := 0) (by decide) (by decide +kernel) (by decide +kernel)) (
  And.intro (sd_istore_n (k := 3) rfl (by decide) (by decide +kernel) (by decide +kernel)) (
  And.intro (sd_iinc (n := 1) (by decide) (by decide) (by decide +kernel) (by decide +kernel)) (
  And.intro (sd_go (off := (-43)) (by decide +kernel) (by decide +kernel)) (
  And.intro (sd_iload_n (k := 3) rfl (by decide +kernel) (by decide +kernel)) (
  And.intro (sd_zret (by decide +kernel) rfl) (
  trivial)))))))))))))))))))))))))))))))))))))))))))))))))))))))))))
set_option maxRecDepth 100000 in
set_option maxHeartbeats 8000000 in
theorem sn_145 : Sns 145 0 tMo_takes := And.intro (sd_aload_n (k := 0) rfl (by decide +kernel) (by decide +kernel)) (
  And.intro (sd_VV mg_142 (by decide +kernel) wm_7_211 wn_142 wv_142 rfl rfl (by decide +kernel)) (
  And.intro (sd_aload_n (k := 0) rfl (by decide +kernel) (by decide +kernel)) (
  And.intro (sd_aload_n (k := 1) rfl (by decide +kernel) (by decide +kernel)) (
  And.intro (sd_VI mg_144 (by decide +kernel) wm_7_214 wn_144 wv_144 rfl rfl (by decide +kernel)) (
  And.intro (sd_istore_n (k := 2) rfl (by decide) (by decide +kernel) (by decide +kernel)) (
  And.intro (sd_aload_n (k := 0) rfl (by decide +kernel) (by decide +kernel)) (
  And.intro (sd_dup (by decide +kernel) (by decide +kernel)) (
  And.intro (sd_getI cf7 (by decide) (by decide) wf_7_191 (by decide +kernel) (by decide +kernel)) (
  And.intro (sd_iload_n (k := 2) rfl (by decide +kernel) (by decide +kernel)) (
  And.intro (sd_zeq (off := 10) (by decide +kernel) (by decide +kernel) (by decide +kernel)) (
  And.intro (sd_aload_n (k := 1) rfl (by decide +kernel) (by decide +kernel)) (
  And.intro (sd_slen wm_7_202 (by decide +kernel) (by decide +kernel)) (
  And.intro (sd_go (off := 4) (by decide +kernel) (by decide +kernel)) (
  And.intro (sd_iconst (n := 0) (by decide) (by decide +kernel) (by decide +kernel)) (
  And.intro (sd_iadd (by decide +kernel) (by decide +kernel)) (
  And.intro (sd_putI cf7 (by decide) (by decide) rfl rfl wf_7_191 (by decide +kernel) (by decide +kernel)) (
  And.intro (sd_iload_n (k := 2) rfl (by decide +kernel) (by decide +kernel)) (
  And.intro (sd_zret (by decide +kernel) rfl) (
  trivial)))))))))))))))))))
set_option maxRecDepth 100000 in
set_option maxHeartbeats 8000000 in
theorem sn_146 : Sns 146 0 tMo_entry := And.intro (sd_aload_n (k := 0) rfl (by decide +kernel) (by decide +kernel)) (
  And.intro (sd_getI cf7 (by decide) (by decide) wf_7_188 (by decide +kernel) (by decide +kernel)) (
  And.intro (sd_zne (off := 51) (by decide +kernel) (by decide +kernel) (by decide +kernel)) (
  And.intro (sd_aload_n (k := 0) rfl (by decide +kernel) (by decide +kernel)) (
  And.intro (sd_getR cf7 (by decide) (by decide) wf_7_90 (by decide +kernel) (by decide +kernel)) (
  And.intro (sd_sipush (n := 300) (by decide) (by decide +kernel) (by decide +kernel)) (
  And.intro (sd_aload_n (k := 0) rfl (by decide +kernel) (by decide +kernel)) (
  And.intro (sd_getI cf7 (by decide) (by decide) wf_7_218 (by decide +kernel) (by decide +kernel)) (
  And.intro (sd_imul (by decide +kernel) (by decide +kernel)) (
  And.intro (sd_aload_n (k := 0) rfl (by decide +kernel) (by decide +kernel)) (
  And.intro (sd_getI cf7 (by decide) (by decide) wf_7_221 (by decide +kernel) (by decide +kernel)) (
  And.intro (sd_iadd (by decide +kernel) (by decide +kernel)) (
  And.intro (sd_iload_n (k := 1) rfl (by decide +kernel) (by decide +kernel)) (
  And.intro (sd_iast (by decide +kernel) (by decide +kernel)) (
  And.intro (sd_aload_n (k := 0) rfl (by decide +kernel) (by decide +kernel)) (
  And.intro (sd_getR cf7 (by decide) (by decide) wf_7_93 (by decide +kernel) (by decide +kernel)) (
  And.intro (sd_sipush (n := 300) (by decide) (by decide +kernel) (by decide +kernel)) (
  And.intro (sd_aload_n (k := 0) rfl (by decide +kernel) (by decide +kernel)) (
  And.intro (sd_getI cf7 (by decide) (by decide) wf_7_218 (by decide +kernel) (by decide +kernel)) (
  And.intro (sd_imul (by decide +kernel) (by decide +kernel)) (
  And.intro (sd_aload_n (k := 0) rfl (by decide +kernel) (by decide +kernel)) (
  And.intro (sd_getI cf7 (by decide) (by decide) wf_7_221 (by decide +kernel) (by decide +kernel)) (
  And.intro (sd_iadd (by decide +kernel) (by decide +kernel)) (
  And.intro (sd_iload_n (k := 2) rfl (by decide +kernel) (by decide +kernel)) (
  And.intro (sd_iast (by decide +kernel) (by decide +kernel)) (
  And.intro (sd_aload_n (k := 0) rfl (by decide +kernel) (by decide +kernel)) (
  And.intro (sd_dup (by decide +kernel) (by decide +kernel)) (
  And.intro (sd_getI cf7 (by decide) (by decide) wf_7_221 (by decide +kernel) (by decide +kernel)) (
  And.intro (sd_iconst (n := 1) (by decide) (by decide +kernel) (by decide +kernel)) (
  And.intro (sd_iadd (by decide +kernel) (by decide +kernel)) (
  And.intro (sd_putI cf7 (by decide) (by decide) rfl rfl wf_7_221 (by decide +kernel) (by decide +kernel)) (
  And.intro (sd_vret (by decide +kernel) rfl) (
  trivial))))))))))))))))))))))))))))))))
set_option maxRecDepth 100000 in
set_option maxHeartbeats 8000000 in
theorem sn_147 : Sns 147 0 tMo_isCounted := And.intro (sd_aload_n (k := 0) rfl (by decide +kernel) (by decide +kernel)) (
  And.intro (sd_getI cf7 (by decide) (by decide) wf_7_224 (by decide +kernel) (by decide +kernel)) (
  And.intro (sd_bipush (n := 60) (by decide) (by decide +kernel) (by decide +kernel)) (
  And.intro (sd_ine (off := 9) (by decide +kernel) (by decide +kernel) (by decide +kernel)) (
  And.intro (sd_aload_n (k := 0) rfl (by decide +kernel) (by decide +kernel)) (
  And.intro (sd_iconst (n := 3) (by decide) (by decide +kernel) (by decide +kernel)) (
  And.intro (sd_iload_n (k := 1) rfl (by decide +kernel) (by decide +kernel)) (
  And.intro (sd_VV mg_140 (by decide +kernel) wm_7_227 wn_140 wv_140 rfl rfl (by decide +kernel)) (
  And.intro (sd_aload_n (k := 0) rfl (by decide +kernel) (by decide +kernel)) (
  And.intro (sd_dup (by decide +kernel) (by decide +kernel)) (
  And.intro (sd_getI cf7 (by decide) (by decide) wf_7_224 (by decide +kernel) (by decide +kernel)) (
  And.intro (sd_iconst (n := 1) (by decide) (by decide +kernel) (by decide +kernel)) (
  And.intro (sd_iadd (by decide +kernel) (by decide +kernel)) (
  And.intro (sd_putI cf7 (by decide) (by decide) rfl rfl wf_7_224 (by decide +kernel) (by decide +kernel)) (
  And.intro (sd_vret (by decide +kernel) rfl) (
  trivial)))))))))))))))
set_option maxRecDepth 100000 in
set_option maxHeartbeats 8000000 in
theorem sn_148 : Sns 148 0 tMo_digits := And.intro (sd_aload_n (k := 0) rfl (by decide +kernel) (by decide +kernel)) (
  And.intro (sd_VI mg_143 (by decide +kernel) wm_7_231 wn_143 wv_143 rfl rfl (by decide +kernel)) (
  And.intro (sd_zne (off := 14) (by decide +kernel) (by decide +kernel) (by decide +kernel)) (
  And.intro (sd_aload_n (k := 0) rfl (by decide +kernel) (by decide +kernel)) (
  And.intro (sd_iconst (n := 0) (by decide) (by decide +kernel) (by decide +kernel)) (
  And.intro (sd_aload_n (k := 0) rfl (by decide +kernel) (by decide +kernel)) (
  And.intro (sd_getI cf7 (by decide) (by decide) wf_7_191 (by decide +kernel) (by decide +kernel)) (
  And.intro (sd_VV mg_140 (by decide +kernel) wm_7_227 wn_140 wv_140 rfl rfl (by decide +kernel)) (
  And.intro (sd_iconst (n := 0) (by decide) (by decide +kernel) (by decide +kernel)) (
  And.intro (sd_iret (by decide +kernel) rfl) (
  And.intro (sd_aload_n (k := 0) rfl (by decide +kernel) (by decide +kernel)) (
  And.intro (sd_getI cf7 (by decide) (by decide) wf_7_191 (by decide +kernel) (by decide +kernel)) (
  And.intro (sd_istore_n (k := 2) rfl (by decide) (by decide +kernel) (by decide +kernel)) (
  And.intro (sd_iconst (n := 0) (by decide) (by decide +kernel) (by decide +kernel)) (
  And.intro (sd_istore_n (k := 3) rfl (by decide) (by decide +kernel) (by decide +kernel)) (
  And.intro (sd_ms _ (sd_aload_n (k := 0) rfl (by decide +kernel) (by decide +kernel))) (
  And.intro (sd_VI mg_143 (by decide +kernel) wm_7_231 wn_143 wv_143 rfl rfl (by decide +kernel)) (
  And.intro (sd_zeq (off := 43) (by decide +kernel) (by decide +kernel) (by decide +kernel)) (
  And.intro (sd_aload_n (k := 0) rfl (by decide +kernel) (by decide +kernel)) (
  And.intro (sd_getI cf7 (by decide) (by decide) wf_7_191 (by decide +kernel) (by decide +kernel)) (
  And.intro (sd_iload_n (k := 2) rfl (by decide +kernel) (by decide +kernel)) (
  And.intro (sd_isub (by decide +kernel) (by decide +kernel)) (
  And.intro (sd_iconst (n := 5) (by decide) (by decide +kernel) (by decide +kernel)) (
  And.intro (sd_ige (off := 18) (by decide +kernel) (by decide +kernel) (by decide +kernel)) (
  And.intro (sd_bipush (n := 10) (by decide) (by decide +kernel) (by decide +kernel)) (
  And.intro (sd_iload_n (k := 3) rfl (by decide +kernel) (by decide +kernel)) (
  And.intro (sd_imul (by decide +kernel) (by decide +kernel)) (
  And.intro (sd_aload_n (k := 0) rfl (by decide +kernel) (by decide +kernel)) (
  And.intro (sd_VI mg_141 (by decide +kernel) wm_7_194 wn_141 wv_141 rfl rfl (by decide +kernel)) (
  And.intro (sd_iadd (by decide +kernel) (by decide +kernel)) (
  And.intro (sd_bipush (n := 48) (by decide) (by decide +kernel) (by decide +kernel)) (
  And.intro (sd_isub (by decide +kernel) (by decide +kernel)) (
  And.intro (sd_go (off := 4) (by decide +kernel) (by decide +kernel)) (
  And.intro (sd_iload_n (k := 3) rfl (by decide +kernel) (by decide +kernel)) (
  And.intro (sd_istore_n (k := 3) rfl (by decide) (by decide +kernel) (by decide +kernel)) (
  And.intro (sd_aload_n (k := 0) rfl (by decide +kernel) (by decide +kernel)) (
  And.intro (sd_dup (by decide +kernel) (by decide +kernel)) (
  And.intro (sd_getI cf7 (by decide) (by decide) wf_7_191 (by decide +kernel) (by decide +kernel)) (
  And.intro (sd_iconst (n := 1) (by decide) (by decide +kernel) (by decide +kernel)) (
  And.intro (sd_iadd (by decide +kernel) (by decide +kernel)) (
  And.intro (sd_putI cf7 (by decide) (by decide) rfl rfl wf_7_191 (by decide +kernel) (by decide +kernel)) (
  And.intro (sd_go (off := (-44)) (by decide +kernel) (by decide +kernel)) (
  And.intro (sd_aload_n (k := 0) rfl (by decide +kernel) (by decide +kernel)) (
  And.intro (sd_getI cf7 (by decide) (by decide) wf_7_191 (by decide +kernel) (by decide +kernel)) (
  And.intro (sd_iload_n (k := 2) rfl (by decide +kernel) (by decide +kernel)) (
  And.intro (sd_isub (by decide +kernel) (by decide +kernel)) (
  And.intro (sd_iconst (n := 5) (by decide) (by decide +kernel) (by decide +kernel)) (
  And.intro (sd_igt (off := 8) (by decide +kernel) (by decide +kernel) (by decide +kernel)) (
  And.intro (sd_iload_n (k := 3) rfl (by decide +kernel) (by decide +kernel)) (
  And.intro (sd_iload_n (k := 1) rfl (by decide +kernel) (by decide +kernel)) (
  And.intro (sd_ile (off := 9) (by decide +kernel) (by decide +kernel) (by decide +kernel)) (
  And.intro (sd_aload_n (k := 0) rfl (by decide +kernel) (by decide +kernel)) (
  And.intro (sd_iconst (n := 1) (by decide) (by decide +kernel) (by decide +kernel)) (
  And.intro (sd_iload_n (k := 2) rfl (by decide +kernel) (by decide +kernel)) (
  And.intro (sd_VV mg_140 (by decide +kernel) wm_7_227 wn_140 wv_140 rfl rfl (by decide +kernel)) (
  And.intro (sd_iload_n (k := 3) rfl (by decide +kernel) (by decide +kernel)) (
  And.intro (sd_iret (by decide +kernel) rfl) (
  trivial)))))))))))))))))))))))))))))))))))))))))))))))))))))))))
set_option maxRecDepth 100000 in
set_option maxHeartbeats 8000000 in
theorem sn_149 : Sns 149 0 tMo_value := And.intro (sd_aload_n (k := 0) rfl (by decide +kernel) (by decide +kernel)) (
  And.intro (sd_VV mg_142 (by decide +kernel) wm_7_211 wn_142 wv_142 rfl rfl (by decide +kernel)) (
  And.intro (sd_aload_n (k := 0) rfl (by decide +kernel) (by decide +kernel)) (
  And.intro (sd_getI cf7 (by decide) (by decide) wf_7_191 (by decide +kernel) (by decide +kernel)) (
  And.intro (sd_istore_n (k := 1) rfl (by decide) (by decide +kernel) (by decide +kernel)) (
  And.intro (sd_aload_n (k := 0) rfl (by decide +kernel) (by decide +kernel)) (
  And.intro (sd_VI mg_143 (by decide +kernel) wm_7_231 wn_143 wv_143 rfl rfl (by decide +kernel)) (
  And.intro (sd_zeq (off := 22) (by decide +kernel) (by decide +kernel) (by decide +kernel)) (
  And.intro (sd_aload_n (k := 0) rfl (by decide +kernel) (by decide +kernel)) (
  And.intro (sd_ldc wk_7_235 (by decide +kernel) (by decide +kernel)) (
  And.intro (sd_VI mg_148 (by decide +kernel) wm_7_236 wn_148 wv_148 rfl rfl (by decide +kernel)) (
  And.intro (sd_istore_n (k := 2) rfl (by decide) (by decide +kernel) (by decide +kernel)) (
  And.intro (sd_aload_n (k := 0) rfl (by decide +kernel) (by decide +kernel)) (
  And.intro (sd_iload_n (k := 1) rfl (by decide +kernel) (by decide +kernel)) (
  And.intro (sd_VV mg_147 (by decide +kernel) wm_7_240 wn_147 wv_147 rfl rfl (by decide +kernel)) (
  And.intro (sd_aload_n (k := 0) rfl (by decide +kernel) (by decide +kernel)) (
  And.intro (sd_iconst (n := 0) (by decide) (by decide +kernel) (by decide +kernel)) (
  And.intro (sd_iload_n (k := 2) rfl (by decide +kernel) (by decide +kernel)) (
  And.intro (sd_VV mg_146 (by decide +kernel) wm_7_243 wn_146 wv_146 rfl rfl (by decide +kernel)) (
  And.intro (sd_vret (by decide +kernel) rfl) (
  And.intro (sd_iconst (n := 0) (by decide) (by decide +kernel) (by decide +kernel)) (
  And.intro (sd_istore_n (k := 2) rfl (by decide) (by decide +kernel) (by decide +kernel)) (
  And.intro (sd_ms _ (sd_iload_n (k := 2) rfl (by decide +kernel) (by decide +kernel))) (
  And.intro (sd_aload_n (k := 0) rfl (by decide +kernel) (by decide +kernel)) (
  And.intro (sd_getI cf7 (by decide) (by decide) wf_7_82 (by decide +kernel) (by decide +kernel)) (
  And.intro (sd_ige (off := 20) (by decide +kernel) (by decide +kernel) (by decide +kernel)) (
  And.intro (sd_aload_n (k := 0) rfl (by decide +kernel) (by decide +kernel)) (
  And.intro (sd_iload_n (k := 2) rfl (by decide +kernel) (by decide +kernel)) (
  And.intro (sd_SR mg_139 (by decide +kernel) wm_7_246 wt_139 (by decide +kernel)) (
  And.intro (sd_VI mg_144 (by decide +kernel) wm_7_214 wn_144 wv_144 rfl rfl (by decide +kernel)) (
  And.intro (sd_zne (off := 9) (by decide +kernel) (by decide +kernel) (by decide +kernel)) (
  And.intro (sd_iinc (n := 1) (by decide) (by decide) (by decide +kernel) (by decide +kernel)) (
  And.intro (sd_go (off := (-22)) (by decide +kernel) (by decide +kernel)) (
  And.intro (sd_iload_n (k := 2) rfl (by decide +kernel) (by decide +kernel)) (
  And.intro (sd_aload_n (k := 0) rfl (by decide +kernel) (by decide +kernel)) (
  And.intro (sd_getI cf7 (by decide) (by decide) wf_7_82 (by decide +kernel) (by decide +kernel)) (
  And.intro (sd_ine (off := 10) (by decide +kernel) (by decide +kernel) (by decide +kernel)) (
  And.intro (sd_aload_n (k := 0) rfl (by decide +kernel) (by decide +kernel)) (
  And.intro (sd_iconst (n := 0) (by decide) (by decide +kernel) (by decide +kernel)) (
  And.intro (sd_iload_n (k := 1) rfl (by decide +kernel) (by decide +kernel)) (
  And.intro (sd_VV mg_140 (by decide +kernel) wm_7_227 wn_140 wv_140 rfl rfl (by decide +kernel)) (
  And.intro (sd_vret (by decide +kernel) rfl) (
  And.intro (sd_aload_n (k := 0) rfl (by decide +kernel) (by decide +kernel)) (
  And.intro (sd_iload_n (k := 1) rfl (by decide +kernel) (by decide +kernel)) (
  And.intro (sd_VV mg_147 (by decide +kernel) wm_7_240 wn_147 wv_147 rfl rfl (by decide +kernel)) (
  And.intro (sd_aload_n (k := 0) rfl (by decide +kernel) (by decide +kernel)) (
  And.intro (sd_dup (by decide +kernel) (by decide +kernel)) (
  And.intro (sd_getI cf7 (by decide) (by decide) wf_7_191 (by decide +kernel) (by decide +kernel)) (
  And.intro (sd_iload_n (k := 2) rfl (by decide +kernel) (by decide +kernel)) (
  And.intro (sd_SR mg_139 (by decide +kernel) wm_7_246 wt_139 (by decide +kernel)) (
  And.intro (sd_slen wm_7_202 (by decide +kernel) (by decide +kernel)) (
  And.intro (sd_iadd (by decide +kernel) (by decide +kernel)) (
  And.intro (sd_putI cf7 (by decide) (by decide) rfl rfl wf_7_191 (by decide +kernel) (by decide +kernel)) (
  And.intro (sd_aload_n (k := 0) rfl (by decide +kernel) (by decide +kernel)) (
  And.intro (sd_iconst (n := 1) (by decide) (by decide +kernel) (by decide +kernel)) (
  And.intro (sd_iload_n (k := 2) rfl (by decide +kernel) (by decide +kernel)) (
  And.intro (sd_VV mg_146 (by decide +kernel) wm_7_243 wn_146 wv_146 rfl rfl (by decide +kernel)) (
  And.intro (sd_vret (by decide +kernel) rfl) (
  trivial))))))))))))))))))))))))))))))))))))))))))))))))))))))))))
set_option maxRecDepth 100000 in
set_option maxHeartbeats 8000000 in
theorem sn_150 : Sns 150 0 tMo_term := And.intro (sd_aload_n (k := 0) rfl (by decide +kernel) (by decide +kernel)) (
  And.intro (sd_VV mg_149 (by decide +kernel) wm_7_250 wn_149 wv_149 rfl rfl (by decide +kernel)) (
  And.intro (sd_aload_n (k := 0) rfl (by decide +kernel) (by decide +kernel)) (
  And.intro (sd_VV mg_142 (by decide +kernel) wm_7_211 wn_142 wv_142 rfl rfl (by decide +kernel)) (
  And.intro (sd_ms _ (sd_aload_n (k := 0) rfl (by decide +kernel) (by decide +kernel))) (
  And.intro (sd_getI cf7 (by decide) (by decide) wf_7_188 (by decide +kernel) (by decide +kernel)) (
  And.intro (sd_zne (off := 88) (by decide +kernel) (by decide +kernel) (by decide +kernel)) (
  And.intro (sd_aload_n (k := 0) rfl (by decide +kernel) (by decide +kernel)) (
  And.intro (sd_VI mg_141 (by decide +kernel) wm_7_194 wn_141 wv_141 rfl rfl (by decide +kernel)) (
  And.intro (sd_bipush (n := 42) (by decide) (by decide +kernel) (by decide +kernel)) (
  And.intro (sd_ieq (off := 21) (by decide +kernel) (by decide +kernel) (by decide +kernel)) (
  And.intro (sd_aload_n (k := 0) rfl (by decide +kernel) (by decide +kernel)) (
  And.intro (sd_VI mg_141 (by decide +kernel) wm_7_194 wn_141 wv_141 rfl rfl (by decide +kernel)) (
  And.intro (sd_bipush (n := 47) (by decide) (by decide +kernel) (by decide +kernel)) (
  And.intro (sd_ieq (off := 12) (by decide +kernel) (by decide +kernel) (by decide +kernel)) (
  And.intro (sd_aload_n (k := 0) rfl (by decide +kernel) (by decide +kernel)) (
  And.intro (sd_VI mg_141 (by decide +kernel) wm_7_194 wn_141 wv_141 rfl rfl (by decide +kernel)) (
  And.intro (sd_bipush (n := 37) (by decide) (by decide +kernel) (by decide +kernel)) (
  And.intro (sd_ine (off := 61) (by decide +kernel) (by decide +kernel) (by decide +kernel)) (
  And.intro (sd_aload_n (k := 0) rfl (by decide +kernel) (by decide +kernel)) (
  And.intro (sd_VI mg_141 (by decide +kernel) wm_7_194 wn_141 wv_141 rfl rfl (by decide +kernel)) (
  And.intro (sd_bipush (n := 42) (by decide) (by decide +kernel) (by decide +kernel)) (
  And.intro (sd_ine (off := 8) (by decide +kernel) (by decide +kernel) (by decide +kernel)) (
  And.intro (sd_bipush (n := 13) (by decide) (by decide +kernel) (by decide +kernel)) (
  And.intro (sd_go (off := 19) (by decide +kernel) (by decide +kernel)) (
  And.intro (sd_aload_n (k := 0) rfl (by decide +kernel) (by decide +kernel)) (
  And.intro (sd_VI mg_141 (by decide +kernel) wm_7_194 wn_141 wv_141 rfl rfl (by decide +kernel)) (
  And.intro (sd_bipush (n := 47) (by decide) (by decide +kernel) (by decide +kernel)) (
  And.intro (sd_ine (off := 8) (by decide +kernel) (by decide +kernel) (by decide +kernel)) (
  And.intro (sd_bipush (n := 14) (by decide) (by decide +kernel) (by decide +kernel)) (
  And.intro (sd_go (off := 5) (by decide +kernel) (by decide +kernel)) (
  And.intro (sd_bipush (n := 15) (by decide) (by decide +kernel) (by decide +kernel)) (
  And.intro (sd_istore_n (k := 1) rfl (by decide) (by decide +kernel) (by decide +kernel)) (
  And.intro (sd_aload_n (k := 0) rfl (by decide +kernel) (by decide +kernel)) (
  And.intro (sd_dup (by decide +kernel) (by decide +kernel)) (
  And.intro (sd_getI cf7 (by decide) (by decide) wf_7_191 (by decide +kernel) (by decide +kernel)) (
  And.intro (sd_iconst (n := 1) (by decide) (by decide +kernel) (by decide +kernel)) (
  And.intro (sd_iadd (by decide +kernel) (by decide +kernel)) (
  And.intro (sd_putI cf7 (by decide) (by decide) rfl rfl wf_7_191 (by decide +kernel) (by decide +kernel)) (
  And.intro (sd_aload_n (k := 0) rfl (by decide +kernel) (by decide +kernel)) (
  And.intro (sd_VV mg_149 (by decide +kernel) wm_7_250 wn_149 wv_149 rfl rfl (by decide +kernel)) (
  And.intro (sd_aload_n (k := 0) rfl (by decide +kernel) (by decide +kernel)) (
  And.intro (sd_iload_n (k := 1) rfl (by decide +kernel) (by decide +kernel)) (
  And.intro (sd_iconst (n := 0) (by decide) (by decide +kernel) (by decide +kernel)) (
  And.intro (sd_VV mg_146 (by decide +kernel) wm_7_243 wn_146 wv_146 rfl rfl (by decide +kernel)) (
  And.intro (sd_aload_n (k := 0) rfl (by decide +kernel) (by decide +kernel)) (
  And.intro (sd_VV mg_142 (by decide +kernel) wm_7_211 wn_142 wv_142 rfl rfl (by decide +kernel)) (
  And.intro (sd_go (off := (-89)) (by decide +kernel) (by decide +kernel)) (
  And.intro (sd_vret (by decide +kernel) rfl) (
  trivial)))))))))))))))))))))))))))))))))))))))))))))))))
set_option maxRecDepth 100000 in
set_option maxHeartbeats 8000000 in
theorem sn_151 : Sns 151 0 tMo_sum := And.intro (sd_aload_n (k := 0) rfl (by decide +kernel) (by decide +kernel)) (
  And.intro (sd_VV mg_150 (by decide +kernel) wm_7_253 wn_150 wv_150 rfl rfl (by decide +kernel)) (
  And.intro (sd_ms _ (sd_aload_n (k := 0) rfl (by decide +kernel) (by decide +kernel))) (
  And.intro (sd_getI cf7 (by decide) (by decide) wf_7_188 (by decide +kernel) (by decide +kernel)) (
  And.intro (sd_zne (off := 59) (by decide +kernel) (by decide +kernel) (by decide +kernel)) (
  And.intro (sd_aload_n (k := 0) rfl (by decide +kernel) (by decide +kernel)) (
  And.intro (sd_VI mg_141 (by decide +kernel) wm_7_194 wn_141 wv_141 rfl rfl (by decide +kernel)) (
  And.intro (sd_bipush (n := 43) (by decide) (by decide +kernel) (by decide +kernel)) (
  And.intro (sd_ieq (off := 12) (by decide +kernel) (by decide +kernel) (by decide +kernel)) (
  And.intro (sd_aload_n (k := 0) rfl (by decide +kernel) (by decide +kernel)) (
  And.intro (sd_VI mg_141 (by decide +kernel) wm_7_194 wn_141 wv_141 rfl rfl (by decide +kernel)) (
  And.intro (sd_bipush (n := 45) (by decide) (by decide +kernel) (by decide +kernel)) (
  And.intro (sd_ine (off := 41) (by decide +kernel) (by decide +kernel) (by decide +kernel)) (
  And.intro (sd_aload_n (k := 0) rfl (by decide +kernel) (by decide +kernel)) (
  And.intro (sd_VI mg_141 (by decide +kernel) wm_7_194 wn_141 wv_141 rfl rfl (by decide +kernel)) (
  And.intro (sd_bipush (n := 43) (by decide) (by decide +kernel) (by decide +kernel)) (
  And.intro (sd_ine (off := 7) (by decide +kernel) (by decide +kernel) (by decide +kernel)) (
  And.intro (sd_iconst (n := 2) (by decide) (by decide +kernel) (by decide +kernel)) (
  And.intro (sd_go (off := 4) (by decide +kernel) (by decide +kernel)) (
  And.intro (sd_iconst (n := 3) (by decide) (by decide +kernel) (by decide +kernel)) (
  And.intro (sd_istore_n (k := 1) rfl (by decide) (by decide +kernel) (by decide +kernel)) (
  And.intro (sd_aload_n (k := 0) rfl (by decide +kernel) (by decide +kernel)) (
  And.intro (sd_dup (by decide +kernel) (by decide +kernel)) (
  And.intro (sd_getI cf7 (by decide) (by decide) wf_7_191 (by decide +kernel) (by decide +kernel)) (
  And.intro (sd_iconst (n := 1) (by decide) (by decide +kernel) (by decide +kernel)) (
  And.intro (sd_iadd (by decide +kernel) (by decide +kernel)) (
  And.intro (sd_putI cf7 (by decide) (by decide) rfl rfl wf_7_191 (by decide +kernel) (by decide +kernel)) (
  And.intro (sd_aload_n (k := 0) rfl (by decide +kernel) (by decide +kernel)) (
  And.intro (sd_VV mg_150 (by decide +kernel) wm_7_253 wn_150 wv_150 rfl rfl (by decide +kernel)) (
  And.intro (sd_aload_n (k := 0) rfl (by decide +kernel) (by decide +kernel)) (
  And.intro (sd_iload_n (k := 1) rfl (by decide +kernel) (by decide +kernel)) (
  And.intro (sd_iconst (n := 0) (by decide) (by decide +kernel) (by decide +kernel)) (
  And.intro (sd_VV mg_146 (by decide +kernel) wm_7_243 wn_146 wv_146 rfl rfl (by decide +kernel)) (
  And.intro (sd_go (off := (-60)) (by decide +kernel) (by decide +kernel)) (
  And.intro (sd_vret (by decide +kernel) rfl) (
  trivial)))))))))))))))))))))))))))))))))))
set_option maxRecDepth 100000 in
set_option maxHeartbeats 8000000 in
theorem sn_152 : Sns 152 0 tMo_compared := And.intro (sd_aload_n (k := 0) rfl (by decide +kernel) (by decide +kernel)) (
  And.intro (sd_VV mg_151 (by decide +kernel) wm_7_256 wn_151 wv_151 rfl rfl (by decide +kernel)) (
  And.intro (sd_aload_n (k := 0) rfl (by decide +kernel) (by decide +kernel)) (
  And.intro (sd_VI mg_141 (by decide +kernel) wm_7_194 wn_141 wv_141 rfl rfl (by decide +kernel)) (
  And.intro (sd_istore_n (k := 1) rfl (by decide) (by decide +kernel) (by decide +kernel)) (
  And.intro (sd_iload_n (k := 1) rfl (by decide +kernel) (by decide +kernel)) (
  And.intro (sd_bipush (n := 60) (by decide) (by decide +kernel) (by decide +kernel)) (
  And.intro (sd_ieq (off := 25) (by decide +kernel) (by decide +kernel) (by decide +kernel)) (
  And.intro (sd_iload_n (k := 1) rfl (by decide +kernel) (by decide +kernel)) (
  And.intro (sd_bipush (n := 61) (by decide) (by decide +kernel) (by decide +kernel)) (
  And.intro (sd_ieq (off := 19) (by decide +kernel) (by decide +kernel) (by decide +kernel)) (
  And.intro (sd_iload_n (k := 1) rfl (by decide +kernel) (by decide +kernel)) (
  And.intro (sd_bipush (n := 62) (by decide) (by decide +kernel) (by decide +kernel)) (
  And.intro (sd_ieq (off := 13) (by decide +kernel) (by decide +kernel) (by decide +kernel)) (
  And.intro (sd_aload_n (k := 0) rfl (by decide +kernel) (by decide +kernel)) (
  And.intro (sd_iconst (n := 0) (by decide) (by decide +kernel) (by decide +kernel)) (
  And.intro (sd_aload_n (k := 0) rfl (by decide +kernel) (by decide +kernel)) (
  And.intro (sd_getI cf7 (by decide) (by decide) wf_7_191 (by decide +kernel) (by decide +kernel)) (
  And.intro (sd_VV mg_140 (by decide +kernel) wm_7_227 wn_140 wv_140 rfl rfl (by decide +kernel)) (
  And.intro (sd_vret (by decide +kernel) rfl) (
  And.intro (sd_aload_n (k := 0) rfl (by decide +kernel) (by decide +kernel)) (
  And.intro (sd_aload_n (k := 0) rfl (by decide +kernel) (by decide +kernel)) (
  And.intro (sd_getI cf7 (by decide) (by decide) wf_7_191 (by decide +kernel) (by decide +kernel)) (
  And.intro (sd_VV mg_147 (by decide +kernel) wm_7_240 wn_147 wv_147 rfl rfl (by decide +kernel)) (
  And.intro (sd_aload_n (k := 0) rfl (by decide +kernel) (by decide +kernel)) (
  And.intro (sd_dup (by decide +kernel) (by decide +kernel)) (
  And.intro (sd_getI cf7 (by decide) (by decide) wf_7_191 (by decide +kernel) (by decide +kernel)) (
  And.intro (sd_iconst (n := 1) (by decide) (by decide +kernel) (by decide +kernel)) (
  And.intro (sd_iadd (by decide +kernel) (by decide +kernel)) (
  And.intro (sd_putI cf7 (by decide) (by decide) rfl rfl wf_7_191 (by decide +kernel) (by decide +kernel)) (
  And.intro (sd_iload_n (k := 1) rfl (by decide +kernel) (by decide +kernel)) (
  And.intro (sd_bipush (n := 61) (by decide) (by decide +kernel) (by decide +kernel)) (
  And.intro (sd_ieq (off := 16) (by decide +kernel) (by decide +kernel) (by decide +kernel)) (
  And.intro (sd_aload_n (k := 0) rfl (by decide +kernel) (by decide +kernel)) (
  And.intro (sd_VI mg_141 (by decide +kernel) wm_7_194 wn_141 wv_141 rfl rfl (by decide +kernel)) (
  And.intro (sd_bipush (n := 61) (by decide) (by decide +kernel) (by decide +kernel)) (
  And.intro (sd_ine (off := 7) (by decide +kernel) (by decide +kernel) (by decide +kernel)) (
  And.intro (sd_iconst (n := 1) (by decide) (by decide +kernel) (by decide +kernel)) (
  And.intro (sd_go (off := 4) (by decide +kernel) (by decide +kernel)) (
  And.intro (sd_iconst (n := 0) (by decide) (by decide +kernel) (by decide +kernel)) (
  And.intro (sd_ms _ (sd_istore_n (k := 2) rfl (by decide) (by decide +kernel) (by decide +kernel))) (
  And.intro (sd_aload_n (k := 0) rfl (by decide +kernel) (by decide +kernel)) (
  And.intro (sd_dup (by decide +kernel) (by decide +kernel)) (
  And.intro (sd_getI cf7 (by decide) (by decide) wf_7_191 (by decide +kernel) (by decide +kernel)) (
  And.intro (sd_iload_n (k := 2) rfl (by decide +kernel) (by decide +kernel)) (
  And.intro (sd_zeq (off := 7) (by decide +kernel) (by decide +kernel) (by decide +kernel)) (
  And.intro (sd_iconst (n := 1) (by decide) (by decide +kernel) (by decide +kernel)) (
  And.intro (sd_go (off := 4) (by decide +kernel) (by decide +kernel)) (
  And.intro (sd_iconst (n := 0) (by decide) (by decide +kernel) (by decide +kernel)) (
  And.intro (sd_iadd (by decide +kernel) (by decide +kernel)) (
  And.intro (sd_putI cf7 (by decide) (by decide) rfl rfl wf_7_191 (by decide +kernel) (by decide +kernel)) (
  And.intro (sd_aload_n (k := 0) rfl (by decide +kernel) (by decide +kernel)) (
  And.intro (sd_VV mg_151 (by decide +kernel) wm_7_256 wn_151 wv_151 rfl rfl (by decide +kernel)) (
  And.intro (sd_aload_n (k := 0) rfl (by decide +kernel) (by decide +kernel)) (
  And.intro (sd_iload_n (k := 1) rfl (by decide +kernel) (by decide +kernel)) (
  And.intro (sd_bipush (n := 61) (by decide) (by decide +kernel) (by decide +kernel)) (
  And.intro (sd_ine (off := 8) (by decide +kernel) (by decide +kernel) (by decide +kernel)) (
  And.intro (sd_bipush (n := 6) (by decide) (by decide +kernel) (by decide +kernel)) (
  And.intro (sd_go (off := 32) (by decide +kernel) (by decide +kernel)) (
  And.intro (sd_iload_n (k := 1) rfl (by decide +kernel) (by decide +kernel)) (
  And.intro (sd_bipush (n := 60) (by decide) (by decide +kernel) (by decide +kernel)) (
  And.intro (sd_ine (off := 15) (by decide +kernel) (by decide +kernel) (by decide +kernel)) (
  And.intro (sd_iload_n (k := 2) rfl (by decide +kernel) (by decide +kernel)) (
  And.intro (sd_zeq (off := 7) (by decide +kernel) (by decide +kernel) (by decide +kernel)) (
  And.intro (sd_iconst (n := 5) (by decide) (by decide +kernel) (by decide +kernel)) (
  And.intro (sd_go (off := 18) (by decide +kernel) (by decide +kernel)) (
  And.intro (sd_iconst (n := 4) (by decide) (by decide +kernel) (by decide +kernel)) (
  And.intro (sd_go (off := 14) (by decide +kernel) (by decide +kernel)) (
  And.intro (sd_iload_n (k := 2) rfl (by decide +kernel) (by decide +kernel)) (
  And.intro (sd_zeq (off := 8) (by decide +kernel) (by decide +kernel) (by decide +kernel)) (
  And.intro (sd_bipush (n := 7) (by decide) (by decide +kernel) (by decide +kernel)) (
  And.intro (sd_go (off := 5) (by decide +kernel) (by decide +kernel)) (
  And.intro (sd_bipush (n := 8) (by decide) (by decide +kernel) (by decide +kernel)) (
  And.intro (sd_iconst (n := 0) (by decide) (by decide +kernel) (by decide +kernel)) (
  And.intro (sd_VV mg_146 (by decide +kernel) wm_7_243 wn_146 wv_146 rfl rfl (by decide +kernel)) (
  And.intro (sd_vret (by decide +kernel) rfl) (
  trivial))))))))))))))))))))))))))))))))))))))))))))))))))))))))))))))))))))))))))))
set_option maxRecDepth 100000 in
set_option maxHeartbeats 8000000 in
theorem sn_153 : Sns 153 0 tMo_top := And.intro (sd_aload_n (k := 0) rfl (by decide +kernel) (by decide +kernel)) (
  And.intro (sd_getI cf7 (by decide) (by decide) wf_7_259 (by decide +kernel) (by decide +kernel)) (
  And.intro (sd_zne (off := 7) (by decide +kernel) (by decide +kernel) (by decide +kernel)) (
  And.intro (sd_iconst (n := (-1)) (by decide) (by decide +kernel) (by decide +kernel)) (
  And.intro (sd_go (off := 14) (by decide +kernel) (by decide +kernel)) (
  And.intro (sd_aload_n (k := 0) rfl (by decide +kernel) (by decide +kernel)) (
  And.intro (sd_getR cf7 (by decide) (by decide) wf_7_108 (by decide +kernel) (by decide +kernel)) (
  And.intro (sd_aload_n (k := 0) rfl (by decide +kernel) (by decide +kernel)) (
  And.intro (sd_getI cf7 (by decide) (by decide) wf_7_259 (by decide +kernel) (by decide +kernel)) (
  And.intro (sd_iconst (n := 1) (by decide) (by decide +kernel) (by decide +kernel)) (
  And.intro (sd_isub (by decide +kernel) (by decide +kernel)) (
  And.intro (sd_iald (by decide +kernel) (by decide +kernel)) (
  And.intro (sd_iret (by decide +kernel) rfl) (
  trivial)))))))))))))
set_option maxRecDepth 100000 in
set_option maxHeartbeats 8000000 in
theorem sn_154 : Sns 154 0 tMo_opens := And.intro (sd_iload_n (k := 1) rfl (by decide +kernel) (by decide +kernel)) (
  And.intro (sd_bipush (n := 9) (by decide) (by decide +kernel) (by decide +kernel)) (
  And.intro (sd_ieq (off := 9) (by decide +kernel) (by decide +kernel) (by decide +kernel)) (
  And.intro (sd_iload_n (k := 1) rfl (by decide +kernel) (by decide +kernel)) (
  And.intro (sd_bipush (n := 12) (by decide) (by decide +kernel) (by decide +kernel)) (
  And.intro (sd_ine (off := 31) (by decide +kernel) (by decide +kernel) (by decide +kernel)) (
  And.intro (sd_aload_n (k := 0) rfl (by decide +kernel) (by decide +kernel)) (
  And.intro (sd_getI cf7 (by decide) (by decide) wf_7_262 (by decide +kernel) (by decide +kernel)) (
  And.intro (sd_bipush (n := 10) (by decide) (by decide +kernel) (by decide +kernel)) (
  And.intro (sd_ine (off := 12) (by decide +kernel) (by decide +kernel) (by decide +kernel)) (
  And.intro (sd_aload_n (k := 0) rfl (by decide +kernel) (by decide +kernel)) (
  And.intro (sd_iconst (n := 2) (by decide) (by decide +kernel) (by decide +kernel)) (
  And.intro (sd_aload_n (k := 0) rfl (by decide +kernel) (by decide +kernel)) (
  And.intro (sd_getI cf7 (by decide) (by decide) wf_7_191 (by decide +kernel) (by decide +kernel)) (
  And.intro (sd_VV mg_140 (by decide +kernel) wm_7_227 wn_140 wv_140 rfl rfl (by decide +kernel)) (
  And.intro (sd_aload_n (k := 0) rfl (by decide +kernel) (by decide +kernel)) (
  And.intro (sd_dup (by decide +kernel) (by decide +kernel)) (
  And.intro (sd_getI cf7 (by decide) (by decide) wf_7_262 (by decide +kernel) (by decide +kernel)) (
  And.intro (sd_iconst (n := 1) (by decide) (by decide +kernel) (by decide +kernel)) (
  And.intro (sd_iadd (by decide +kernel) (by decide +kernel)) (
  And.intro (sd_putI cf7 (by decide) (by decide) rfl rfl wf_7_262 (by decide +kernel) (by decide +kernel)) (
  And.intro (sd_aload_n (k := 0) rfl (by decide +kernel) (by decide +kernel)) (
  And.intro (sd_getR cf7 (by decide) (by decide) wf_7_108 (by decide +kernel) (by decide +kernel)) (
  And.intro (sd_aload_n (k := 0) rfl (by decide +kernel) (by decide +kernel)) (
  And.intro (sd_getI cf7 (by decide) (by decide) wf_7_259 (by decide +kernel) (by decide +kernel)) (
  And.intro (sd_iload_n (k := 1) rfl (by decide +kernel) (by decide +kernel)) (
  And.intro (sd_iast (by decide +kernel) (by decide +kernel)) (
  And.intro (sd_aload_n (k := 0) rfl (by decide +kernel) (by decide +kernel)) (
  And.intro (sd_dup (by decide +kernel) (by decide +kernel)) (
  And.intro (sd_getI cf7 (by decide) (by decide) wf_7_259 (by decide +kernel) (by decide +kernel)) (
  And.intro (sd_iconst (n := 1) (by decide) (by decide +kernel) (by decide +kernel)) (
  And.intro (sd_iadd (by decide +kernel) (by decide +kernel)) (
  And.intro (sd_putI cf7 (by decide) (by decide) rfl rfl wf_7_259 (by decide +kernel) (by decide +kernel)) (
  And.intro (sd_vret (by decide +kernel) rfl) (
  trivial))))))))))))))))))))))))))))))))))
set_option maxRecDepth 100000 in
set_option maxHeartbeats 8000000 in
theorem sn_155 : Sns 155 0 tMo_answers := And.intro (sd_ms _ (sd_aload_n (k := 0) rfl (by decide +kernel) (by decide +kernel))) (
  And.intro (sd_VI mg_153 (by decide +kernel) wm_7_265 wn_153 wv_153 rfl rfl (by decide +kernel)) (
  And.intro (sd_iload_n (k := 1) rfl (by decide +kernel) (by decide +kernel)) (
  And.intro (sd_ine (off := 49) (by decide +kernel) (by decide +kernel) (by decide +kernel)) (
  And.intro (sd_aload_n (k := 0) rfl (by decide +kernel) (by decide +kernel)) (
  And.intro (sd_getI cf7 (by decide) (by decide) wf_7_188 (by decide +kernel) (by decide +kernel)) (
  And.intro (sd_zne (off := 42) (by decide +kernel) (by decide +kernel) (by decide +kernel)) (
  And.intro (sd_aload_n (k := 0) rfl (by decide +kernel) (by decide +kernel)) (
  And.intro (sd_iload_n (k := 1) rfl (by decide +kernel) (by decide +kernel)) (
  And.intro (sd_iconst (n := 0) (by decide) (by decide +kernel) (by decide +kernel)) (
  And.intro (sd_VV mg_146 (by decide +kernel) wm_7_243 wn_146 wv_146 rfl rfl (by decide +kernel)) (
  And.intro (sd_aload_n (k := 0) rfl (by decide +kernel) (by decide +kernel)) (
  And.intro (sd_dup (by decide +kernel) (by decide +kernel)) (
  And.intro (sd_getI cf7 (by decide) (by decide) wf_7_259 (by decide +kernel) (by decide +kernel)) (
  And.intro (sd_iconst (n := 1) (by decide) (by decide +kernel) (by decide +kernel)) (
  And.intro (sd_isub (by decide +kernel) (by decide +kernel)) (
  And.intro (sd_putI cf7 (by decide) (by decide) rfl rfl wf_7_259 (by decide +kernel) (by decide +kernel)) (
  And.intro (sd_aload_n (k := 0) rfl (by decide +kernel) (by decide +kernel)) (
  And.intro (sd_dup (by decide +kernel) (by decide +kernel)) (
  And.intro (sd_getI cf7 (by decide) (by decide) wf_7_262 (by decide +kernel) (by decide +kernel)) (
  And.intro (sd_iload_n (k := 1) rfl (by decide +kernel) (by decide +kernel)) (
  And.intro (sd_bipush (n := 9) (by decide) (by decide +kernel) (by decide +kernel)) (
  And.intro (sd_ine (off := 7) (by decide +kernel) (by decide +kernel) (by decide +kernel)) (
  And.intro (sd_iconst (n := 1) (by decide) (by decide +kernel) (by decide +kernel)) (
  And.intro (sd_go (off := 4) (by decide +kernel) (by decide +kernel)) (
  And.intro (sd_iconst (n := 0) (by decide) (by decide +kernel) (by decide +kernel)) (
  And.intro (sd_isub (by decide +kernel) (by decide +kernel)) (
  And.intro (sd_putI cf7 (by decide) (by decide) rfl rfl wf_7_262 (by decide +kernel) (by decide +kernel)) (
  And.intro (sd_go (off := (-51)) (by decide +kernel) (by decide +kernel)) (
  And.intro (sd_vret (by decide +kernel) rfl) (
  trivial))))))))))))))))))))))))))))))
set_option maxRecDepth 100000 in
set_option maxHeartbeats 8000000 in
theorem sn_156 : Sns 156 0 tMo_fact := And.intro (sd_aload_n (k := 0) rfl (by decide +kernel) (by decide +kernel)) (
  And.intro (sd_VV mg_142 (by decide +kernel) wm_7_211 wn_142 wv_142 rfl rfl (by decide +kernel)) (
  And.intro (sd_aload_n (k := 0) rfl (by decide +kernel) (by decide +kernel)) (
  And.intro (sd_ldcSw (idx := 268) (by decide +kernel) (by decide +kernel) (by decide +kernel)) (
  And.intro (sd_VI mg_144 (by decide +kernel) wm_7_214 wn_144 wv_144 rfl rfl (by decide +kernel)) (
  And.intro (sd_zeq (off := 21) (by decide +kernel) (by decide +kernel) (by decide +kernel)) (
  And.intro (sd_aload_n (k := 0) rfl (by decide +kernel) (by decide +kernel)) (
  And.intro (sd_bipush (n := 9) (by decide) (by decide +kernel) (by decide +kernel)) (
  And.intro (sd_VV mg_154 (by decide +kernel) wm_7_270 wn_154 wv_154 rfl rfl (by decide +kernel)) (
  And.intro (sd_aload_n (k := 0) rfl (by decide +kernel) (by decide +kernel)) (
  And.intro (sd_dup (by decide +kernel) (by decide +kernel)) (
  And.intro (sd_getI cf7 (by decide) (by decide) wf_7_191 (by decide +kernel) (by decide +kernel)) (
  And.intro (sd_iconst (n := 3) (by decide) (by decide +kernel) (by decide +kernel)) (
  And.intro (sd_iadd (by decide +kernel) (by decide +kernel)) (
  And.intro (sd_putI cf7 (by decide) (by decide) rfl rfl wf_7_191 (by decide +kernel) (by decide +kernel)) (
  And.intro (sd_iconst (n := 0) (by decide) (by decide +kernel) (by decide +kernel)) (
  And.intro (sd_zret (by decide +kernel) rfl) (
  And.intro (sd_aload_n (k := 0) rfl (by decide +kernel) (by decide +kernel)) (
  And.intro (sd_VI mg_141 (by decide +kernel) wm_7_194 wn_141 wv_141 rfl rfl (by decide +kernel)) (
  And.intro (sd_bipush (n := 91) (by decide) (by decide +kernel) (by decide +kernel)) (
  And.intro (sd_ine (off := 21) (by decide +kernel) (by decide +kernel) (by decide +kernel)) (
  And.intro (sd_aload_n (k := 0) rfl (by decide +kernel) (by decide +kernel)) (
  And.intro (sd_bipush (n := 12) (by decide) (by decide +kernel) (by decide +kernel)) (
  And.intro (sd_VV mg_154 (by decide +kernel) wm_7_270 wn_154 wv_154 rfl rfl (by decide +kernel)) (
  And.intro (sd_aload_n (k := 0) rfl (by decide +kernel) (by decide +kernel)) (
  And.intro (sd_dup (by decide +kernel) (by decide +kernel)) (
  And.intro (sd_getI cf7 (by decide) (by decide) wf_7_191 (by decide +kernel) (by decide +kernel)) (
  And.intro (sd_iconst (n := 1) (by decide) (by decide +kernel) (by decide +kernel)) (
  And.intro (sd_iadd (by decide +kernel) (by decide +kernel)) (
  And.intro (sd_putI cf7 (by decide) (by decide) rfl rfl wf_7_191 (by decide +kernel) (by decide +kernel)) (
  And.intro (sd_iconst (n := 0) (by decide) (by decide +kernel) (by decide +kernel)) (
  And.intro (sd_zret (by decide +kernel) rfl) (
  And.intro (sd_aload_n (k := 0) rfl (by decide +kernel) (by decide +kernel)) (
  And.intro (sd_VV mg_152 (by decide +kernel) wm_7_273 wn_152 wv_152 rfl rfl (by decide +kernel)) (
  And.intro (sd_iconst (n := 1) (by decide) (by decide +kernel) (by decide +kernel)) (
  And.intro (sd_zret (by decide +kernel) rfl) (
  trivial))))))))))))))))))))))))))))))))))))
set_option maxRecDepth 100000 in
set_option maxHeartbeats 8000000 in
theorem sn_157 : Sns 157 0 tMo_test := And.intro (sd_aload_n (k := 0) rfl (by decide +kernel) (by decide +kernel)) (
  And.intro (sd_iconst (n := 0) (by decide) (by decide +kernel) (by decide +kernel)) (
  And.intro (sd_putI cf7 (by decide) (by decide) rfl rfl wf_7_259 (by decide +kernel) (by decide +kernel)) (
  And.intro (sd_iconst (n := 1) (by decide) (by decide +kernel) (by decide +kernel)) (
  And.intro (sd_istore_n (k := 1) rfl (by decide) (by decide +kernel) (by decide +kernel)) (
  And.intro (sd_iconst (n := 1) (by decide) (by decide +kernel) (by decide +kernel)) (
  And.intro (sd_istore_n (k := 2) rfl (by decide) (by decide +kernel) (by decide +kernel)) (
  And.intro (sd_ms _ (sd_iload_n (k := 2) rfl (by decide +kernel) (by decide +kernel))) (
  And.intro (sd_zeq (off := 192) (by decide +kernel) (by decide +kernel) (by decide +kernel)) (
  And.intro (sd_aload_n (k := 0) rfl (by decide +kernel) (by decide +kernel)) (
  And.intro (sd_getI cf7 (by decide) (by decide) wf_7_188 (by decide +kernel) (by decide +kernel)) (
  And.intro (sd_zne (off := 185) (by decide +kernel) (by decide +kernel) (by decide +kernel)) (
  And.intro (sd_iload_n (k := 1) rfl (by decide +kernel) (by decide +kernel)) (
  And.intro (sd_zeq (off := 19) (by decide +kernel) (by decide +kernel) (by decide +kernel)) (
  And.intro (sd_aload_n (k := 0) rfl (by decide +kernel) (by decide +kernel)) (
  And.intro (sd_VI mg_156 (by decide +kernel) wm_7_276 wn_156 wv_156 rfl rfl (by decide +kernel)) (
  And.intro (sd_zne (off := 7) (by decide +kernel) (by decide +kernel) (by decide +kernel)) (
  And.intro (sd_iconst (n := 1) (by decide) (by decide +kernel) (by decide +kernel)) (
  And.intro (sd_go (off := 4) (by decide +kernel) (by decide +kernel)) (
  And.intro (sd_iconst (n := 0) (by decide) (by decide +kernel) (by decide +kernel)) (
  And.intro (sd_istore_n (k := 1) rfl (by decide) (by decide +kernel) (by decide +kernel)) (
  And.intro (sd_go (off := (-28)) (by decide +kernel) (by decide +kernel)) (
  And.intro (sd_aload_n (k := 0) rfl (by decide +kernel) (by decide +kernel)) (
  And.intro (sd_bipush (n := 9) (by decide) (by decide +kernel) (by decide +kernel)) (
  And.intro (sd_VV mg_155 (by decide +kernel) wm_7_279 wn_155 wv_155 rfl rfl (by decide +kernel)) (
  And.intro (sd_aload_n (k := 0) rfl (by decide +kernel) (by decide +kernel)) (
  And.intro (sd_VV mg_142 (by decide +kernel) wm_7_211 wn_142 wv_142 rfl rfl (by decide +kernel)) (
  And.intro (sd_aload_n (k := 0) rfl (by decide +kernel) (by decide +kernel)) (
  And.intro (sd_ldcSw (idx := 282) (by decide +kernel) (by decide +kernel) (by decide +kernel)) (
  And.intro (sd_VI mg_144 (by decide +kernel) wm_7_214 wn_144 wv_144 rfl rfl (by decide +kernel)) (
  And.intro (sd_istore_n (k := 3) rfl (by decide) (by decide +kernel) (by decide +kernel)) (
  And.intro (sd_aload_n (k := 0) rfl (by decide +kernel) (by decide +kernel)) (
  And.intro (sd_ldcSw (idx := 284) (by decide +kernel) (by decide +kernel) (by decide +kernel)) (
  And.intro (sd_VI mg_144 (by decide +kernel) wm_7_214 wn_144 wv_144 rfl rfl (by decide +kernel)) (
  And.intro (sd_istore (by decide) (by decide +kernel) (by decide +kernel)) (
  And.intro (sd_aload_n (k := 0) rfl (by decide +kernel) (by decide +kernel)) (
  And.intro (sd_bipush (n := 10) (by decide) (by decide +kernel) (by decide +kernel)) (
  And.intro (sd_VV mg_155 (by decide +kernel) wm_7_279 wn_155 wv_155 rfl rfl (by decide +kernel)) (
  And.intro (sd_iload_n (k := 3) rfl (by decide +kernel) (by decide +kernel)) (
  And.intro (sd_zne (off := 8) (by decide +kernel) (by decide +kernel) (by decide +kernel)) (
  And.intro (sd_iload (by decide +kernel) (by decide +kernel)) (
  And.intro (sd_zeq (off := 52) (by decide +kernel) (by decide +kernel) (by decide +kernel)) (
  And.intro (sd_ms _ (sd_iload (by decide +kernel) (by decide +kernel))) (
  And.intro (sd_zeq (off := 9) (by decide +kernel) (by decide +kernel) (by decide +kernel)) (
  And.intro (sd_aload_n (k := 0) rfl (by decide +kernel) (by decide +kernel)) (
  And.intro (sd_bipush (n := 11) (by decide) (by decide +kernel) (by decide +kernel)) (
  And.intro (sd_VV mg_155 (by decide +kernel) wm_7_279 wn_155 wv_155 rfl rfl (by decide +kernel)) (
  And.intro (sd_aload_n (k := 0) rfl (by decide +kernel) (by decide +kernel)) (
  And.intro (sd_iload_n (k := 3) rfl (by decide +kernel) (by decide +kernel)) (
  And.intro (sd_zeq (off := 8) (by decide +kernel) (by decide +kernel) (by decide +kernel)) (
  And.intro (sd_bipush (n := 10) (by decide) (by decide +kernel) (by decide +kernel)) (
  And.intro (sd_go (off := 5) (by decide +kernel) (by decide +kernel)) (
  And.intro (sd_bipush (n := 11) (by decide) (by decide +kernel) (by decide +kernel)) (
  And.intro (sd_VV mg_154 (by decide +kernel) wm_7_270 wn_154 wv_154 rfl rfl (by decide +kernel)) (
  And.intro (sd_aload_n (k := 0) rfl (by decide +kernel) (by decide +kernel)) (
  And.intro (sd_dup (by decide +kernel) (by decide +kernel)) (
  And.intro (sd_getI cf7 (by decide) (by decide) wf_7_191 (by decide +kernel) (by decide +kernel)) (
  And.intro (sd_iload_n (k := 3) rfl (by decide +kernel) (by decide +kernel)) (
  And.intro (sd_zeq (off := 7) (by decide +kernel) (by decide +kernel) (by decide +kernel)) (
  And.intro (sd_iconst (n := 3) (by decide) (by decide +kernel) (by decide +kernel)) (
  And.intro (sd_go (off := 4) (by decide +kernel) (by decide +kernel)) (
  And.intro (sd_iconst (n := 2) (by decide) (by decide +kernel) (by decide +kernel)) (
  And.intro (sd_iadd (by decide +kernel) (by decide +kernel)) (
  And.intro (sd_putI cf7 (by decide) (by decide) rfl rfl wf_7_191 (by decide +kernel) (by decide +kernel)) (
  And.intro (sd_iconst (n := 1) (by decide) (by decide +kernel) (by decide +kernel)) (
  And.intro (sd_istore_n (k := 1) rfl (by decide) (by decide +kernel) (by decide +kernel)) (
  And.intro (sd_go (off := 71) (by decide +kernel) (by decide +kernel)) (
  And.intro (sd_aload_n (k := 0) rfl (by decide +kernel) (by decide +kernel)) (
  And.intro (sd_bipush (n := 11) (by decide) (by decide +kernel) (by decide +kernel)) (
  And.intro (sd_VV mg_155 (by decide +kernel) wm_7_279 wn_155 wv_155 rfl rfl (by decide +kernel)) (
  And.intro (sd_aload_n (k := 0) rfl (by decide +kernel) (by decide +kernel)) (
  And.intro (sd_VI mg_153 (by decide +kernel) wm_7_265 wn_153 wv_153 rfl rfl (by decide +kernel)) (
  And.intro (sd_bipush (n := 12) (by decide) (by decide +kernel) (by decide +kernel)) (
  And.intro (sd_ine (off := 54) (by decide +kernel) (by decide +kernel) (by decide +kernel)) (
  And.intro (sd_aload_n (k := 0) rfl (by decide +kernel) (by decide +kernel)) (
  And.intro (sd_VI mg_141 (by decide +kernel) wm_7_194 wn_141 wv_141 rfl rfl (by decide +kernel)) (
  And.intro (sd_bipush (n := 93) (by decide) (by decide +kernel) (by decide +kernel)) (
  And.intro (sd_ieq (off := 12) (by decide +kernel) (by decide +kernel) (by decide +kernel)) (
  And.intro (sd_aload_n (k := 0) rfl (by decide +kernel) (by decide +kernel)) (
  And.intro (sd_iconst (n := 0) (by decide) (by decide +kernel) (by decide +kernel)) (
  And.intro (sd_aload_n (k := 0) rfl (by decide +kernel) (by decide +kernel)) (
  And.intro (sd_getI cf7 (by decide) (by decide) wf_7_191 (by decide +kernel) (by decide +kernel)) (
  And.intro (sd_VV mg_140 (by decide +kernel) wm_7_227 wn_140 wv_140 rfl rfl (by decide +kernel)) (
  And.intro (sd_aload_n (k := 0) rfl (by decide +kernel) (by decide +kernel)) (
  And.intro (sd_dup (by decide +kernel) (by decide +kernel)) (
  And.intro (sd_getI cf7 (by decide) (by decide) wf_7_191 (by decide +kernel) (by decide +kernel)) (
  And.intro (sd_iconst (n := 1) (by decide) (by decide +kernel) (by decide +kernel)) (
  And.intro (sd_iadd (by decide +kernel) (by decide +kernel)) (
  And.intro (sd_putI cf7 (by decide) (by decide) rfl rfl wf_7_191 (by decide +kernel) (by decide +kernel)) (
  And.intro (sd_aload_n (k := 0) rfl (by decide +kernel) (by decide +kernel)) (
  And.intro (sd_dup (by decide +kernel) (by decide +kernel)) (
  And.intro (sd_getI cf7 (by decide) (by decide) wf_7_259 (by decide +kernel) (by decide +kernel)) (
  And.intro (sd_iconst (n := 1) (by decide) (by decide +kernel) (by decide +kernel)) (
  And.intro (sd_isub (by decide +kernel) (by decide +kernel)) (
  And.intro (sd_putI cf7 (by decide) (by decide) rfl rfl wf_7_259 (by decide +kernel) (by decide +kernel)) (
  And.intro (sd_aload_n (k := 0) rfl (by decide +kernel) (by decide +kernel)) (
  And.intro (sd_dup (by decide +kernel) (by decide +kernel)) (
  And.intro (sd_getI cf7 (by decide) (by decide) wf_7_262 (by decide +kernel) (by decide +kernel)) (
  And.intro (sd_iconst (n := 1) (by decide) (by decide +kernel) (by decide +kernel)) (
  And.intro (sd_isub (by decide +kernel) (by decide +kernel)) (
  And.intro (sd_putI cf7 (by decide) (by decide) rfl rfl wf_7_262 (by decide +kernel) (by decide +kernel)) (
  And.intro (sd_go (off := 5) (by decide +kernel) (by decide +kernel)) (
  And.intro (sd_iconst (n := 0) (by decide) (by decide +kernel) (by decide +kernel)) (
  And.intro (sd_istore_n (k := 2) rfl (by decide) (by decide +kernel) (by decide +kernel)) (
  And.intro (sd_go (off := (-190)) (by decide +kernel) (by decide +kernel)) (
  And.intro (sd_vret (by decide +kernel) rfl) (
  trivial))))))))))))))))))))))))))))))))))))))))))))))))))))))))))))))))))))))))))))))))))))))))))))))))))))))))))
set_option maxRecDepth 100000 in
set_option maxHeartbeats 8000000 in
theorem sn_158 : Sns 158 0 tMo_amount := And.intro (sd_aload_n (k := 0) rfl (by decide +kernel) (by decide +kernel)) (
  And.intro (sd_VV mg_142 (by decide +kernel) wm_7_211 wn_142 wv_142 rfl rfl (by decide +kernel)) (
  And.intro (sd_aload_n (k := 0) rfl (by decide +kernel) (by decide +kernel)) (
  And.intro (sd_getI cf7 (by decide) (by decide) wf_7_191 (by decide +kernel) (by decide +kernel)) (
  And.intro (sd_istore_n (k := 3) rfl (by decide) (by decide +kernel) (by decide +kernel)) (
  And.intro (sd_aload_n (k := 0) rfl (by decide +kernel) (by decide +kernel)) (
  And.intro (sd_getI cf7 (by decide) (by decide) wf_7_188 (by decide +kernel) (by decide +kernel)) (
  And.intro (sd_zne (off := 12) (by decide +kernel) (by decide +kernel) (by decide +kernel)) (
  And.intro (sd_aload_n (k := 0) rfl (by decide +kernel) (by decide +kernel)) (
  And.intro (sd_ldc wk_7_235 (by decide +kernel) (by decide +kernel)) (
  And.intro (sd_VI mg_148 (by decide +kernel) wm_7_236 wn_148 wv_148 rfl rfl (by decide +kernel)) (
  And.intro (sd_go (off := 4) (by decide +kernel) (by decide +kernel)) (
  And.intro (sd_iconst (n := 0) (by decide) (by decide +kernel) (by decide +kernel)) (
  And.intro (sd_istore (by decide) (by decide +kernel) (by decide +kernel)) (
  And.intro (sd_aload_n (k := 0) rfl (by decide +kernel) (by decide +kernel)) (
  And.intro (sd_getI cf7 (by decide) (by decide) wf_7_188 (by decide +kernel) (by decide +kernel)) (
  And.intro (sd_zne (off := 22) (by decide +kernel) (by decide +kernel) (by decide +kernel)) (
  And.intro (sd_iload (by decide +kernel) (by decide +kernel)) (
  And.intro (sd_i2l (by decide +kernel) (by decide +kernel)) (
  And.intro (sd_iload_n (k := 1) rfl (by decide +kernel) (by decide +kernel)) (
  And.intro (sd_i2l (by decide +kernel) (by decide +kernel)) (
  And.intro (sd_iload_n (k := 2) rfl (by decide +kernel) (by decide +kernel)) (
  And.intro (sd_i2l (by decide +kernel) (by decide +kernel)) (
  And.intro (sd_SI mg_130 (by decide +kernel) wm_7_158 wt_130 (by decide +kernel)) (
  And.intro (sd_zne (off := 9) (by decide +kernel) (by decide +kernel) (by decide +kernel)) (
  And.intro (sd_aload_n (k := 0) rfl (by decide +kernel) (by decide +kernel)) (
  And.intro (sd_iconst (n := 1) (by decide) (by decide +kernel) (by decide +kernel)) (
  And.intro (sd_iload_n (k := 3) rfl (by decide +kernel) (by decide +kernel)) (
  And.intro (sd_VV mg_140 (by decide +kernel) wm_7_227 wn_140 wv_140 rfl rfl (by decide +kernel)) (
  And.intro (sd_iload (by decide +kernel) (by decide +kernel)) (
  And.intro (sd_iret (by decide +kernel) rfl) (
  trivial)))))))))))))))))))))))))))))))
set_option maxRecDepth 100000 in
set_option maxHeartbeats 8000000 in
theorem sn_159 : Sns 159 0 tMo_roadsWord := And.intro (sd_iload_n (k := 0) rfl (by decide +kernel) (by decide +kernel)) (
  And.intro (sd_tab (len := 35) (dflt := 53) (lo := 0) (hi := 4) (offs := #[35, 39, 42, 45, 49]) (by decide +kernel) (by decide +kernel) (by decide +kernel) (by decide +kernel)) (
  And.intro (sd_ldcSw (idx := 286) (by decide +kernel) (by decide +kernel) (by decide +kernel)) (
  And.intro (sd_aret (by decide +kernel) ⟨_, rfl⟩) (
  And.intro (sd_ldcS (idx := 171) (by decide +kernel) (by decide +kernel) (by decide +kernel)) (
  And.intro (sd_aret (by decide +kernel) ⟨_, rfl⟩) (
  And.intro (sd_ldcS (idx := 186) (by decide +kernel) (by decide +kernel) (by decide +kernel)) (
  And.intro (sd_aret (by decide +kernel) ⟨_, rfl⟩) (
  And.intro (sd_ldcSw (idx := 288) (by decide +kernel) (by decide +kernel) (by decide +kernel)) (
  And.intro (sd_aret (by decide +kernel) ⟨_, rfl⟩) (
  And.intro (sd_ldcSw (idx := 290) (by decide +kernel) (by decide +kernel) (by decide +kernel)) (
  And.intro (sd_aret (by decide +kernel) ⟨_, rfl⟩) (
  And.intro (sd_ldcS (idx := 169) (by decide +kernel) (by decide +kernel) (by decide +kernel)) (
  And.intro (sd_aret (by decide +kernel) ⟨_, rfl⟩) (
  trivial))))))))))))))
set_option maxRecDepth 100000 in
set_option maxHeartbeats 8000000 in
theorem sn_160 : Sns 160 0 tMo_readsWay := And.intro (sd_aload_n (k := 0) rfl (by decide +kernel) (by decide +kernel)) (
  And.intro (sd_iconst (n := 0) (by decide) (by decide +kernel) (by decide +kernel)) (
  And.intro (sd_aload_n (k := 0) rfl (by decide +kernel) (by decide +kernel)) (
  And.intro (sd_getR cf7 (by decide) (by decide) wf_7_61 (by decide +kernel) (by decide +kernel)) (
  And.intro (sd_iconst (n := 1) (by decide) (by decide +kernel) (by decide +kernel)) (
  And.intro (sd_iald (by decide +kernel) (by decide +kernel)) (
  And.intro (sd_iconst (n := 1) (by decide) (by decide +kernel) (by decide +kernel)) (
  And.intro (sd_isub (by decide +kernel) (by decide +kernel)) (
  And.intro (sd_VI mg_158 (by decide +kernel) wm_7_292 wn_158 wv_158 rfl rfl (by decide +kernel)) (
  And.intro (sd_istore_n (k := 1) rfl (by decide) (by decide +kernel) (by decide +kernel)) (
  And.intro (sd_aload_n (k := 0) rfl (by decide +kernel) (by decide +kernel)) (
  And.intro (sd_VV mg_142 (by decide +kernel) wm_7_211 wn_142 wv_142 rfl rfl (by decide +kernel)) (
  And.intro (sd_aload_n (k := 0) rfl (by decide +kernel) (by decide +kernel)) (
  And.intro (sd_getI cf7 (by decide) (by decide) wf_7_191 (by decide +kernel) (by decide +kernel)) (
  And.intro (sd_istore_n (k := 2) rfl (by decide) (by decide +kernel) (by decide +kernel)) (
  And.intro (sd_aload_n (k := 0) rfl (by decide +kernel) (by decide +kernel)) (
  And.intro (sd_iconst (n := 0) (by decide) (by decide +kernel) (by decide +kernel)) (
  And.intro (sd_aload_n (k := 0) rfl (by decide +kernel) (by decide +kernel)) (
  And.intro (sd_getR cf7 (by decide) (by decide) wf_7_61 (by decide +kernel) (by decide +kernel)) (
  And.intro (sd_iconst (n := 1) (by decide) (by decide +kernel) (by decide +kernel)) (
  And.intro (sd_iald (by decide +kernel) (by decide +kernel)) (
  And.intro (sd_iconst (n := 1) (by decide) (by decide +kernel) (by decide +kernel)) (
  And.intro (sd_isub (by decide +kernel) (by decide +kernel)) (
  And.intro (sd_VI mg_158 (by decide +kernel) wm_7_292 wn_158 wv_158 rfl rfl (by decide +kernel)) (
  And.intro (sd_istore_n (k := 3) rfl (by decide) (by decide +kernel) (by decide +kernel)) (
  And.intro (sd_aload_n (k := 0) rfl (by decide +kernel) (by decide +kernel)) (
  And.intro (sd_getI cf7 (by decide) (by decide) wf_7_188 (by decide +kernel) (by decide +kernel)) (
  And.intro (sd_zne (off := 14) (by decide +kernel) (by decide +kernel) (by decide +kernel)) (
  And.intro (sd_iload_n (k := 1) rfl (by decide +kernel) (by decide +kernel)) (
  And.intro (sd_iload_n (k := 3) rfl (by decide +kernel) (by decide +kernel)) (
  And.intro (sd_ine (off := 9) (by decide +kernel) (by decide +kernel) (by decide +kernel)) (
  And.intro (sd_aload_n (k := 0) rfl (by decide +kernel) (by decide +kernel)) (
  And.intro (sd_iconst (n := 1) (by decide) (by decide +kernel) (by decide +kernel)) (
  And.intro (sd_iload_n (k := 2) rfl (by decide +kernel) (by decide +kernel)) (
  And.intro (sd_VV mg_140 (by decide +kernel) wm_7_227 wn_140 wv_140 rfl rfl (by decide +kernel)) (
  And.intro (sd_aload_n (k := 0) rfl (by decide +kernel) (by decide +kernel)) (
  And.intro (sd_iconst (n := 1) (by decide) (by decide +kernel) (by decide +kernel)) (
  And.intro (sd_bipush (n := 9) (by decide) (by decide +kernel) (by decide +kernel)) (
  And.intro (sd_VI mg_158 (by decide +kernel) wm_7_292 wn_158 wv_158 rfl rfl (by decide +kernel)) (
  And.intro (sd_istore (by decide) (by decide +kernel) (by decide +kernel)) (
  And.intro (sd_aload_n (k := 0) rfl (by decide +kernel) (by decide +kernel)) (
  And.intro (sd_getI cf7 (by decide) (by decide) wf_7_188 (by decide +kernel) (by decide +kernel)) (
  And.intro (sd_zne (off := 60) (by decide +kernel) (by decide +kernel) (by decide +kernel)) (
  And.intro (sd_aload_n (k := 0) rfl (by decide +kernel) (by decide +kernel)) (
  And.intro (sd_getR cf7 (by decide) (by decide) wf_7_61 (by decide +kernel) (by decide +kernel)) (
  And.intro (sd_iconst (n := 2) (by decide) (by decide +kernel) (by decide +kernel)) (
  And.intro (sd_dup2 (by decide +kernel) (by decide +kernel)) (
  And.intro (sd_iald (by decide +kernel) (by decide +kernel)) (
  And.intro (sd_aload_n (k := 0) rfl (by decide +kernel) (by decide +kernel)) (
  And.intro (sd_getR cf7 (by decide) (by decide) wf_7_67 (by decide +kernel) (by decide +kernel)) (
  And.intro (sd_bipush (n := 8) (by decide) (by decide +kernel) (by decide +kernel)) (
  And.intro (sd_iload_n (k := 1) rfl (by decide +kernel) (by decide +kernel)) (
  And.intro (sd_imul (by decide +kernel) (by decide +kernel)) (
  And.intro (sd_iload_n (k := 3) rfl (by decide +kernel) (by decide +kernel)) (
  And.intro (sd_iadd (by decide +kernel) (by decide +kernel)) (
  And.intro (sd_iald (by decide +kernel) (by decide +kernel)) (
  And.intro (sd_sipush (n := 10000) (by decide) (by decide +kernel) (by decide +kernel)) (
  And.intro (sd_ine (off := 7) (by decide +kernel) (by decide +kernel) (by decide +kernel)) (
  And.intro (sd_iconst (n := 1) (by decide) (by decide +kernel) (by decide +kernel)) (
  And.intro (sd_go (off := 4) (by decide +kernel) (by decide +kernel)) (
  And.intro (sd_iconst (n := 0) (by decide) (by decide +kernel) (by decide +kernel)) (
  And.intro (sd_iadd (by decide +kernel) (by decide +kernel)) (
  And.intro (sd_iast (by decide +kernel) (by decide +kernel)) (
  And.intro (sd_aload_n (k := 0) rfl (by decide +kernel) (by decide +kernel)) (
  And.intro (sd_getR cf7 (by decide) (by decide) wf_7_67 (by decide +kernel) (by decide +kernel)) (
  And.intro (sd_bipush (n := 8) (by decide) (by decide +kernel) (by decide +kernel)) (
  And.intro (sd_iload_n (k := 1) rfl (by decide +kernel) (by decide +kernel)) (
  And.intro (sd_imul (by decide +kernel) (by decide +kernel)) (
  And.intro (sd_iload_n (k := 3) rfl (by decide +kernel) (by decide +kernel)) (
  And.intro (sd_iadd (by decide +kernel) (by decide +kernel)) (
  And.intro (sd_iload (by decide +kernel) (by decide +kernel)) (
  And.intro (sd_iast (by decide +kernel) (by decide +kernel)) (
  And.intro (sd_aload_n (k := 0) rfl (by decide +kernel) (by decide +kernel)) (
  And.intro (sd_getR cf7 (by decide) (by decide) wf_7_67 (by decide +kernel) (by decide +kernel)) (
  And.intro (sd_bipush (n := 8) (by decide) (by decide +kernel) (by decide +kernel)) (
  And.intro (sd_iload_n (k := 3) rfl (by decide +kernel) (by decide +kernel)) (
  And.intro (sd_imul (by decide +kernel) (by decide +kernel)) (
  And.intro (sd_iload_n (k := 1) rfl (by decide +kernel) (by decide +kernel)) (
  And.intro (sd_iadd (by decide +kernel) (by decide +kernel)) (
  And.intro (sd_iload (by decide +kernel) (by decide +kernel)) (
  And.intro (sd_iast (by decide +kernel) (by decide +kernel)) (
  And.intro (sd_vret (by decide +kernel) rfl) (
  trivial))))))))))))))))))))))))))))))))))))))))))))))))))))))))))))))))))))))))))))))))))
set_option maxRecDepth 100000 in
set_option maxHeartbeats 8000000 in
theorem sn_161 : Sns 161 0 tMo_readsSentence := And.intro (sd_aload_n (k := 0) rfl (by decide +kernel) (by decide +kernel)) (
  And.intro (sd_getR cf7 (by decide) (by decide) wf_7_61 (by decide +kernel) (by decide +kernel)) (
  And.intro (sd_iconst (n := 3) (by decide) (by decide +kernel) (by decide +kernel)) (
  And.intro (sd_iald (by decide +kernel) (by decide +kernel)) (
  And.intro (sd_istore_n (k := 1) rfl (by decide) (by decide +kernel) (by decide +kernel)) (
  And.intro (sd_aload_n (k := 0) rfl (by decide +kernel) (by decide +kernel)) (
  And.intro (sd_getR cf7 (by decide) (by decide) wf_7_70 (by decide +kernel) (by decide +kernel)) (
  And.intro (sd_iload_n (k := 1) rfl (by decide +kernel) (by decide +kernel)) (
  And.intro (sd_aload_n (k := 0) rfl (by decide +kernel) (by decide +kernel)) (
  And.intro (sd_iconst (n := 0) (by decide) (by decide +kernel) (by decide +kernel)) (
  And.intro (sd_aload_n (k := 0) rfl (by decide +kernel) (by decide +kernel)) (
  And.intro (sd_getR cf7 (by decide) (by decide) wf_7_61 (by decide +kernel) (by decide +kernel)) (
  And.intro (sd_iconst (n := 1) (by decide) (by decide +kernel) (by decide +kernel)) (
  And.intro (sd_iald (by decide +kernel) (by decide +kernel)) (
  And.intro (sd_iconst (n := 1) (by decide) (by decide +kernel) (by decide +kernel)) (
  And.intro (sd_isub (by decide +kernel) (by decide +kernel)) (
  And.intro (sd_VI mg_158 (by decide +kernel) wm_7_292 wn_158 wv_158 rfl rfl (by decide +kernel)) (
  And.intro (sd_iast (by decide +kernel) (by decide +kernel)) (
  And.intro (sd_aload_n (k := 0) rfl (by decide +kernel) (by decide +kernel)) (
  And.intro (sd_getR cf7 (by decide) (by decide) wf_7_73 (by decide +kernel) (by decide +kernel)) (
  And.intro (sd_iload_n (k := 1) rfl (by decide +kernel) (by decide +kernel)) (
  And.intro (sd_aload_n (k := 0) rfl (by decide +kernel) (by decide +kernel)) (
  And.intro (sd_iconst (n := 0) (by decide) (by decide +kernel) (by decide +kernel)) (
  And.intro (sd_sipush (n := 299) (by decide) (by decide +kernel) (by decide +kernel)) (
  And.intro (sd_VI mg_158 (by decide +kernel) wm_7_292 wn_158 wv_158 rfl rfl (by decide +kernel)) (
  And.intro (sd_iast (by decide +kernel) (by decide +kernel)) (
  And.intro (sd_aload_n (k := 0) rfl (by decide +kernel) (by decide +kernel)) (
  And.intro (sd_getR cf7 (by decide) (by decide) wf_7_76 (by decide +kernel) (by decide +kernel)) (
  And.intro (sd_iload_n (k := 1) rfl (by decide +kernel) (by decide +kernel)) (
  And.intro (sd_aload_n (k := 0) rfl (by decide +kernel) (by decide +kernel)) (
  And.intro (sd_iconst (n := 0) (by decide) (by decide +kernel) (by decide +kernel)) (
  And.intro (sd_bipush (n := 99) (by decide) (by decide +kernel) (by decide +kernel)) (
  And.intro (sd_VI mg_158 (by decide +kernel) wm_7_292 wn_158 wv_158 rfl rfl (by decide +kernel)) (
  And.intro (sd_iast (by decide +kernel) (by decide +kernel)) (
  And.intro (sd_aload_n (k := 0) rfl (by decide +kernel) (by decide +kernel)) (
  And.intro (sd_getR cf7 (by decide) (by decide) wf_7_61 (by decide +kernel) (by decide +kernel)) (
  And.intro (sd_iconst (n := 3) (by decide) (by decide +kernel) (by decide +kernel)) (
  And.intro (sd_dup2 (by decide +kernel) (by decide +kernel)) (
  And.intro (sd_iald (by decide +kernel) (by decide +kernel)) (
  And.intro (sd_iconst (n := 1) (by decide) (by decide +kernel) (by decide +kernel)) (
  And.intro (sd_iadd (by decide +kernel) (by decide +kernel)) (
  And.intro (sd_iast (by decide +kernel) (by decide +kernel)) (
  And.intro (sd_vret (by decide +kernel) rfl) (
  trivial)))))))))))))))))))))))))))))))))))))))))))
set_option maxRecDepth 100000 in
set_option maxHeartbeats 8000000 in
theorem sn_162 : Sns 162 0 tMo_roadsPart := And.intro (sd_iload_n (k := 1) rfl (by decide +kernel) (by decide +kernel)) (
  And.intro (sd_tab (len := 35) (dflt := 129) (lo := 0) (hi := 4) (offs := #[35, 51, 76, 115, 122]) (by decide +kernel) (by decide +kernel) (by decide +kernel) (by decide +kernel)) (
  And.intro (sd_aload_n (k := 0) rfl (by decide +kernel) (by decide +kernel)) (
  And.intro (sd_getR cf7 (by decide) (by decide) wf_7_61 (by decide +kernel) (by decide +kernel)) (
  And.intro (sd_iconst (n := 0) (by decide) (by decide +kernel) (by decide +kernel)) (
  And.intro (sd_aload_n (k := 0) rfl (by decide +kernel) (by decide +kernel)) (
  And.intro (sd_iconst (n := 0) (by decide) (by decide +kernel) (by decide +kernel)) (
  And.intro (sd_bipush (n := 99) (by decide) (by decide +kernel) (by decide +kernel)) (
  And.intro (sd_VI mg_158 (by decide +kernel) wm_7_292 wn_158 wv_158 rfl rfl (by decide +kernel)) (
  And.intro (sd_iast (by decide +kernel) (by decide +kernel)) (
  And.intro (sd_go (off := 109) (by decide +kernel) (by decide +kernel)) (
  And.intro (sd_aload_n (k := 0) rfl (by decide +kernel) (by decide +kernel)) (
  And.intro (sd_getR cf7 (by decide) (by decide) wf_7_64 (by decide +kernel) (by decide +kernel)) (
  And.intro (sd_aload_n (k := 0) rfl (by decide +kernel) (by decide +kernel)) (
  And.intro (sd_getR cf7 (by decide) (by decide) wf_7_61 (by decide +kernel) (by decide +kernel)) (
  And.intro (sd_iconst (n := 1) (by decide) (by decide +kernel) (by decide +kernel)) (
  And.intro (sd_iald (by decide +kernel) (by decide +kernel)) (
  And.intro (sd_iconst (n := 0) (by decide) (by decide +kernel) (by decide +kernel)) (
  And.intro (sd_iast (by decide +kernel) (by decide +kernel)) (
  And.intro (sd_aload_n (k := 0) rfl (by decide +kernel) (by decide +kernel)) (
  And.intro (sd_getR cf7 (by decide) (by decide) wf_7_61 (by decide +kernel) (by decide +kernel)) (
  And.intro (sd_iconst (n := 1) (by decide) (by decide +kernel) (by decide +kernel)) (
  And.intro (sd_dup2 (by decide +kernel) (by decide +kernel)) (
  And.intro (sd_iald (by decide +kernel) (by decide +kernel)) (
  And.intro (sd_iconst (n := 1) (by decide) (by decide +kernel) (by decide +kernel)) (
  And.intro (sd_iadd (by decide +kernel) (by decide +kernel)) (
  And.intro (sd_iast (by decide +kernel) (by decide +kernel)) (
  And.intro (sd_go (off := 84) (by decide +kernel) (by decide +kernel)) (
  And.intro (sd_aload_n (k := 0) rfl (by decide +kernel) (by decide +kernel)) (
  And.intro (sd_iconst (n := 0) (by decide) (by decide +kernel) (by decide +kernel)) (
  And.intro (sd_aload_n (k := 0) rfl (by decide +kernel) (by decide +kernel)) (
  And.intro (sd_getR cf7 (by decide) (by decide) wf_7_61 (by decide +kernel) (by decide +kernel)) (
  And.intro (sd_iconst (n := 1) (by decide) (by decide +kernel) (by decide +kernel)) (
  And.intro (sd_iald (by decide +kernel) (by decide +kernel)) (
  And.intro (sd_iconst (n := 1) (by decide) (by decide +kernel) (by decide +kernel)) (
  And.intro (sd_isub (by decide +kernel) (by decide +kernel)) (
  And.intro (sd_VI mg_158 (by decide +kernel) wm_7_292 wn_158 wv_158 rfl rfl (by decide +kernel)) (
  And.intro (sd_istore_n (k := 2) rfl (by decide) (by decide +kernel) (by decide +kernel)) (
  And.intro (sd_aload_n (k := 0) rfl (by decide +kernel) (by decide +kernel)) (
  And.intro (sd_iconst (n := 1) (by decide) (by decide +kernel) (by decide +kernel)) (
  And.intro (sd_bipush (n := 99) (by decide) (by decide +kernel) (by decide +kernel)) (
  And.intro (sd_VI mg_158 (by decide +kernel) wm_7_292 wn_158 wv_158 rfl rfl (by decide +kernel)) (
  And.intro (sd_istore_n (k := 3) rfl (by decide) (by decide +kernel) (by decide +kernel)) (
  And.intro (sd_aload_n (k := 0) rfl (by decide +kernel) (by decide +kernel)) (
  And.intro (sd_getI cf7 (by decide) (by decide) wf_7_188 (by decide +kernel) (by decide +kernel)) (
  And.intro (sd_zne (off := 55) (by decide +kernel) (by decide +kernel) (by decide +kernel)) (
  And.intro (sd_aload_n (k := 0) rfl (by decide +kernel) (by decide +kernel)) (
  And.intro (sd_getR cf7 (by decide) (by decide) wf_7_64 (by decide +kernel) (by decide +kernel)) (
  And.intro (sd_iload_n (k := 2) rfl (by decide +kernel) (by decide +kernel)) (
  And.intro (sd_iload_n (k := 3) rfl (by decide +kernel) (by decide +kernel)) (
  And.intro (sd_iast (by decide +kernel) (by decide +kernel)) (
  And.intro (sd_go (off := 45) (by decide +kernel) (by decide +kernel)) (
  And.intro (sd_aload_n (k := 0) rfl (by decide +kernel) (by decide +kernel)) (
  And.intro (sd_VV mg_160 (by decide +kernel) wm_7_296 wn_160 wv_160 rfl rfl (by decide +kernel)) (
  And.intro (sd_go (off := 38) (by decide +kernel) (by decide +kernel)) (
  And.intro (sd_aload_n (k := 0) rfl (by decide +kernel) (by decide +kernel)) (
  And.intro (sd_VV mg_161 (by decide +kernel) wm_7_299 wn_161 wv_161 rfl rfl (by decide +kernel)) (
  And.intro (sd_go (off := 31) (by decide +kernel) (by decide +kernel)) (
  And.intro (sd_aload_n (k := 0) rfl (by decide +kernel) (by decide +kernel)) (
  And.intro (sd_getR cf7 (by decide) (by decide) wf_7_79 (by decide +kernel) (by decide +kernel)) (
  And.intro (sd_aload_n (k := 0) rfl (by decide +kernel) (by decide +kernel)) (
  And.intro (sd_getR cf7 (by decide) (by decide) wf_7_61 (by decide +kernel) (by decide +kernel)) (
  And.intro (sd_iconst (n := 4) (by decide) (by decide +kernel) (by decide +kernel)) (
  And.intro (sd_iald (by decide +kernel) (by decide +kernel)) (
  And.intro (sd_aload_n (k := 0) rfl (by decide +kernel) (by decide +kernel)) (
  And.intro (sd_iconst (n := 0) (by decide) (by decide +kernel) (by decide +kernel)) (
  And.intro (sd_bipush (n := 99) (by decide) (by decide +kernel) (by decide +kernel)) (
  And.intro (sd_VI mg_158 (by decide +kernel) wm_7_292 wn_158 wv_158 rfl rfl (by decide +kernel)) (
  And.intro (sd_iast (by decide +kernel) (by decide +kernel)) (
  And.intro (sd_aload_n (k := 0) rfl (by decide +kernel) (by decide +kernel)) (
  And.intro (sd_getR cf7 (by decide) (by decide) wf_7_61 (by decide +kernel) (by decide +kernel)) (
  And.intro (sd_iconst (n := 4) (by decide) (by decide +kernel) (by decide +kernel)) (
  And.intro (sd_dup2 (by decide +kernel) (by decide +kernel)) (
  And.intro (sd_iald (by decide +kernel) (by decide +kernel)) (
  And.intro (sd_iconst (n := 1) (by decide) (by decide +kernel) (by decide +kernel)) (
  And.intro (sd_iadd (by decide +kernel) (by decide +kernel)) (
  And.intro (sd_iast (by decide +kernel) (by decide +kernel)) (
  And.intro (sd_vret (by decide +kernel) rfl) (
  trivial))))))))))))))))))))))))))))))))))))))))))))))))))))))))))))))))))))))))))))))
set_option maxRecDepth 100000 in
set_option maxHeartbeats 8000000 in
theorem sn_163 : Sns 163 0 tMo_isFull := And.intro (sd_iload_n (k := 2) rfl (by decide +kernel) (by decide +kernel)) (
  And.intro (sd_bipush (n := 40) (by decide) (by decide +kernel) (by decide +kernel)) (
  And.intro (sd_ieq (off := 24) (by decide +kernel) (by decide +kernel) (by decide +kernel)) (
  And.intro (sd_iload_n (k := 1) rfl (by decide +kernel) (by decide +kernel)) (
  And.intro (sd_zne (off := 7) (by decide +kernel) (by decide +kernel) (by decide +kernel)) (
  And.intro (sd_iconst (n := 1) (by decide) (by decide +kernel) (by decide +kernel)) (
  And.intro (sd_go (off := 4) (by decide +kernel) (by decide +kernel)) (
  And.intro (sd_iconst (n := 0) (by decide) (by decide +kernel) (by decide +kernel)) (
  And.intro (sd_iload_n (k := 2) rfl (by decide +kernel) (by decide +kernel)) (
  And.intro (sd_zne (off := 7) (by decide +kernel) (by decide +kernel) (by decide +kernel)) (
  And.intro (sd_iconst (n := 1) (by decide) (by decide +kernel) (by decide +kernel)) (
  And.intro (sd_go (off := 4) (by decide +kernel) (by decide +kernel)) (
  And.intro (sd_iconst (n := 0) (by decide) (by decide +kernel) (by decide +kernel)) (
  And.intro (sd_ms _ (sd_ieq (off := 5) (by decide +kernel) (by decide +kernel) (by decide +kernel))) (
  And.intro (sd_iconst (n := 1) (by decide) (by decide +kernel) (by decide +kernel)) (
  And.intro (sd_zret (by decide +kernel) rfl) (
  And.intro (sd_iload_n (k := 1) rfl (by decide +kernel) (by decide +kernel)) (
  And.intro (sd_tab (len := 34) (dflt := 93) (lo := 1) (hi := 5) (offs := #[34, 93, 93, 51, 68]) (by decide +kernel) (by decide +kernel) (by decide +kernel) (by decide +kernel)) (
  And.intro (sd_aload_n (k := 0) rfl (by decide +kernel) (by decide +kernel)) (
  And.intro (sd_getR cf7 (by decide) (by decide) wf_7_61 (by decide +kernel) (by decide +kernel)) (
  And.intro (sd_iconst (n := 1) (by decide) (by decide +kernel) (by decide +kernel)) (
  And.intro (sd_iald (by decide +kernel) (by decide +kernel)) (
  And.intro (sd_bipush (n := 8) (by decide) (by decide +kernel) (by decide +kernel)) (
  And.intro (sd_ine (off := 7) (by decide +kernel) (by decide +kernel) (by decide +kernel)) (
  And.intro (sd_iconst (n := 1) (by decide) (by decide +kernel) (by decide +kernel)) (
  And.intro (sd_go (off := 4) (by decide +kernel) (by decide +kernel)) (
  And.intro (sd_iconst (n := 0) (by decide) (by decide +kernel) (by decide +kernel)) (
  And.intro (sd_zret (by decide +kernel) rfl) (
  And.intro (sd_aload_n (k := 0) rfl (by decide +kernel) (by decide +kernel)) (
  And.intro (sd_getR cf7 (by decide) (by decide) wf_7_61 (by decide +kernel) (by decide +kernel)) (
  And.intro (sd_iconst (n := 3) (by decide) (by decide +kernel) (by decide +kernel)) (
  And.intro (sd_iald (by decide +kernel) (by decide +kernel)) (
  And.intro (sd_bipush (n := 6) (by decide) (by decide +kernel) (by decide +kernel)) (
  And.intro (sd_ine (off := 7) (by decide +kernel) (by decide +kernel) (by decide +kernel)) (
  And.intro (sd_iconst (n := 1) (by decide) (by decide +kernel) (by decide +kernel)) (
  And.intro (sd_go (off := 4) (by decide +kernel) (by decide +kernel)) (
  And.intro (sd_iconst (n := 0) (by decide) (by decide +kernel) (by decide +kernel)) (
  And.intro (sd_zret (by decide +kernel) rfl) (
  And.intro (sd_aload_n (k := 0) rfl (by decide +kernel) (by decide +kernel)) (
  And.intro (sd_getR cf7 (by decide) (by decide) wf_7_61 (by decide +kernel) (by decide +kernel)) (
  And.intro (sd_iconst (n := 4) (by decide) (by decide +kernel) (by decide +kernel)) (
  And.intro (sd_iald (by decide +kernel) (by decide +kernel)) (
  And.intro (sd_iconst (n := 3) (by decide) (by decide +kernel) (by decide +kernel)) (
  And.intro (sd_ieq (off := 12) (by decide +kernel) (by decide +kernel) (by decide +kernel)) (
  And.intro (sd_aload_n (k := 0) rfl (by decide +kernel) (by decide +kernel)) (
  And.intro (sd_getR cf7 (by decide) (by decide) wf_7_61 (by decide +kernel) (by decide +kernel)) (
  And.intro (sd_iconst (n := 1) (by decide) (by decide +kernel) (by decide +kernel)) (
  And.intro (sd_iald (by decide +kernel) (by decide +kernel)) (
  And.intro (sd_zne (off := 7) (by decide +kernel) (by decide +kernel) (by decide +kernel)) (
  And.intro (sd_iconst (n := 1) (by decide) (by decide +kernel) (by decide +kernel)) (
  And.intro (sd_go (off := 4) (by decide +kernel) (by decide +kernel)) (
  And.intro (sd_iconst (n := 0) (by decide) (by decide +kernel) (by decide +kernel)) (
  And.intro (sd_zret (by decide +kernel) rfl) (
  And.intro (sd_iconst (n := 0) (by decide) (by decide +kernel) (by decide +kernel)) (
  And.intro (sd_zret (by decide +kernel) rfl) (
  trivial)))))))))))))))))))))))))))))))))))))))))))))))))))))))
set_option maxRecDepth 100000 in
set_option maxHeartbeats 8000000 in
theorem sn_164 : Sns 164 0 tMo_roadsClause := And.intro (sd_aload_n (k := 0) rfl (by decide +kernel) (by decide +kernel)) (
  And.intro (sd_VV mg_142 (by decide +kernel) wm_7_211 wn_142 wv_142 rfl rfl (by decide +kernel)) (
  And.intro (sd_aload_n (k := 0) rfl (by decide +kernel) (by decide +kernel)) (
  And.intro (sd_getI cf7 (by decide) (by decide) wf_7_191 (by decide +kernel) (by decide +kernel)) (
  And.intro (sd_istore_n (k := 2) rfl (by decide) (by decide +kernel) (by decide +kernel)) (
  And.intro (sd_iconst (n := 0) (by decide) (by decide +kernel) (by decide +kernel)) (
  And.intro (sd_istore_n (k := 3) rfl (by decide) (by decide +kernel) (by decide +kernel)) (
  And.intro (sd_ms _ (sd_iload_n (k := 3) rfl (by decide +kernel) (by decide +kernel))) (
  And.intro (sd_bipush (n := 6) (by decide) (by decide +kernel) (by decide +kernel)) (
  And.intro (sd_ige (off := 20) (by decide +kernel) (by decide +kernel) (by decide +kernel)) (
  And.intro (sd_aload_n (k := 0) rfl (by decide +kernel) (by decide +kernel)) (
  And.intro (sd_iload_n (k := 3) rfl (by decide +kernel) (by decide +kernel)) (
  And.intro (sd_SR mg_159 (by decide +kernel) wm_7_302 wt_159 (by decide +kernel)) (
  And.intro (sd_VI mg_144 (by decide +kernel) wm_7_214 wn_144 wv_144 rfl rfl (by decide +kernel)) (
  And.intro (sd_zne (off := 9) (by decide +kernel) (by decide +kernel) (by decide +kernel)) (
  And.intro (sd_iinc (n := 1) (by decide) (by decide) (by decide +kernel) (by decide +kernel)) (
  And.intro (sd_go (off := (-20)) (by decide +kernel) (by decide +kernel)) (
  And.intro (sd_iload_n (k := 3) rfl (by decide +kernel) (by decide +kernel)) (
  And.intro (sd_bipush (n := 6) (by decide) (by decide +kernel) (by decide +kernel)) (
  And.intro (sd_ine (off := 10) (by decide +kernel) (by decide +kernel) (by decide +kernel)) (
  And.intro (sd_aload_n (k := 0) rfl (by decide +kernel) (by decide +kernel)) (
  And.intro (sd_iconst (n := 0) (by decide) (by decide +kernel) (by decide +kernel)) (
  And.intro (sd_iload_n (k := 2) rfl (by decide +kernel) (by decide +kernel)) (
  And.intro (sd_VV mg_140 (by decide +kernel) wm_7_227 wn_140 wv_140 rfl rfl (by decide +kernel)) (
  And.intro (sd_vret (by decide +kernel) rfl) (
  And.intro (sd_aload_n (k := 0) rfl (by decide +kernel) (by decide +kernel)) (
  And.intro (sd_iload_n (k := 3) rfl (by decide +kernel) (by decide +kernel)) (
  And.intro (sd_iload_n (k := 1) rfl (by decide +kernel) (by decide +kernel)) (
  And.intro (sd_VI mg_163 (by decide +kernel) wm_7_305 wn_163 wv_163 rfl rfl (by decide +kernel)) (
  And.intro (sd_zeq (off := 10) (by decide +kernel) (by decide +kernel) (by decide +kernel)) (
  And.intro (sd_aload_n (k := 0) rfl (by decide +kernel) (by decide +kernel)) (
  And.intro (sd_iconst (n := 4) (by decide) (by decide +kernel) (by decide +kernel)) (
  And.intro (sd_iload_n (k := 2) rfl (by decide +kernel) (by decide +kernel)) (
  And.intro (sd_VV mg_140 (by decide +kernel) wm_7_227 wn_140 wv_140 rfl rfl (by decide +kernel)) (
  And.intro (sd_vret (by decide +kernel) rfl) (
  And.intro (sd_aload_n (k := 0) rfl (by decide +kernel) (by decide +kernel)) (
  And.intro (sd_dup (by decide +kernel) (by decide +kernel)) (
  And.intro (sd_getI cf7 (by decide) (by decide) wf_7_191 (by decide +kernel) (by decide +kernel)) (
  And.intro (sd_iload_n (k := 3) rfl (by decide +kernel) (by decide +kernel)) (
  And.intro (sd_SR mg_159 (by decide +kernel) wm_7_302 wt_159 (by decide +kernel)) (
  And.intro (sd_slen wm_7_202 (by decide +kernel) (by decide +kernel)) (
  And.intro (sd_iadd (by decide +kernel) (by decide +kernel)) (
  And.intro (sd_putI cf7 (by decide) (by decide) rfl rfl wf_7_191 (by decide +kernel) (by decide +kernel)) (
  And.intro (sd_aload_n (k := 0) rfl (by decide +kernel) (by decide +kernel)) (
  And.intro (sd_iload_n (k := 3) rfl (by decide +kernel) (by decide +kernel)) (
  And.intro (sd_VV mg_162 (by decide +kernel) wm_7_309 wn_162 wv_162 rfl rfl (by decide +kernel)) (
  And.intro (sd_vret (by decide +kernel) rfl) (
  trivial)))))))))))))))))))))))))))))))))))))))))))))))

set_option maxRecDepth 100000 in
set_option maxHeartbeats 8000000 in
theorem sn_222 : Sns 222 0 tMo_couldRule := And.intro (sd_aload_n (k := 0) rfl (by decide +kernel) (by decide +kernel)) (
  And.intro (sd_getR cf7 (by decide) (by decide) wf_7_9 (by decide +kernel) (by decide +kernel)) (
  And.intro (sd_bipush (n := 12) (by decide) (by decide +kernel) (by decide +kernel)) (
  And.intro (sd_iload_n (k := 1) rfl (by decide +kernel) (by decide +kernel)) (
  And.intro (sd_iast (by decide +kernel) (by decide +kernel)) (
  And.intro (sd_aload_n (k := 0) rfl (by decide +kernel) (by decide +kernel)) (
  And.intro (sd_VV mg_169 (by decide +kernel) wm_7_335 wn_169 wv_169 rfl rfl (by decide +kernel)) (
  And.intro (sd_iconst (n := 0) (by decide) (by decide +kernel) (by decide +kernel)) (
  And.intro (sd_istore_n (k := 3) rfl (by decide) (by decide +kernel) (by decide +kernel)) (
  And.intro (sd_ms _ (sd_iload_n (k := 3) rfl (by decide +kernel) (by decide +kernel))) (
  And.intro (sd_aload_n (k := 0) rfl (by decide +kernel) (by decide +kernel)) (
  And.intro (sd_getR cf7 (by decide) (by decide) wf_7_9 (by decide +kernel) (by decide +kernel)) (
  And.intro (sd_iconst (n := 4) (by decide) (by decide +kernel) (by decide +kernel)) (
  And.intro (sd_iald (by decide +kernel) (by decide +kernel)) (
  And.intro (sd_ige (off := 26) (by decide +kernel) (by decide +kernel) (by decide +kernel)) (
  And.intro (sd_iload_n (k := 3) rfl (by decide +kernel) (by decide +kernel)) (
  And.intro (sd_aload_n (k := 0) rfl (by decide +kernel) (by decide +kernel)) (
  And.intro (sd_getR cf7 (by decide) (by decide) wf_7_9 (by decide +kernel) (by decide +kernel)) (
  And.intro (sd_iconst (n := 3) (by decide) (by decide +kernel) (by decide +kernel)) (
  And.intro (sd_iald (by decide +kernel) (by decide +kernel)) (
  And.intro (sd_ige (off := 16) (by decide +kernel) (by decide +kernel) (by decide +kernel)) (
  And.intro (sd_aload_n (k := 0) rfl (by decide +kernel) (by decide +kernel)) (
  And.intro (sd_getR cf7 (by decide) (by decide) wf_7_31 (by decide +kernel) (by decide +kernel)) (
  And.intro (sd_iload_n (k := 3) rfl (by decide +kernel) (by decide +kernel)) (
  And.intro (sd_iload_n (k := 3) rfl (by decide +kernel) (by decide +kernel)) (
  And.intro (sd_iast (by decide +kernel) (by decide +kernel)) (
  And.intro (sd_iinc (n := 1) (by decide) (by decide) (by decide +kernel) (by decide +kernel)) (
  And.intro (sd_go (off := (-30)) (by decide +kernel) (by decide +kernel)) (
  And.intro (sd_iconst (n := 1) (by decide) (by decide +kernel) (by decide +kernel)) (
  And.intro (sd_istore_n (k := 3) rfl (by decide) (by decide +kernel) (by decide +kernel)) (
  And.intro (sd_iconst (n := 0) (by decide) (by decide +kernel) (by decide +kernel)) (
  And.intro (sd_istore (by decide) (by decide +kernel) (by decide +kernel)) (
  And.intro (sd_ms _ (sd_iload (by decide +kernel) (by decide +kernel))) (
  And.intro (sd_bipush (n := 60) (by decide) (by decide +kernel) (by decide +kernel)) (
  And.intro (sd_igt (off := 112) (by decide +kernel) (by decide +kernel) (by decide +kernel)) (
  And.intro (sd_aload_n (k := 0) rfl (by decide +kernel) (by decide +kernel)) (
  And.intro (sd_VI mg_188 (by decide +kernel) wm_7_405 wn_188 wv_188 rfl rfl (by decide +kernel)) (
  And.intro (sd_pop (by decide +kernel) (by decide +kernel)) (
  And.intro (sd_iconst (n := 0) (by decide) (by decide +kernel) (by decide +kernel)) (
  And.intro (sd_istore (by decide) (by decide +kernel) (by decide +kernel)) (
  And.intro (sd_ms _ (sd_iload (by decide +kernel) (by decide +kernel))) (
  And.intro (sd_aload_n (k := 0) rfl (by decide +kernel) (by decide +kernel)) (
  And.intro (sd_getR cf7 (by decide) (by decide) wf_7_9 (by decide +kernel) (by decide +kernel)) (
  And.intro (sd_bipush (n := 10) (by decide) (by decide +kernel) (by decide +kernel)) (
  And.intro (sd_iald (by decide +kernel) (by decide +kernel)) (
  And.intro (sd_ige (off := 52) (by decide +kernel) (by decide +kernel) (by decide +kernel)) (
  And.intro (sd_iload_n (k := 3) rfl (by decide +kernel) (by decide +kernel)) (
  And.intro (sd_zeq (off := 40) (by decide +kernel) (by decide +kernel) (by decide +kernel)) (
  And.intro (sd_aload_n (k := 0) rfl (by decide +kernel) (by decide +kernel)) (
  And.intro (sd_getR cf7 (by decide) (by decide) wf_7_49 (by decide +kernel) (by decide +kernel)) (
  And.intro (sd_iload (by decide +kernel) (by decide +kernel)) (
  And.intro (sd_iald (by decide +kernel) (by decide +kernel)) (
  And.intro (sd_iload (by decide +kernel) (by decide +kernel)) (
  And.intro (sd_ine (off := 24) (by decide +kernel) (by decide +kernel) (by decide +kernel)) (
  And.intro (sd_aload_n (k := 0) rfl (by decide +kernel) (by decide +kernel)) (
  And.intro (sd_aload_n (k := 0) rfl (by decide +kernel) (by decide +kernel)) (
  And.intro (sd_getR cf7 (by decide) (by decide) wf_7_52 (by decide +kernel) (by decide +kernel)) (
  And.intro (sd_iload (by decide +kernel) (by decide +kernel)) (
  And.intro (sd_iald (by decide +kernel) (by decide +kernel)) (
  And.intro (sd_VI mg_181 (by decide +kernel) wm_7_440 wn_181 wv_181 rfl rfl (by decide +kernel)) (
  And.intro (sd_aload_n (k := 0) rfl (by decide +kernel) (by decide +kernel)) (
  And.intro (sd_getR cf7 (by decide) (by decide) wf_7_55 (by decide +kernel) (by decide +kernel)) (
  And.intro (sd_iload (by decide +kernel) (by decide +kernel)) (
  And.intro (sd_iald (by decide +kernel) (by decide +kernel)) (
  And.intro (sd_ine (off := 7) (by decide +kernel) (by decide +kernel) (by decide +kernel)) (
  And.intro (sd_iconst (n := 1) (by decide) (by decide +kernel) (by decide +kernel)) (
  And.intro (sd_go (off := 4) (by decide +kernel) (by decide +kernel)) (
  And.intro (sd_iconst (n := 0) (by decide) (by decide +kernel) (by decide +kernel)) (
  And.intro (sd_istore_n (k := 3) rfl (by decide) (by decide +kernel) (by decide +kernel)) (
  And.intro (sd_iinc (n := 1) (by decide) (by decide) (by decide +kernel) (by decide +kernel)) (
  And.intro (sd_go (off := (-58)) (by decide +kernel) (by decide +kernel)) (
  And.intro (sd_iconst (n := 0) (by decide) (by decide +kernel) (by decide +kernel)) (
  And.intro (sd_istore (by decide) (by decide +kernel) (by decide +kernel)) (
  And.intro (sd_ms _ (sd_iload (by decide +kernel) (by decide +kernel))) (
  And.intro (sd_iconst (n := 3) (by decide) (by decide +kernel) (by decide +kernel)) (
  And.intro (sd_ige (off := 28) (by decide +kernel) (by decide +kernel) (by decide +kernel)) (
  And.intro (sd_iload (by decide +kernel) (by decide +kernel)) (
  And.intro (sd_iload_n (k := 2) rfl (by decide +kernel) (by decide +kernel)) (
  And.intro (sd_ine (off := 22) (by decide +kernel) (by decide +kernel) (by decide +kernel)) (
  And.intro (sd_aload_n (k := 0) rfl (by decide +kernel) (by decide +kernel)) (
  And.intro (sd_getR cf7 (by decide) (by decide) wf_7_139 (by decide +kernel) (by decide +kernel)) (
  And.intro (sd_iload (by decide +kernel) (by decide +kernel)) (
  And.intro (sd_aload_n (k := 0) rfl (by decide +kernel) (by decide +kernel)) (
  And.intro (sd_iload (by decide +kernel) (by decide +kernel)) (
  And.intro (sd_VI mg_181 (by decide +kernel) wm_7_440 wn_181 wv_181 rfl rfl (by decide +kernel)) (
  And.intro (sd_iast (by decide +kernel) (by decide +kernel)) (
  And.intro (sd_iinc (n := 1) (by decide) (by decide) (by decide +kernel) (by decide +kernel)) (
  And.intro (sd_go (off := (-28)) (by decide +kernel) (by decide +kernel)) (
  And.intro (sd_iinc (n := 1) (by decide) (by decide) (by decide +kernel) (by decide +kernel)) (
  And.intro (sd_go (off := (-113)) (by decide +kernel) (by decide +kernel)) (
  And.intro (sd_aload_n (k := 0) rfl (by decide +kernel) (by decide +kernel)) (
  And.intro (sd_VV mg_205 (by decide +kernel) wm_7_456 wn_205 wv_205 rfl rfl (by decide +kernel)) (
  And.intro (sd_iload_n (k := 3) rfl (by decide +kernel) (by decide +kernel)) (
  And.intro (sd_zret (by decide +kernel) rfl) (
  trivial))))))))))))))))))))))))))))))))))))))))))))))))))))))))))))))))))))))))))))))))))))))))))))))
set_option maxRecDepth 100000 in
set_option maxHeartbeats 8000000 in
theorem sn_223 : Sns 223 0 tMo_ruled := And.intro (sd_aload_n (k := 0) rfl (by decide +kernel) (by decide +kernel)) (
  And.intro (sd_getI cf7 (by decide) (by decide) wf_7_331 (by decide +kernel) (by decide +kernel)) (
  And.intro (sd_zeq (off := 13) (by decide +kernel) (by decide +kernel) (by decide +kernel)) (
  And.intro (sd_iload_n (k := 1) rfl (by decide +kernel) (by decide +kernel)) (
  And.intro (sd_i2l (by decide +kernel) (by decide +kernel)) (
  And.intro (sd_lconst (n := 0) (by decide) (by decide +kernel) (by decide +kernel)) (
  And.intro (sd_lconst (n := 1) (by decide) (by decide +kernel) (by decide +kernel)) (
  And.intro (sd_SI mg_130 (by decide +kernel) wm_7_158 wt_130 (by decide +kernel)) (
  And.intro (sd_zne (off := 6) (by decide +kernel) (by decide +kernel) (by decide +kernel)) (
  And.intro (sd_bipush (n := (-3)) (by decide) (by decide +kernel) (by decide +kernel)) (
  And.intro (sd_iret (by decide +kernel) rfl) (
  And.intro (sd_aload_n (k := 0) rfl (by decide +kernel) (by decide +kernel)) (
  And.intro (sd_VV mg_204 (by decide +kernel) wm_7_450 wn_204 wv_204 rfl rfl (by decide +kernel)) (
  And.intro (sd_iconst (n := 0) (by decide) (by decide +kernel) (by decide +kernel)) (
  And.intro (sd_istore_n (k := 2) rfl (by decide) (by decide +kernel) (by decide +kernel)) (
  And.intro (sd_bipush (n := (-2)) (by decide) (by decide +kernel) (by decide +kernel)) (
  And.intro (sd_istore_n (k := 3) rfl (by decide) (by decide +kernel) (by decide +kernel)) (
  And.intro (sd_iconst (n := (-1)) (by decide) (by decide +kernel) (by decide +kernel)) (
  And.intro (sd_istore (by decide) (by decide +kernel) (by decide +kernel)) (
  And.intro (sd_ms _ (sd_iload (by decide +kernel) (by decide +kernel))) (
  And.intro (sd_aload_n (k := 0) rfl (by decide +kernel) (by decide +kernel)) (
  And.intro (sd_getI cf7 (by decide) (by decide) wf_7_351 (by decide +kernel) (by decide +kernel)) (
  And.intro (sd_ige (off := 33) (by decide +kernel) (by decide +kernel) (by decide +kernel)) (
  And.intro (sd_aload_n (k := 0) rfl (by decide +kernel) (by decide +kernel)) (
  And.intro (sd_iload (by decide +kernel) (by decide +kernel)) (
  And.intro (sd_iconst (n := (-1)) (by decide) (by decide +kernel) (by decide +kernel)) (
  And.intro (sd_VI mg_222 (by decide +kernel) wm_7_481 wn_222 wv_222 rfl rfl (by decide +kernel)) (
  And.intro (sd_zeq (off := 17) (by decide +kernel) (by decide +kernel) (by decide +kernel)) (
  And.intro (sd_iload_n (k := 2) rfl (by decide +kernel) (by decide +kernel)) (
  And.intro (sd_zne (off := 8) (by decide +kernel) (by decide +kernel) (by decide +kernel)) (
  And.intro (sd_iload (by decide +kernel) (by decide +kernel)) (
  And.intro (sd_go (off := 4) (by decide +kernel) (by decide +kernel)) (
  And.intro (sd_iload_n (k := 3) rfl (by decide +kernel) (by decide +kernel)) (
  And.intro (sd_istore_n (k := 3) rfl (by decide) (by decide +kernel) (by decide +kernel)) (
  And.intro (sd_iinc (n := 1) (by decide) (by decide) (by decide +kernel) (by decide +kernel)) (
  And.intro (sd_iinc (n := 1) (by decide) (by decide) (by decide +kernel) (by decide +kernel)) (
  And.intro (sd_go (off := (-36)) (by decide +kernel) (by decide +kernel)) (
  And.intro (sd_iload_n (k := 1) rfl (by decide +kernel) (by decide +kernel)) (
  And.intro (sd_zne (off := 7) (by decide +kernel) (by decide +kernel) (by decide +kernel)) (
  And.intro (sd_iload_n (k := 2) rfl (by decide +kernel) (by decide +kernel)) (
  And.intro (sd_go (off := 4) (by decide +kernel) (by decide +kernel)) (
  And.intro (sd_iload_n (k := 3) rfl (by decide +kernel) (by decide +kernel)) (
  And.intro (sd_iret (by decide +kernel) rfl) (
  trivial)))))))))))))))))))))))))))))))))))))))))))
set_option maxRecDepth 100000 in
set_option maxHeartbeats 8000000 in
theorem sn_224 : Sns 224 0 tMo_mostAlike := And.intro (sd_iconst (n := 0) (by decide) (by decide +kernel) (by decide +kernel)) (
  And.intro (sd_istore_n (k := 2) rfl (by decide) (by decide +kernel) (by decide +kernel)) (
  And.intro (sd_iconst (n := 0) (by decide) (by decide +kernel) (by decide +kernel)) (
  And.intro (sd_istore_n (k := 3) rfl (by decide) (by decide +kernel) (by decide +kernel)) (
  And.intro (sd_ms _ (sd_iload_n (k := 3) rfl (by decide +kernel) (by decide +kernel))) (
  And.intro (sd_bipush (n := 8) (by decide) (by decide +kernel) (by decide +kernel)) (
  And.intro (sd_igt (off := 35) (by decide +kernel) (by decide +kernel) (by decide +kernel)) (
  And.intro (sd_aload_n (k := 0) rfl (by decide +kernel) (by decide +kernel)) (
  And.intro (sd_getR cf7 (by decide) (by decide) wf_7_142 (by decide +kernel) (by decide +kernel)) (
  And.intro (sd_bipush (n := 9) (by decide) (by decide +kernel) (by decide +kernel)) (
  And.intro (sd_iload_n (k := 1) rfl (by decide +kernel) (by decide +kernel)) (
  And.intro (sd_imul (by decide +kernel) (by decide +kernel)) (
  And.intro (sd_iload_n (k := 3) rfl (by decide +kernel) (by decide +kernel)) (
  And.intro (sd_iadd (by decide +kernel) (by decide +kernel)) (
  And.intro (sd_iald (by decide +kernel) (by decide +kernel)) (
  And.intro (sd_istore (by decide) (by decide +kernel) (by decide +kernel)) (
  And.intro (sd_iload (by decide +kernel) (by decide +kernel)) (
  And.intro (sd_iload_n (k := 2) rfl (by decide +kernel) (by decide +kernel)) (
  And.intro (sd_ile (off := 8) (by decide +kernel) (by decide +kernel) (by decide +kernel)) (
  And.intro (sd_iload (by decide +kernel) (by decide +kernel)) (
  And.intro (sd_go (off := 4) (by decide +kernel) (by decide +kernel)) (
  And.intro (sd_iload_n (k := 2) rfl (by decide +kernel) (by decide +kernel)) (
  And.intro (sd_istore_n (k := 2) rfl (by decide) (by decide +kernel) (by decide +kernel)) (
  And.intro (sd_iinc (n := 1) (by decide) (by decide) (by decide +kernel) (by decide +kernel)) (
  And.intro (sd_go (off := (-35)) (by decide +kernel) (by decide +kernel)) (
  And.intro (sd_iload_n (k := 2) rfl (by decide +kernel) (by decide +kernel)) (
  And.intro (sd_iret (by decide +kernel) rfl) (
  trivial)))))))))))))))))))))))))))
set_option maxRecDepth 100000 in
set_option maxHeartbeats 8000000 in
theorem sn_225 : Sns 225 0 tMo_look := And.intro (sd_aload_n (k := 0) rfl (by decide +kernel) (by decide +kernel)) (
  And.intro (sd_getI cf7 (by decide) (by decide) wf_7_331 (by decide +kernel) (by decide +kernel)) (
  And.intro (sd_zeq (off := 25) (by decide +kernel) (by decide +kernel) (by decide +kernel)) (
  And.intro (sd_iload_n (k := 1) rfl (by decide +kernel) (by decide +kernel)) (
  And.intro (sd_i2l (by decide +kernel) (by decide +kernel)) (
  And.intro (sd_lconst (n := 0) (by decide) (by decide +kernel) (by decide +kernel)) (
  And.intro (sd_ldc2 wl_7_479 (by decide +kernel) (by decide +kernel)) (
  And.intro (sd_SI mg_130 (by decide +kernel) wm_7_158 wt_130 (by decide +kernel)) (
  And.intro (sd_zeq (off := 13) (by decide +kernel) (by decide +kernel) (by decide +kernel)) (
  And.intro (sd_iload_n (k := 2) rfl (by decide +kernel) (by decide +kernel)) (
  And.intro (sd_i2l (by decide +kernel) (by decide +kernel)) (
  And.intro (sd_lconst (n := 0) (by decide) (by decide +kernel) (by decide +kernel)) (
  And.intro (sd_lconst (n := 1) (by decide) (by decide +kernel) (by decide +kernel)) (
  And.intro (sd_SI mg_130 (by decide +kernel) wm_7_158 wt_130 (by decide +kernel)) (
  And.intro (sd_zne (off := 5) (by decide +kernel) (by decide +kernel) (by decide +kernel)) (
  And.intro (sd_iconst (n := (-1)) (by decide) (by decide +kernel) (by decide +kernel)) (
  And.intro (sd_iret (by decide +kernel) rfl) (
  And.intro (sd_iconst (n := 0) (by decide) (by decide +kernel) (by decide +kernel)) (
  And.intro (sd_istore_n (k := 3) rfl (by decide) (by decide +kernel) (by decide +kernel)) (
  And.intro (sd_ms _ (sd_iload_n (k := 3) rfl (by decide +kernel) (by decide +kernel))) (
  And.intro (sd_aload_n (k := 0) rfl (by decide +kernel) (by decide +kernel)) (
  And.intro (sd_getR cf7 (by decide) (by decide) wf_7_142 (by decide +kernel) (by decide +kernel)) (
  And.intro (sd_alen (by decide +kernel) (by decide +kernel)) (
  And.intro (sd_ige (off := 16) (by decide +kernel) (by decide +kernel) (by decide +kernel)) (
  And.intro (sd_aload_n (k := 0) rfl (by decide +kernel) (by decide +kernel)) (
  And.intro (sd_getR cf7 (by decide) (by decide) wf_7_142 (by decide +kernel) (by decide +kernel)) (
  And.intro (sd_iload_n (k := 3) rfl (by decide +kernel) (by decide +kernel)) (
  And.intro (sd_iconst (n := 0) (by decide) (by decide +kernel) (by decide +kernel)) (
  And.intro (sd_iast (by decide +kernel) (by decide +kernel)) (
  And.intro (sd_iinc (n := 1) (by decide) (by decide) (by decide +kernel) (by decide +kernel)) (
  And.intro (sd_go (off := (-19)) (by decide +kernel) (by decide +kernel)) (
  And.intro (sd_aload_n (k := 0) rfl (by decide +kernel) (by decide +kernel)) (
  And.intro (sd_VV mg_204 (by decide +kernel) wm_7_450 wn_204 wv_204 rfl rfl (by decide +kernel)) (
  And.intro (sd_iconst (n := 0) (by decide) (by decide +kernel) (by decide +kernel)) (
  And.intro (sd_istore_n (k := 3) rfl (by decide) (by decide +kernel) (by decide +kernel)) (
  And.intro (sd_iconst (n := (-1)) (by decide) (by decide +kernel) (by decide +kernel)) (
  And.intro (sd_istore (by decide) (by decide +kernel) (by decide +kernel)) (
  And.intro (sd_ms _ (sd_iload (by decide +kernel) (by decide +kernel))) (
  And.intro (sd_aload_n (k := 0) rfl (by decide +kernel) (by decide +kernel)) (
  And.intro (sd_getI cf7 (by decide) (by decide) wf_7_351 (by decide +kernel) (by decide +kernel)) (
  And.intro (sd_ige (off := 66) (by decide +kernel) (by decide +kernel) (by decide +kernel)) (
  And.intro (sd_aload_n (k := 0) rfl (by decide +kernel) (by decide +kernel)) (
  And.intro (sd_iload (by decide +kernel) (by decide +kernel)) (
  And.intro (sd_iload_n (k := 1) rfl (by decide +kernel) (by decide +kernel)) (
  And.intro (sd_VI mg_222 (by decide +kernel) wm_7_481 wn_222 wv_222 rfl rfl (by decide +kernel)) (
  And.intro (sd_zeq (off := 50) (by decide +kernel) (by decide +kernel) (by decide +kernel)) (
  And.intro (sd_iinc (n := 1) (by decide) (by decide) (by decide +kernel) (by decide +kernel)) (
  And.intro (sd_iconst (n := 0) (by decide) (by decide +kernel) (by decide +kernel)) (
  And.intro (sd_istore (by decide) (by decide +kernel) (by decide +kernel)) (
  And.intro (sd_ms _ (sd_iload (by decide +kernel) (by decide +kernel))) (
  And.intro (sd_aload_n (k := 0) rfl (by decide +kernel) (by decide +kernel)) (
  And.intro (sd_getR cf7 (by decide) (by decide) wf_7_9 (by decide +kernel) (by decide +kernel)) (
  And.intro (sd_iconst (n := 4) (by decide) (by decide +kernel) (by decide +kernel)) (
  And.intro (sd_iald (by decide +kernel) (by decide +kernel)) (
  And.intro (sd_ige (off := 33) (by decide +kernel) (by decide +kernel) (by decide +kernel)) (
  And.intro (sd_aload_n (k := 0) rfl (by decide +kernel) (by decide +kernel)) (
  And.intro (sd_getR cf7 (by decide) (by decide) wf_7_142 (by decide +kernel) (by decide +kernel)) (
  And.intro (sd_bipush (n := 9) (by decide) (by decide +kernel) (by decide +kernel)) (
  And.intro (sd_iload (by decide +kernel) (by decide +kernel)) (
  And.intro (sd_imul (by decide +kernel) (by decide +kernel)) (
  And.intro (sd_aload_n (k := 0) rfl (by decide +kernel) (by decide +kernel)) (
  And.intro (sd_getR cf7 (by decide) (by decide) wf_7_139 (by decide +kernel) (by decide +kernel)) (
  And.intro (sd_iload (by decide +kernel) (by decide +kernel)) (
  And.intro (sd_iald (by decide +kernel) (by decide +kernel)) (
  And.intro (sd_iadd (by decide +kernel) (by decide +kernel)) (
  And.intro (sd_iconst (n := 1) (by decide) (by decide +kernel) (by decide +kernel)) (
  And.intro (sd_iadd (by decide +kernel) (by decide +kernel)) (
  And.intro (sd_dup2 (by decide +kernel) (by decide +kernel)) (
  And.intro (sd_iald (by decide +kernel) (by decide +kernel)) (
  And.intro (sd_iconst (n := 1) (by decide) (by decide +kernel) (by decide +kernel)) (
  And.intro (sd_iadd (by decide +kernel) (by decide +kernel)) (
  And.intro (sd_iast (by decide +kernel) (by decide +kernel)) (
  And.intro (sd_iinc (n := 1) (by decide) (by decide) (by decide +kernel) (by decide +kernel)) (
  And.intro (sd_go (off := (-38)) (by decide +kernel) (by decide +kernel)) (
  And.intro (sd_iinc (n := 1) (by decide) (by decide) (by decide +kernel) (by decide +kernel)) (
  And.intro (sd_go (off := (-69)) (by decide +kernel) (by decide +kernel)) (
  And.intro (sd_iload_n (k := 3) rfl (by decide +kernel) (by decide +kernel)) (
  And.intro (sd_zeq (off := 12) (by decide +kernel) (by decide +kernel) (by decide +kernel)) (
  And.intro (sd_aload_n (k := 0) rfl (by decide +kernel) (by decide +kernel)) (
  And.intro (sd_getR cf7 (by decide) (by decide) wf_7_9 (by decide +kernel) (by decide +kernel)) (
  And.intro (sd_iconst (n := 4) (by decide) (by decide +kernel) (by decide +kernel)) (
  And.intro (sd_iald (by decide +kernel) (by decide +kernel)) (
  And.intro (sd_zne (off := 6) (by decide +kernel) (by decide +kernel) (by decide +kernel)) (
  And.intro (sd_bipush (n := (-2)) (by decide) (by decide +kernel) (by decide +kernel)) (
  And.intro (sd_iret (by decide +kernel) rfl) (
  And.intro (sd_iconst (n := 0) (by decide) (by decide +kernel) (by decide +kernel)) (
  And.intro (sd_istore (by decide) (by decide +kernel) (by decide +kernel)) (
  And.intro (sd_iconst (n := 1) (by decide) (by decide +kernel) (by decide +kernel)) (
  And.intro (sd_istore (by decide) (by decide +kernel) (by decide +kernel)) (
  And.intro (sd_ms _ (sd_iload (by decide +kernel) (by decide +kernel))) (
  And.intro (sd_aload_n (k := 0) rfl (by decide +kernel) (by decide +kernel)) (
  And.intro (sd_getR cf7 (by decide) (by decide) wf_7_9 (by decide +kernel) (by decide +kernel)) (
  And.intro (sd_iconst (n := 4) (by decide) (by decide +kernel) (by decide +kernel)) (
  And.intro (sd_iald (by decide +kernel) (by decide +kernel)) (
  And.intro (sd_ige (off := 33) (by decide +kernel) (by decide +kernel) (by decide +kernel)) (
  And.intro (sd_aload_n (k := 0) rfl (by decide +kernel) (by decide +kernel)) (
  And.intro (sd_iload (by decide +kernel) (by decide +kernel)) (
  And.intro (sd_VI mg_224 (by decide +kernel) wm_7_484 wn_224 wv_224 rfl rfl (by decide +kernel)) (
  And.intro (sd_aload_n (k := 0) rfl (by decide +kernel) (by decide +kernel)) (
  And.intro (sd_iload (by decide +kernel) (by decide +kernel)) (
  And.intro (sd_VI mg_224 (by decide +kernel) wm_7_484 wn_224 wv_224 rfl rfl (by decide +kernel)) (
  And.intro (sd_ige (off := 8) (by decide +kernel) (by decide +kernel) (by decide +kernel)) (
  And.intro (sd_iload (by decide +kernel) (by decide +kernel)) (
  And.intro (sd_go (off := 5) (by decide +kernel) (by decide +kernel)) (
  And.intro (sd_iload (by decide +kernel) (by decide +kernel)) (
  And.intro (sd_istore (by decide) (by decide +kernel) (by decide +kernel)) (
  And.intro (sd_iinc (n := 1) (by decide) (by decide) (by decide +kernel) (by decide +kernel)) (
  And.intro (sd_go (off := (-38)) (by decide +kernel) (by decide +kernel)) (
  And.intro (sd_iload_n (k := 2) rfl (by decide +kernel) (by decide +kernel)) (
  And.intro (sd_zne (off := 8) (by decide +kernel) (by decide +kernel) (by decide +kernel)) (
  And.intro (sd_iload (by decide +kernel) (by decide +kernel)) (
  And.intro (sd_go (off := 9) (by decide +kernel) (by decide +kernel)) (
  And.intro (sd_aload_n (k := 0) rfl (by decide +kernel) (by decide +kernel)) (
  And.intro (sd_iload (by decide +kernel) (by decide +kernel)) (
  And.intro (sd_VI mg_224 (by decide +kernel) wm_7_484 wn_224 wv_224 rfl rfl (by decide +kernel)) (
  And.intro (sd_iret (by decide +kernel) rfl) (
  trivial))))))))))))))))))))))))))))))))))))))))))))))))))))))))))))))))))))))))))))))))))))))))))))))))))))))))))))))))))))
set_option maxRecDepth 100000 in
set_option maxHeartbeats 8000000 in
theorem sn_226 : Sns 226 0 tMo_seed := And.intro (sd_iload_n (k := 1) rfl (by decide +kernel) (by decide +kernel)) (
  And.intro (sd_zge (off := 5) (by decide +kernel) (by decide +kernel) (by decide +kernel)) (
  And.intro (sd_iconst (n := (-1)) (by decide) (by decide +kernel) (by decide +kernel)) (
  And.intro (sd_iret (by decide +kernel) rfl) (
  And.intro (sd_aload_n (k := 0) rfl (by decide +kernel) (by decide +kernel)) (
  And.intro (sd_getR cf7 (by decide) (by decide) wf_7_9 (by decide +kernel) (by decide +kernel)) (
  And.intro (sd_bipush (n := 11) (by decide) (by decide +kernel) (by decide +kernel)) (
  And.intro (sd_iald (by decide +kernel) (by decide +kernel)) (
  And.intro (sd_istore_n (k := 2) rfl (by decide) (by decide +kernel) (by decide +kernel)) (
  And.intro (sd_aload_n (k := 0) rfl (by decide +kernel) (by decide +kernel)) (
  And.intro (sd_getR cf7 (by decide) (by decide) wf_7_9 (by decide +kernel) (by decide +kernel)) (
  And.intro (sd_bipush (n := 11) (by decide) (by decide +kernel) (by decide +kernel)) (
  And.intro (sd_iload_n (k := 1) rfl (by decide +kernel) (by decide +kernel)) (
  And.intro (sd_iast (by decide +kernel) (by decide +kernel)) (
  And.intro (sd_iload_n (k := 2) rfl (by decide +kernel) (by decide +kernel)) (
  And.intro (sd_iret (by decide +kernel) rfl) (
  trivial))))))))))))))))
set_option maxRecDepth 100000 in
set_option maxHeartbeats 8000000 in
theorem sn_227 : Sns 227 0 tMo_draws := And.intro (sd_aload_n (k := 0) rfl (by decide +kernel) (by decide +kernel)) (
  And.intro (sd_getR cf7 (by decide) (by decide) wf_7_9 (by decide +kernel) (by decide +kernel)) (
  And.intro (sd_bipush (n := 11) (by decide) (by decide +kernel) (by decide +kernel)) (
  And.intro (sd_aload_n (k := 0) rfl (by decide +kernel) (by decide +kernel)) (
  And.intro (sd_getR cf7 (by decide) (by decide) wf_7_9 (by decide +kernel) (by decide +kernel)) (
  And.intro (sd_bipush (n := 11) (by decide) (by decide +kernel) (by decide +kernel)) (
  And.intro (sd_iald (by decide +kernel) (by decide +kernel)) (
  And.intro (sd_i2l (by decide +kernel) (by decide +kernel)) (
  And.intro (sd_ldc2 wl_7_487 (by decide +kernel) (by decide +kernel)) (
  And.intro (sd_lmul (by decide +kernel) (by decide +kernel)) (
  And.intro (sd_ldc2 wl_7_489 (by decide +kernel) (by decide +kernel)) (
  And.intro (sd_ladd (by decide +kernel) (by decide +kernel)) (
  And.intro (sd_ldc2 wl_7_491 (by decide +kernel) (by decide +kernel)) (
  And.intro (sd_lrem (by decide +kernel) (by decide +kernel)) (
  And.intro (sd_l2i (by decide +kernel) (by decide +kernel)) (
  And.intro (sd_iast (by decide +kernel) (by decide +kernel)) (
  And.intro (sd_aload_n (k := 0) rfl (by decide +kernel) (by decide +kernel)) (
  And.intro (sd_getR cf7 (by decide) (by decide) wf_7_9 (by decide +kernel) (by decide +kernel)) (
  And.intro (sd_bipush (n := 11) (by decide) (by decide +kernel) (by decide +kernel)) (
  And.intro (sd_iald (by decide +kernel) (by decide +kernel)) (
  And.intro (sd_ldcw wk_7_493 (by decide +kernel) (by decide +kernel)) (
  And.intro (sd_idiv (by decide +kernel) (by decide +kernel)) (
  And.intro (sd_iload_n (k := 1) rfl (by decide +kernel) (by decide +kernel)) (
  And.intro (sd_irem (by decide +kernel) (by decide +kernel)) (
  And.intro (sd_iret (by decide +kernel) rfl) (
  trivial)))))))))))))))))))))))))
set_option maxRecDepth 100000 in
set_option maxHeartbeats 8000000 in
theorem sn_228 : Sns 228 0 tMo_robs := And.intro (sd_iconst (n := 0) (by decide) (by decide +kernel) (by decide +kernel)) (
  And.intro (sd_istore_n (k := 2) rfl (by decide) (by decide +kernel) (by decide +kernel)) (
  And.intro (sd_iconst (n := 0) (by decide) (by decide +kernel) (by decide +kernel)) (
  And.intro (sd_istore_n (k := 3) rfl (by decide) (by decide +kernel) (by decide +kernel)) (
  And.intro (sd_ms _ (sd_iload_n (k := 3) rfl (by decide +kernel) (by decide +kernel))) (
  And.intro (sd_aload_n (k := 0) rfl (by decide +kernel) (by decide +kernel)) (
  And.intro (sd_getR cf7 (by decide) (by decide) wf_7_9 (by decide +kernel) (by decide +kernel)) (
  And.intro (sd_iconst (n := 4) (by decide) (by decide +kernel) (by decide +kernel)) (
  And.intro (sd_iald (by decide +kernel) (by decide +kernel)) (
  And.intro (sd_ige (off := 48) (by decide +kernel) (by decide +kernel) (by decide +kernel)) (
  And.intro (sd_aload_n (k := 0) rfl (by decide +kernel) (by decide +kernel)) (
  And.intro (sd_getR cf7 (by decide) (by decide) wf_7_40 (by decide +kernel) (by decide +kernel)) (
  And.intro (sd_iload_n (k := 3) rfl (by decide +kernel) (by decide +kernel)) (
  And.intro (sd_iald (by decide +kernel) (by decide +kernel)) (
  And.intro (sd_zle (off := 33) (by decide +kernel) (by decide +kernel) (by decide +kernel)) (
  And.intro (sd_aload_n (k := 0) rfl (by decide +kernel) (by decide +kernel)) (
  And.intro (sd_bipush (n := 100) (by decide) (by decide +kernel) (by decide +kernel)) (
  And.intro (sd_VI mg_227 (by decide +kernel) wm_7_494 wn_227 wv_227 rfl rfl (by decide +kernel)) (
  And.intro (sd_iload_n (k := 1) rfl (by decide +kernel) (by decide +kernel)) (
  And.intro (sd_ige (off := 23) (by decide +kernel) (by decide +kernel) (by decide +kernel)) (
  And.intro (sd_aload_n (k := 0) rfl (by decide +kernel) (by decide +kernel)) (
  And.intro (sd_getR cf7 (by decide) (by decide) wf_7_43 (by decide +kernel) (by decide +kernel)) (
  And.intro (sd_iload_n (k := 3) rfl (by decide +kernel) (by decide +kernel)) (
  And.intro (sd_iconst (n := 0) (by decide) (by decide +kernel) (by decide +kernel)) (
  And.intro (sd_iast (by decide +kernel) (by decide +kernel)) (
  And.intro (sd_aload_n (k := 0) rfl (by decide +kernel) (by decide +kernel)) (
  And.intro (sd_getR cf7 (by decide) (by decide) wf_7_40 (by decide +kernel) (by decide +kernel)) (
  And.intro (sd_iload_n (k := 3) rfl (by decide +kernel) (by decide +kernel)) (
  And.intro (sd_dup2 (by decide +kernel) (by decide +kernel)) (
  And.intro (sd_iald (by decide +kernel) (by decide +kernel)) (
  And.intro (sd_iconst (n := 1) (by decide) (by decide +kernel) (by decide +kernel)) (
  And.intro (sd_iadd (by decide +kernel) (by decide +kernel)) (
  And.intro (sd_iast (by decide +kernel) (by decide +kernel)) (
  And.intro (sd_iinc (n := 1) (by decide) (by decide) (by decide +kernel) (by decide +kernel)) (
  And.intro (sd_iinc (n := 1) (by decide) (by decide) (by decide +kernel) (by decide +kernel)) (
  And.intro (sd_go (off := (-52)) (by decide +kernel) (by decide +kernel)) (
  And.intro (sd_iload_n (k := 2) rfl (by decide +kernel) (by decide +kernel)) (
  And.intro (sd_iret (by decide +kernel) rfl) (
  trivial))))))))))))))))))))))))))))))))))))))
set_option maxRecDepth 100000 in
set_option maxHeartbeats 8000000 in
theorem sn_229 : Sns 229 0 tMo_years := And.intro (sd_aload_n (k := 0) rfl (by decide +kernel) (by decide +kernel)) (
  And.intro (sd_getI cf7 (by decide) (by decide) wf_7_331 (by decide +kernel) (by decide +kernel)) (
  And.intro (sd_zeq (off := 50) (by decide +kernel) (by decide +kernel) (by decide +kernel)) (
  And.intro (sd_iload_n (k := 1) rfl (by decide +kernel) (by decide +kernel)) (
  And.intro (sd_i2l (by decide +kernel) (by decide +kernel)) (
  And.intro (sd_lconst (n := 1) (by decide) (by decide +kernel) (by decide +kernel)) (
  And.intro (sd_ldc2 wl_7_497 (by decide +kernel) (by decide +kernel)) (
  And.intro (sd_SI mg_130 (by decide +kernel) wm_7_158 wt_130 (by decide +kernel)) (
  And.intro (sd_zeq (off := 38) (by decide +kernel) (by decide +kernel) (by decide +kernel)) (
  And.intro (sd_iload_n (k := 2) rfl (by decide +kernel) (by decide +kernel)) (
  And.intro (sd_i2l (by decide +kernel) (by decide +kernel)) (
  And.intro (sd_lconst (n := 1) (by decide) (by decide +kernel) (by decide +kernel)) (
  And.intro (sd_ldc2 wl_7_479 (by decide +kernel) (by decide +kernel)) (
  And.intro (sd_SI mg_130 (by decide +kernel) wm_7_158 wt_130 (by decide +kernel)) (
  And.intro (sd_zeq (off := 26) (by decide +kernel) (by decide +kernel) (by decide +kernel)) (
  And.intro (sd_iload_n (k := 3) rfl (by decide +kernel) (by decide +kernel)) (
  And.intro (sd_i2l (by decide +kernel) (by decide +kernel)) (
  And.intro (sd_lconst (n := 0) (by decide) (by decide +kernel) (by decide +kernel)) (
  And.intro (sd_ldc2 wl_7_446 (by decide +kernel) (by decide +kernel)) (
  And.intro (sd_SI mg_130 (by decide +kernel) wm_7_158 wt_130 (by decide +kernel)) (
  And.intro (sd_zeq (off := 14) (by decide +kernel) (by decide +kernel) (by decide +kernel)) (
  And.intro (sd_iload (by decide +kernel) (by decide +kernel)) (
  And.intro (sd_i2l (by decide +kernel) (by decide +kernel)) (
  And.intro (sd_lconst (n := 0) (by decide) (by decide +kernel) (by decide +kernel)) (
  And.intro (sd_lconst (n := 1) (by decide) (by decide +kernel) (by decide +kernel)) (
  And.intro (sd_SI mg_130 (by decide +kernel) wm_7_158 wt_130 (by decide +kernel)) (
  And.intro (sd_zne (off := 5) (by decide +kernel) (by decide +kernel) (by decide +kernel)) (
  And.intro (sd_iconst (n := (-1)) (by decide) (by decide +kernel) (by decide +kernel)) (
  And.intro (sd_iret (by decide +kernel) rfl) (
  And.intro (sd_aload_n (k := 0) rfl (by decide +kernel) (by decide +kernel)) (
  And.intro (sd_getR cf7 (by decide) (by decide) wf_7_9 (by decide +kernel) (by decide +kernel)) (
  And.intro (sd_bipush (n := 11) (by decide) (by decide +kernel) (by decide +kernel)) (
  And.intro (sd_iald (by decide +kernel) (by decide +kernel)) (
  And.intro (sd_istore (by decide) (by decide +kernel) (by decide +kernel)) (
  And.intro (sd_iload (by decide +kernel) (by decide +kernel)) (
  And.intro (sd_istore (by decide) (by decide +kernel) (by decide +kernel)) (
  And.intro (sd_iconst (n := 0) (by decide) (by decide +kernel) (by decide +kernel)) (
  And.intro (sd_istore (by decide) (by decide +kernel) (by decide +kernel)) (
  And.intro (sd_iconst (n := 0) (by decide) (by decide +kernel) (by decide +kernel)) (
  And.intro (sd_istore (by decide) (by decide +kernel) (by decide +kernel)) (
  And.intro (sd_aload_n (k := 0) rfl (by decide +kernel) (by decide +kernel)) (
  And.intro (sd_VV mg_204 (by decide +kernel) wm_7_450 wn_204 wv_204 rfl rfl (by decide +kernel)) (
  And.intro (sd_iconst (n := 0) (by decide) (by decide +kernel) (by decide +kernel)) (
  And.intro (sd_istore (by decide) (by decide +kernel) (by decide +kernel)) (
  And.intro (sd_ms _ (sd_iload (by decide +kernel) (by decide +kernel))) (
  And.intro (sd_iload_n (k := 1) rfl (by decide +kernel) (by decide +kernel)) (
  And.intro (sd_ige (off := 93) (by decide +kernel) (by decide +kernel) (by decide +kernel)) (
  And.intro (sd_aload_n (k := 0) rfl (by decide +kernel) (by decide +kernel)) (
  And.intro (sd_getR cf7 (by decide) (by decide) wf_7_9 (by decide +kernel) (by decide +kernel)) (
  And.intro (sd_bipush (n := 11) (by decide) (by decide +kernel) (by decide +kernel)) (
  And.intro (sd_iload (by decide +kernel) (by decide +kernel)) (
  And.intro (sd_iast (by decide +kernel) (by decide +kernel)) (
  And.intro (sd_iconst (n := 0) (by decide) (by decide +kernel) (by decide +kernel)) (
  And.intro (sd_istore (by decide) (by decide +kernel) (by decide +kernel)) (
  And.intro (sd_ms _ (sd_iload (by decide +kernel) (by decide +kernel))) (
  And.intro (sd_iload_n (k := 2) rfl (by decide +kernel) (by decide +kernel)) (
  And.intro (sd_ige (off := 24) (by decide +kernel) (by decide +kernel) (by decide +kernel)) (
  And.intro (sd_iload (by decide +kernel) (by decide +kernel)) (
  And.intro (sd_aload_n (k := 0) rfl (by decide +kernel) (by decide +kernel)) (
  And.intro (sd_iload_n (k := 3) rfl (by decide +kernel) (by decide +kernel)) (
  And.intro (sd_VI mg_228 (by decide +kernel) wm_7_499 wn_228 wv_228 rfl rfl (by decide +kernel)) (
  And.intro (sd_iadd (by decide +kernel) (by decide +kernel)) (
  And.intro (sd_istore (by decide) (by decide +kernel) (by decide +kernel)) (
  And.intro (sd_aload_n (k := 0) rfl (by decide +kernel) (by decide +kernel)) (
  And.intro (sd_VI mg_188 (by decide +kernel) wm_7_405 wn_188 wv_188 rfl rfl (by decide +kernel)) (
  And.intro (sd_pop (by decide +kernel) (by decide +kernel)) (
  And.intro (sd_iinc (n := 1) (by decide) (by decide) (by decide +kernel) (by decide +kernel)) (
  And.intro (sd_go (off := (-24)) (by decide +kernel) (by decide +kernel)) (
  And.intro (sd_iconst (n := 0) (by decide) (by decide +kernel) (by decide +kernel)) (
  And.intro (sd_istore (by decide) (by decide +kernel) (by decide +kernel)) (
  And.intro (sd_ms _ (sd_iload (by decide +kernel) (by decide +kernel))) (
  And.intro (sd_aload_n (k := 0) rfl (by decide +kernel) (by decide +kernel)) (
  And.intro (sd_getR cf7 (by decide) (by decide) wf_7_9 (by decide +kernel) (by decide +kernel)) (
  And.intro (sd_iconst (n := 4) (by decide) (by decide +kernel) (by decide +kernel)) (
  And.intro (sd_iald (by decide +kernel) (by decide +kernel)) (
  And.intro (sd_ige (off := 21) (by decide +kernel) (by decide +kernel) (by decide +kernel)) (
  And.intro (sd_iload (by decide +kernel) (by decide +kernel)) (
  And.intro (sd_aload_n (k := 0) rfl (by decide +kernel) (by decide +kernel)) (
  And.intro (sd_getR cf7 (by decide) (by decide) wf_7_43 (by decide +kernel) (by decide +kernel)) (
  And.intro (sd_iload (by decide +kernel) (by decide +kernel)) (
  And.intro (sd_iald (by decide +kernel) (by decide +kernel)) (
  And.intro (sd_iadd (by decide +kernel) (by decide +kernel)) (
  And.intro (sd_istore (by decide) (by decide +kernel) (by decide +kernel)) (
  And.intro (sd_iinc (n := 1) (by decide) (by decide) (by decide +kernel) (by decide +kernel)) (
  And.intro (sd_go (off := (-26)) (by decide +kernel) (by decide +kernel)) (
  And.intro (sd_aload_n (k := 0) rfl (by decide +kernel) (by decide +kernel)) (
  And.intro (sd_getR cf7 (by decide) (by decide) wf_7_9 (by decide +kernel) (by decide +kernel)) (
  And.intro (sd_bipush (n := 11) (by decide) (by decide +kernel) (by decide +kernel)) (
  And.intro (sd_iald (by decide +kernel) (by decide +kernel)) (
  And.intro (sd_istore (by decide) (by decide +kernel) (by decide +kernel)) (
  And.intro (sd_aload_n (k := 0) rfl (by decide +kernel) (by decide +kernel)) (
  And.intro (sd_VV mg_205 (by decide +kernel) wm_7_456 wn_205 wv_205 rfl rfl (by decide +kernel)) (
  And.intro (sd_iinc (n := 1) (by decide) (by decide) (by decide +kernel) (by decide +kernel)) (
  And.intro (sd_go (off := (-93)) (by decide +kernel) (by decide +kernel)) (
  And.intro (sd_aload_n (k := 0) rfl (by decide +kernel) (by decide +kernel)) (
  And.intro (sd_getR cf7 (by decide) (by decide) wf_7_9 (by decide +kernel) (by decide +kernel)) (
  And.intro (sd_bipush (n := 11) (by decide) (by decide +kernel) (by decide +kernel)) (
  And.intro (sd_iload (by decide +kernel) (by decide +kernel)) (
  And.intro (sd_iast (by decide +kernel) (by decide +kernel)) (
  And.intro (sd_iload (by decide +kernel) (by decide +kernel)) (
  And.intro (sd_zne (off := 8) (by decide +kernel) (by decide +kernel) (by decide +kernel)) (
  And.intro (sd_iload (by decide +kernel) (by decide +kernel)) (
  And.intro (sd_go (off := 5) (by decide +kernel) (by decide +kernel)) (
  And.intro (sd_iload (by decide +kernel) (by decide +kernel)) (
  And.intro (sd_iret (by decide +kernel) rfl) (
  trivial)))))))))))))))))))))))))))))))))))))))))))))))))))))))))))))))))))))))))))))))))))))))))))))))))))))))))
set_option maxRecDepth 100000 in
set_option maxHeartbeats 8000000 in
theorem sn_230 : Sns 230 0 tMo_inTowns := And.intro (sd_iconst (n := 0) (by decide) (by decide +kernel) (by decide +kernel)) (
  And.intro (sd_istore_n (k := 1) rfl (by decide) (by decide +kernel) (by decide +kernel)) (
  And.intro (sd_iconst (n := 0) (by decide) (by decide +kernel) (by decide +kernel)) (
  And.intro (sd_istore_n (k := 2) rfl (by decide) (by decide +kernel) (by decide +kernel)) (
  And.intro (sd_ms _ (sd_iload_n (k := 2) rfl (by decide +kernel) (by decide +kernel))) (
  And.intro (sd_aload_n (k := 0) rfl (by decide +kernel) (by decide +kernel)) (
  And.intro (sd_getR cf7 (by decide) (by decide) wf_7_9 (by decide +kernel) (by decide +kernel)) (
  And.intro (sd_iconst (n := 4) (by decide) (by decide +kernel) (by decide +kernel)) (
  And.intro (sd_iald (by decide +kernel) (by decide +kernel)) (
  And.intro (sd_ige (off := 28) (by decide +kernel) (by decide +kernel) (by decide +kernel)) (
  And.intro (sd_iload_n (k := 1) rfl (by decide +kernel) (by decide +kernel)) (
  And.intro (sd_aload_n (k := 0) rfl (by decide +kernel) (by decide +kernel)) (
  And.intro (sd_getR cf7 (by decide) (by decide) wf_7_40 (by decide +kernel) (by decide +kernel)) (
  And.intro (sd_iload_n (k := 2) rfl (by decide +kernel) (by decide +kernel)) (
  And.intro (sd_iald (by decide +kernel) (by decide +kernel)) (
  And.intro (sd_zne (off := 9) (by decide +kernel) (by decide +kernel) (by decide +kernel)) (
  And.intro (sd_iconst (n := 1) (by decide) (by decide +kernel) (by decide +kernel)) (
  And.intro (sd_iload_n (k := 2) rfl (by decide +kernel) (by decide +kernel)) (
  And.intro (sd_ishl (by decide +kernel) (by decide +kernel)) (
  And.intro (sd_go (off := 4) (by decide +kernel) (by decide +kernel)) (
  And.intro (sd_iconst (n := 0) (by decide) (by decide +kernel) (by decide +kernel)) (
  And.intro (sd_ior (by decide +kernel) (by decide +kernel)) (
  And.intro (sd_istore_n (k := 1) rfl (by decide) (by decide +kernel) (by decide +kernel)) (
  And.intro (sd_iinc (n := 1) (by decide) (by decide) (by decide +kernel) (by decide +kernel)) (
  And.intro (sd_go (off := (-32)) (by decide +kernel) (by decide +kernel)) (
  And.intro (sd_iload_n (k := 1) rfl (by decide +kernel) (by decide +kernel)) (
  And.intro (sd_iret (by decide +kernel) rfl) (
  trivial)))))))))))))))))))))))))))
set_option maxRecDepth 100000 in
set_option maxHeartbeats 8000000 in
theorem sn_231 : Sns 231 0 tMo_count := And.intro (sd_iload_n (k := 1) rfl (by decide +kernel) (by decide +kernel)) (
  And.intro (sd_tab (len := 75) (dflt := 177) (lo := 0) (hi := 14) (offs := #[75, 82, 89, 96, 103, 110, 115, 123, 130, 138, 146, 151, 159, 164, 172]) (by decide +kernel) (by decide +kernel) (by decide +kernel) (by decide +kernel)) (
  And.intro (sd_aload_n (k := 0) rfl (by decide +kernel) (by decide +kernel)) (
  And.intro (sd_getR cf7 (by decide) (by decide) wf_7_9 (by decide +kernel) (by decide +kernel)) (
  And.intro (sd_iconst (n := 0) (by decide) (by decide +kernel) (by decide +kernel)) (
  And.intro (sd_iald (by decide +kernel) (by decide +kernel)) (
  And.intro (sd_iret (by decide +kernel) rfl) (
  And.intro (sd_aload_n (k := 0) rfl (by decide +kernel) (by decide +kernel)) (
  And.intro (sd_getR cf7 (by decide) (by decide) wf_7_9 (by decide +kernel) (by decide +kernel)) (
  And.intro (sd_iconst (n := 1) (by decide) (by decide +kernel) (by decide +kernel)) (
  And.intro (sd_iald (by decide +kernel) (by decide +kernel)) (
  And.intro (sd_iret (by decide +kernel) rfl) (
  And.intro (sd_aload_n (k := 0) rfl (by decide +kernel) (by decide +kernel)) (
  And.intro (sd_getR cf7 (by decide) (by decide) wf_7_9 (by decide +kernel) (by decide +kernel)) (
  And.intro (sd_iconst (n := 2) (by decide) (by decide +kernel) (by decide +kernel)) (
  And.intro (sd_iald (by decide +kernel) (by decide +kernel)) (
  And.intro (sd_iret (by decide +kernel) rfl) (
  And.intro (sd_aload_n (k := 0) rfl (by decide +kernel) (by decide +kernel)) (
  And.intro (sd_getR cf7 (by decide) (by decide) wf_7_9 (by decide +kernel) (by decide +kernel)) (
  And.intro (sd_iconst (n := 3) (by decide) (by decide +kernel) (by decide +kernel)) (
  And.intro (sd_iald (by decide +kernel) (by decide +kernel)) (
  And.intro (sd_iret (by decide +kernel) rfl) (
  And.intro (sd_aload_n (k := 0) rfl (by decide +kernel) (by decide +kernel)) (
  And.intro (sd_getR cf7 (by decide) (by decide) wf_7_9 (by decide +kernel) (by decide +kernel)) (
  And.intro (sd_iconst (n := 4) (by decide) (by decide +kernel) (by decide +kernel)) (
  And.intro (sd_iald (by decide +kernel) (by decide +kernel)) (
  And.intro (sd_iret (by decide +kernel) rfl) (
  And.intro (sd_aload_n (k := 0) rfl (by decide +kernel) (by decide +kernel)) (
  And.intro (sd_getI cf7 (by decide) (by decide) wf_7_351 (by decide +kernel) (by decide +kernel)) (
  And.intro (sd_iret (by decide +kernel) rfl) (
  And.intro (sd_aload_n (k := 0) rfl (by decide +kernel) (by decide +kernel)) (
  And.intro (sd_getR cf7 (by decide) (by decide) wf_7_9 (by decide +kernel) (by decide +kernel)) (
  And.intro (sd_bipush (n := 12) (by decide) (by decide +kernel) (by decide +kernel)) (
  And.intro (sd_iald (by decide +kernel) (by decide +kernel)) (
  And.intro (sd_iret (by decide +kernel) rfl) (
  And.intro (sd_aload_n (k := 0) rfl (by decide +kernel) (by decide +kernel)) (
  And.intro (sd_getR cf7 (by decide) (by decide) wf_7_9 (by decide +kernel) (by decide +kernel)) (
  And.intro (sd_iconst (n := 5) (by decide) (by decide +kernel) (by decide +kernel)) (
  And.intro (sd_iald (by decide +kernel) (by decide +kernel)) (
  And.intro (sd_iret (by decide +kernel) rfl) (
  And.intro (sd_aload_n (k := 0) rfl (by decide +kernel) (by decide +kernel)) (
  And.intro (sd_getR cf7 (by decide) (by decide) wf_7_9 (by decide +kernel) (by decide +kernel)) (
  And.intro (sd_bipush (n := 6) (by decide) (by decide +kernel) (by decide +kernel)) (
  And.intro (sd_iald (by decide +kernel) (by decide +kernel)) (
  And.intro (sd_iret (by decide +kernel) rfl) (
  And.intro (sd_aload_n (k := 0) rfl (by decide +kernel) (by decide +kernel)) (
  And.intro (sd_getR cf7 (by decide) (by decide) wf_7_9 (by decide +kernel) (by decide +kernel)) (
  And.intro (sd_bipush (n := 7) (by decide) (by decide +kernel) (by decide +kernel)) (
  And.intro (sd_iald (by decide +kernel) (by decide +kernel)) (
  And.intro (sd_iret (by decide +kernel) rfl) (
  And.intro (sd_aload_n (k := 0) rfl (by decide +kernel) (by decide +kernel)) (
  And.intro (sd_VI mg_230 (by decide +kernel) wm_7_502 wn_230 wv_230 rfl rfl (by decide +kernel)) (
  And.intro (sd_iret (by decide +kernel) rfl) (
  And.intro (sd_aload_n (k := 0) rfl (by decide +kernel) (by decide +kernel)) (
  And.intro (sd_getR cf7 (by decide) (by decide) wf_7_9 (by decide +kernel) (by decide +kernel)) (
  And.intro (sd_bipush (n := 10) (by decide) (by decide +kernel) (by decide +kernel)) (
  And.intro (sd_iald (by decide +kernel) (by decide +kernel)) (
  And.intro (sd_iret (by decide +kernel) rfl) (
  And.intro (sd_aload_n (k := 0) rfl (by decide +kernel) (by decide +kernel)) (
  And.intro (sd_getI cf7 (by decide) (by decide) wf_7_338 (by decide +kernel) (by decide +kernel)) (
  And.intro (sd_iret (by decide +kernel) rfl) (
  And.intro (sd_aload_n (k := 0) rfl (by decide +kernel) (by decide +kernel)) (
  And.intro (sd_getR cf7 (by decide) (by decide) wf_7_9 (by decide +kernel) (by decide +kernel)) (
  And.intro (sd_bipush (n := 11) (by decide) (by decide +kernel) (by decide +kernel)) (
  And.intro (sd_iald (by decide +kernel) (by decide +kernel)) (
  And.intro (sd_iret (by decide +kernel) rfl) (
  And.intro (sd_aload_n (k := 0) rfl (by decide +kernel) (by decide +kernel)) (
  And.intro (sd_getI cf7 (by decide) (by decide) wf_7_162 (by decide +kernel) (by decide +kernel)) (
  And.intro (sd_iret (by decide +kernel) rfl) (
  And.intro (sd_iconst (n := (-1)) (by decide) (by decide +kernel) (by decide +kernel)) (
  And.intro (sd_iret (by decide +kernel) rfl) (
  trivial)))))))))))))))))))))))))))))))))))))))))))))))))))))))))))))))))))))))
set_option maxRecDepth 100000 in
set_option maxHeartbeats 8000000 in
theorem sn_232 : Sns 232 0 tMo_carryRow := And.intro (sd_iconst (n := 0) (by decide) (by decide +kernel) (by decide +kernel)) (
  And.intro (sd_istore_n (k := 2) rfl (by decide) (by decide +kernel) (by decide +kernel)) (
  And.intro (sd_ms _ (sd_iload_n (k := 2) rfl (by decide +kernel) (by decide +kernel))) (
  And.intro (sd_aload_n (k := 1) rfl (by decide +kernel) (by decide +kernel)) (
  And.intro (sd_alen (by decide +kernel) (by decide +kernel)) (
  And.intro (sd_ige (off := 53) (by decide +kernel) (by decide +kernel) (by decide +kernel)) (
  And.intro (sd_aload_n (k := 0) rfl (by decide +kernel) (by decide +kernel)) (
  And.intro (sd_getI cf7 (by decide) (by decide) wf_7_505 (by decide +kernel) (by decide +kernel)) (
  And.intro (sd_zeq (off := 18) (by decide +kernel) (by decide +kernel) (by decide +kernel)) (
  And.intro (sd_aload_n (k := 1) rfl (by decide +kernel) (by decide +kernel)) (
  And.intro (sd_iload_n (k := 2) rfl (by decide +kernel) (by decide +kernel)) (
  And.intro (sd_aload_n (k := 0) rfl (by decide +kernel) (by decide +kernel)) (
  And.intro (sd_getR cf7 (by decide) (by decide) wf_7_145 (by decide +kernel) (by decide +kernel)) (
  And.intro (sd_aload_n (k := 0) rfl (by decide +kernel) (by decide +kernel)) (
  And.intro (sd_getI cf7 (by decide) (by decide) wf_7_508 (by decide +kernel) (by decide +kernel)) (
  And.intro (sd_iald (by decide +kernel) (by decide +kernel)) (
  And.intro (sd_iast (by decide +kernel) (by decide +kernel)) (
  And.intro (sd_go (off := 15) (by decide +kernel) (by decide +kernel)) (
  And.intro (sd_aload_n (k := 0) rfl (by decide +kernel) (by decide +kernel)) (
  And.intro (sd_getR cf7 (by decide) (by decide) wf_7_145 (by decide +kernel) (by decide +kernel)) (
  And.intro (sd_aload_n (k := 0) rfl (by decide +kernel) (by decide +kernel)) (
  And.intro (sd_getI cf7 (by decide) (by decide) wf_7_508 (by decide +kernel) (by decide +kernel)) (
  And.intro (sd_aload_n (k := 1) rfl (by decide +kernel) (by decide +kernel)) (
  And.intro (sd_iload_n (k := 2) rfl (by decide +kernel) (by decide +kernel)) (
  And.intro (sd_iald (by decide +kernel) (by decide +kernel)) (
  And.intro (sd_iast (by decide +kernel) (by decide +kernel)) (
  And.intro (sd_aload_n (k := 0) rfl (by decide +kernel) (by decide +kernel)) (
  And.intro (sd_dup (by decide +kernel) (by decide +kernel)) (
  And.intro (sd_getI cf7 (by decide) (by decide) wf_7_508 (by decide +kernel) (by decide +kernel)) (
  And.intro (sd_iconst (n := 1) (by decide) (by decide +kernel) (by decide +kernel)) (
  And.intro (sd_iadd (by decide +kernel) (by decide +kernel)) (
  And.intro (sd_putI cf7 (by decide) (by decide) rfl rfl wf_7_508 (by decide +kernel) (by decide +kernel)) (
  And.intro (sd_iinc (n := 1) (by decide) (by decide) (by decide +kernel) (by decide +kernel)) (
  And.intro (sd_go (off := (-53)) (by decide +kernel) (by decide +kernel)) (
  And.intro (sd_vret (by decide +kernel) rfl) (
  trivial)))))))))))))))))))))))))))))))))))
set_option maxRecDepth 100000 in
set_option maxHeartbeats 8000000 in
theorem sn_233 : Sns 233 0 tMo_carriesAll := And.intro (sd_aload_n (k := 0) rfl (by decide +kernel) (by decide +kernel)) (
  And.intro (sd_sipush (n := 850) (by decide) (by decide +kernel) (by decide +kernel)) (
  And.intro (sd_iload_n (k := 1) rfl (by decide +kernel) (by decide +kernel)) (
  And.intro (sd_imul (by decide +kernel) (by decide +kernel)) (
  And.intro (sd_putI cf7 (by decide) (by decide) rfl rfl wf_7_508 (by decide +kernel) (by decide +kernel)) (
  And.intro (sd_aload_n (k := 0) rfl (by decide +kernel) (by decide +kernel)) (
  And.intro (sd_iload_n (k := 2) rfl (by decide +kernel) (by decide +kernel)) (
  And.intro (sd_putZ cf7 (by decide) (by decide) rfl rfl wf_7_505 (by decide +kernel) (by decide +kernel)) (
  And.intro (sd_aload_n (k := 0) rfl (by decide +kernel) (by decide +kernel)) (
  And.intro (sd_aload_n (k := 0) rfl (by decide +kernel) (by decide +kernel)) (
  And.intro (sd_getR cf7 (by decide) (by decide) wf_7_9 (by decide +kernel) (by decide +kernel)) (
  And.intro (sd_VV mg_232 (by decide +kernel) wm_7_511 wn_232 wv_232 rfl rfl (by decide +kernel)) (
  And.intro (sd_aload_n (k := 0) rfl (by decide +kernel) (by decide +kernel)) (
  And.intro (sd_aload_n (k := 0) rfl (by decide +kernel) (by decide +kernel)) (
  And.intro (sd_getR cf7 (by decide) (by decide) wf_7_31 (by decide +kernel) (by decide +kernel)) (
  And.intro (sd_VV mg_232 (by decide +kernel) wm_7_511 wn_232 wv_232 rfl rfl (by decide +kernel)) (
  And.intro (sd_aload_n (k := 0) rfl (by decide +kernel) (by decide +kernel)) (
  And.intro (sd_aload_n (k := 0) rfl (by decide +kernel) (by decide +kernel)) (
  And.intro (sd_getR cf7 (by decide) (by decide) wf_7_34 (by decide +kernel) (by decide +kernel)) (
  And.intro (sd_VV mg_232 (by decide +kernel) wm_7_511 wn_232 wv_232 rfl rfl (by decide +kernel)) (
  And.intro (sd_aload_n (k := 0) rfl (by decide +kernel) (by decide +kernel)) (
  And.intro (sd_aload_n (k := 0) rfl (by decide +kernel) (by decide +kernel)) (
  And.intro (sd_getR cf7 (by decide) (by decide) wf_7_37 (by decide +kernel) (by decide +kernel)) (
  And.intro (sd_VV mg_232 (by decide +kernel) wm_7_511 wn_232 wv_232 rfl rfl (by decide +kernel)) (
  And.intro (sd_aload_n (k := 0) rfl (by decide +kernel) (by decide +kernel)) (
  And.intro (sd_aload_n (k := 0) rfl (by decide +kernel) (by decide +kernel)) (
  And.intro (sd_getR cf7 (by decide) (by decide) wf_7_40 (by decide +kernel) (by decide +kernel)) (
  And.intro (sd_VV mg_232 (by decide +kernel) wm_7_511 wn_232 wv_232 rfl rfl (by decide +kernel)) (
  And.intro (sd_aload_n (k := 0) rfl (by decide +kernel) (by decide +kernel)) (
  And.intro (sd_aload_n (k := 0) rfl (by decide +kernel) (by decide +kernel)) (
  And.intro (sd_getR cf7 (by decide) (by decide) wf_7_43 (by decide +kernel) (by decide +kernel)) (
  And.intro (sd_VV mg_232 (by decide +kernel) wm_7_511 wn_232 wv_232 rfl rfl (by decide +kernel)) (
  And.intro (sd_aload_n (k := 0) rfl (by decide +kernel) (by decide +kernel)) (
  And.intro (sd_aload_n (k := 0) rfl (by decide +kernel) (by decide +kernel)) (
  And.intro (sd_getR cf7 (by decide) (by decide) wf_7_46 (by decide +kernel) (by decide +kernel)) (
  And.intro (sd_VV mg_232 (by decide +kernel) wm_7_511 wn_232 wv_232 rfl rfl (by decide +kernel)) (
  And.intro (sd_iload_n (k := 1) rfl (by decide +kernel) (by decide +kernel)) (
  And.intro (sd_iconst (n := 4) (by decide) (by decide +kernel) (by decide +kernel)) (
  And.intro (sd_ine (off := 4) (by decide +kernel) (by decide +kernel) (by decide +kernel)) (
  And.intro (sd_vret (by decide +kernel) rfl) (
  And.intro (sd_aload_n (k := 0) rfl (by decide +kernel) (by decide +kernel)) (
  And.intro (sd_getR cf7 (by decide) (by decide) wf_7_121 (by decide +kernel) (by decide +kernel)) (
  And.intro (sd_iconst (n := 0) (by decide) (by decide +kernel) (by decide +kernel)) (
  And.intro (sd_aload_n (k := 0) rfl (by decide +kernel) (by decide +kernel)) (
  And.intro (sd_getI cf7 (by decide) (by decide) wf_7_338 (by decide +kernel) (by decide +kernel)) (
  And.intro (sd_iast (by decide +kernel) (by decide +kernel)) (
  And.intro (sd_aload_n (k := 0) rfl (by decide +kernel) (by decide +kernel)) (
  And.intro (sd_aload_n (k := 0) rfl (by decide +kernel) (by decide +kernel)) (
  And.intro (sd_getR cf7 (by decide) (by decide) wf_7_121 (by decide +kernel) (by decide +kernel)) (
  And.intro (sd_VV mg_232 (by decide +kernel) wm_7_511 wn_232 wv_232 rfl rfl (by decide +kernel)) (
  And.intro (sd_aload_n (k := 0) rfl (by decide +kernel) (by decide +kernel)) (
  And.intro (sd_aload_n (k := 0) rfl (by decide +kernel) (by decide +kernel)) (
  And.intro (sd_getR cf7 (by decide) (by decide) wf_7_121 (by decide +kernel) (by decide +kernel)) (
  And.intro (sd_iconst (n := 0) (by decide) (by decide +kernel) (by decide +kernel)) (
  And.intro (sd_iald (by decide +kernel) (by decide +kernel)) (
  And.intro (sd_putI cf7 (by decide) (by decide) rfl rfl wf_7_338 (by decide +kernel) (by decide +kernel)) (
  And.intro (sd_aload_n (k := 0) rfl (by decide +kernel) (by decide +kernel)) (
  And.intro (sd_aload_n (k := 0) rfl (by decide +kernel) (by decide +kernel)) (
  And.intro (sd_getR cf7 (by decide) (by decide) wf_7_13 (by decide +kernel) (by decide +kernel)) (
  And.intro (sd_VV mg_232 (by decide +kernel) wm_7_511 wn_232 wv_232 rfl rfl (by decide +kernel)) (
  And.intro (sd_aload_n (k := 0) rfl (by decide +kernel) (by decide +kernel)) (
  And.intro (sd_aload_n (k := 0) rfl (by decide +kernel) (by decide +kernel)) (
  And.intro (sd_getR cf7 (by decide) (by decide) wf_7_16 (by decide +kernel) (by decide +kernel)) (
  And.intro (sd_VV mg_232 (by decide +kernel) wm_7_511 wn_232 wv_232 rfl rfl (by decide +kernel)) (
  And.intro (sd_aload_n (k := 0) rfl (by decide +kernel) (by decide +kernel)) (
  And.intro (sd_aload_n (k := 0) rfl (by decide +kernel) (by decide +kernel)) (
  And.intro (sd_getR cf7 (by decide) (by decide) wf_7_19 (by decide +kernel) (by decide +kernel)) (
  And.intro (sd_VV mg_232 (by decide +kernel) wm_7_511 wn_232 wv_232 rfl rfl (by decide +kernel)) (
  And.intro (sd_aload_n (k := 0) rfl (by decide +kernel) (by decide +kernel)) (
  And.intro (sd_aload_n (k := 0) rfl (by decide +kernel) (by decide +kernel)) (
  And.intro (sd_getR cf7 (by decide) (by decide) wf_7_22 (by decide +kernel) (by decide +kernel)) (
  And.intro (sd_VV mg_232 (by decide +kernel) wm_7_511 wn_232 wv_232 rfl rfl (by decide +kernel)) (
  And.intro (sd_aload_n (k := 0) rfl (by decide +kernel) (by decide +kernel)) (
  And.intro (sd_aload_n (k := 0) rfl (by decide +kernel) (by decide +kernel)) (
  And.intro (sd_getR cf7 (by decide) (by decide) wf_7_25 (by decide +kernel) (by decide +kernel)) (
  And.intro (sd_VV mg_232 (by decide +kernel) wm_7_511 wn_232 wv_232 rfl rfl (by decide +kernel)) (
  And.intro (sd_aload_n (k := 0) rfl (by decide +kernel) (by decide +kernel)) (
  And.intro (sd_aload_n (k := 0) rfl (by decide +kernel) (by decide +kernel)) (
  And.intro (sd_getR cf7 (by decide) (by decide) wf_7_28 (by decide +kernel) (by decide +kernel)) (
  And.intro (sd_VV mg_232 (by decide +kernel) wm_7_511 wn_232 wv_232 rfl rfl (by decide +kernel)) (
  And.intro (sd_aload_n (k := 0) rfl (by decide +kernel) (by decide +kernel)) (
  And.intro (sd_aload_n (k := 0) rfl (by decide +kernel) (by decide +kernel)) (
  And.intro (sd_getR cf7 (by decide) (by decide) wf_7_49 (by decide +kernel) (by decide +kernel)) (
  And.intro (sd_VV mg_232 (by decide +kernel) wm_7_511 wn_232 wv_232 rfl rfl (by decide +kernel)) (
  And.intro (sd_aload_n (k := 0) rfl (by decide +kernel) (by decide +kernel)) (
  And.intro (sd_aload_n (k := 0) rfl (by decide +kernel) (by decide +kernel)) (
  And.intro (sd_getR cf7 (by decide) (by decide) wf_7_52 (by decide +kernel) (by decide +kernel)) (
  And.intro (sd_VV mg_232 (by decide +kernel) wm_7_511 wn_232 wv_232 rfl rfl (by decide +kernel)) (
  And.intro (sd_aload_n (k := 0) rfl (by decide +kernel) (by decide +kernel)) (
  And.intro (sd_aload_n (k := 0) rfl (by decide +kernel) (by decide +kernel)) (
  And.intro (sd_getR cf7 (by decide) (by decide) wf_7_55 (by decide +kernel) (by decide +kernel)) (
  And.intro (sd_VV mg_232 (by decide +kernel) wm_7_511 wn_232 wv_232 rfl rfl (by decide +kernel)) (
  And.intro (sd_aload_n (k := 0) rfl (by decide +kernel) (by decide +kernel)) (
  And.intro (sd_aload_n (k := 0) rfl (by decide +kernel) (by decide +kernel)) (
  And.intro (sd_getR cf7 (by decide) (by decide) wf_7_58 (by decide +kernel) (by decide +kernel)) (
  And.intro (sd_VV mg_232 (by decide +kernel) wm_7_511 wn_232 wv_232 rfl rfl (by decide +kernel)) (
  And.intro (sd_aload_n (k := 0) rfl (by decide +kernel) (by decide +kernel)) (
  And.intro (sd_aload_n (k := 0) rfl (by decide +kernel) (by decide +kernel)) (
  And.intro (sd_getR cf7 (by decide) (by decide) wf_7_118 (by decide +kernel) (by decide +kernel)) (
  And.intro (sd_VV mg_232 (by decide +kernel) wm_7_511 wn_232 wv_232 rfl rfl (by decide +kernel)) (
  And.intro (sd_vret (by decide +kernel) rfl) (
  trivial)))))))))))))))))))))))))))))))))))))))))))))))))))))))))))))))))))))))))))))))))))))))))))))))))))))
set_option maxRecDepth 100000 in
set_option maxHeartbeats 8000000 in
theorem sn_234 : Sns 234 0 tMo_image := And.intro (sd_iload_n (k := 1) rfl (by decide +kernel) (by decide +kernel)) (
  And.intro (sd_i2l (by decide +kernel) (by decide +kernel)) (
  And.intro (sd_lconst (n := 0) (by decide) (by decide +kernel) (by decide +kernel)) (
  And.intro (sd_ldc2 wl_7_514 (by decide +kernel) (by decide +kernel)) (
  And.intro (sd_SI mg_130 (by decide +kernel) wm_7_158 wt_130 (by decide +kernel)) (
  And.intro (sd_zne (off := 5) (by decide +kernel) (by decide +kernel) (by decide +kernel)) (
  And.intro (sd_iconst (n := (-1)) (by decide) (by decide +kernel) (by decide +kernel)) (
  And.intro (sd_iret (by decide +kernel) rfl) (
  And.intro (sd_aload_n (k := 0) rfl (by decide +kernel) (by decide +kernel)) (
  And.intro (sd_getR cf7 (by decide) (by decide) wf_7_148 (by decide +kernel) (by decide +kernel)) (
  And.intro (sd_iload_n (k := 1) rfl (by decide +kernel) (by decide +kernel)) (
  And.intro (sd_iconst (n := 1) (by decide) (by decide +kernel) (by decide +kernel)) (
  And.intro (sd_bast (by decide +kernel) (by decide +kernel)) (
  And.intro (sd_aload_n (k := 0) rfl (by decide +kernel) (by decide +kernel)) (
  And.intro (sd_getR cf7 (by decide) (by decide) wf_7_152 (by decide +kernel) (by decide +kernel)) (
  And.intro (sd_iload_n (k := 1) rfl (by decide +kernel) (by decide +kernel)) (
  And.intro (sd_aload_n (k := 0) rfl (by decide +kernel) (by decide +kernel)) (
  And.intro (sd_getI cf7 (by decide) (by decide) wf_7_331 (by decide +kernel) (by decide +kernel)) (
  And.intro (sd_bast (by decide +kernel) (by decide +kernel)) (
  And.intro (sd_aload_n (k := 0) rfl (by decide +kernel) (by decide +kernel)) (
  And.intro (sd_iload_n (k := 1) rfl (by decide +kernel) (by decide +kernel)) (
  And.intro (sd_iconst (n := 0) (by decide) (by decide +kernel) (by decide +kernel)) (
  And.intro (sd_VV mg_233 (by decide +kernel) wm_7_443 wn_233 wv_233 rfl rfl (by decide +kernel)) (
  And.intro (sd_aload_n (k := 0) rfl (by decide +kernel) (by decide +kernel)) (
  And.intro (sd_getR cf7 (by decide) (by decide) wf_7_9 (by decide +kernel) (by decide +kernel)) (
  And.intro (sd_iconst (n := 5) (by decide) (by decide +kernel) (by decide +kernel)) (
  And.intro (sd_iald (by decide +kernel) (by decide +kernel)) (
  And.intro (sd_iret (by decide +kernel) rfl) (
  trivial))))))))))))))))))))))))))))
set_option maxRecDepth 100000 in
set_option maxHeartbeats 8000000 in
theorem sn_235 : Sns 235 0 tMo_back := And.intro (sd_iload_n (k := 1) rfl (by decide +kernel) (by decide +kernel)) (
  And.intro (sd_i2l (by decide +kernel) (by decide +kernel)) (
  And.intro (sd_lconst (n := 0) (by decide) (by decide +kernel) (by decide +kernel)) (
  And.intro (sd_ldc2 wl_7_514 (by decide +kernel) (by decide +kernel)) (
  And.intro (sd_SI mg_130 (by decide +kernel) wm_7_158 wt_130 (by decide +kernel)) (
  And.intro (sd_zeq (off := 12) (by decide +kernel) (by decide +kernel) (by decide +kernel)) (
  And.intro (sd_aload_n (k := 0) rfl (by decide +kernel) (by decide +kernel)) (
  And.intro (sd_getR cf7 (by decide) (by decide) wf_7_148 (by decide +kernel) (by decide +kernel)) (
  And.intro (sd_iload_n (k := 1) rfl (by decide +kernel) (by decide +kernel)) (
  And.intro (sd_bald (by decide +kernel) (by decide +kernel)) (
  And.intro (sd_zne (off := 5) (by decide +kernel) (by decide +kernel) (by decide +kernel)) (
  And.intro (sd_iconst (n := (-1)) (by decide) (by decide +kernel) (by decide +kernel)) (
  And.intro (sd_iret (by decide +kernel) rfl) (
  And.intro (sd_aload_n (k := 0) rfl (by decide +kernel) (by decide +kernel)) (
  And.intro (sd_aload_n (k := 0) rfl (by decide +kernel) (by decide +kernel)) (
  And.intro (sd_getR cf7 (by decide) (by decide) wf_7_152 (by decide +kernel) (by decide +kernel)) (
  And.intro (sd_iload_n (k := 1) rfl (by decide +kernel) (by decide +kernel)) (
  And.intro (sd_bald (by decide +kernel) (by decide +kernel)) (
  And.intro (sd_putZ cf7 (by decide) (by decide) rfl rfl wf_7_331 (by decide +kernel) (by decide +kernel)) (
  And.intro (sd_aload_n (k := 0) rfl (by decide +kernel) (by decide +kernel)) (
  And.intro (sd_iload_n (k := 1) rfl (by decide +kernel) (by decide +kernel)) (
  And.intro (sd_iconst (n := 1) (by decide) (by decide +kernel) (by decide +kernel)) (
  And.intro (sd_VV mg_233 (by decide +kernel) wm_7_443 wn_233 wv_233 rfl rfl (by decide +kernel)) (
  And.intro (sd_aload_n (k := 0) rfl (by decide +kernel) (by decide +kernel)) (
  And.intro (sd_getR cf7 (by decide) (by decide) wf_7_9 (by decide +kernel) (by decide +kernel)) (
  And.intro (sd_iconst (n := 5) (by decide) (by decide +kernel) (by decide +kernel)) (
  And.intro (sd_iald (by decide +kernel) (by decide +kernel)) (
  And.intro (sd_iret (by decide +kernel) rfl) (
  trivial))))))))))))))))))))))))))))
set_option maxRecDepth 100000 in
set_option maxHeartbeats 8000000 in
theorem sn_236 : Sns 236 0 tAr_fill := And.intro (sd_iconst (n := 0) (by decide) (by decide +kernel) (by decide +kernel)) (
  And.intro (sd_istore_n (k := 2) rfl (by decide) (by decide +kernel) (by decide +kernel)) (
  And.intro (sd_aload_n (k := 0) rfl (by decide +kernel) (by decide +kernel)) (
  And.intro (sd_alen (by decide +kernel) (by decide +kernel)) (
  And.intro (sd_istore_n (k := 3) rfl (by decide) (by decide +kernel) (by decide +kernel)) (
  And.intro (sd_ms _ (sd_iload_n (k := 2) rfl (by decide +kernel) (by decide +kernel))) (
  And.intro (sd_iload_n (k := 3) rfl (by decide +kernel) (by decide +kernel)) (
  And.intro (sd_ige (off := 13) (by decide +kernel) (by decide +kernel) (by decide +kernel)) (
  And.intro (sd_aload_n (k := 0) rfl (by decide +kernel) (by decide +kernel)) (
  And.intro (sd_iload_n (k := 2) rfl (by decide +kernel) (by decide +kernel)) (
  And.intro (sd_iload_n (k := 1) rfl (by decide +kernel) (by decide +kernel)) (
  And.intro (sd_iast (by decide +kernel) (by decide +kernel)) (
  And.intro (sd_iinc (n := 1) (by decide) (by decide) (by decide +kernel) (by decide +kernel)) (
  And.intro (sd_go (off := (-12)) (by decide +kernel) (by decide +kernel)) (
  And.intro (sd_vret (by decide +kernel) rfl) (
  trivial)))))))))))))))
set_option maxRecDepth 100000 in
set_option maxHeartbeats 8000000 in
theorem sn_237 : Sns 237 0 tIn_bitCount := And.intro (sd_iload_n (k := 0) rfl (by decide +kernel) (by decide +kernel)) (
  And.intro (sd_iload_n (k := 0) rfl (by decide +kernel) (by decide +kernel)) (
  And.intro (sd_iconst (n := 1) (by decide) (by decide +kernel) (by decide +kernel)) (
  And.intro (sd_iushr (by decide +kernel) (by decide +kernel)) (
  And.intro (sd_ldcw wk_10_265 (by decide +kernel) (by decide +kernel)) (
  And.intro (sd_iand (by decide +kernel) (by decide +kernel)) (
  And.intro (sd_isub (by decide +kernel) (by decide +kernel)) (
  And.intro (sd_istore_n (k := 0) rfl (by decide) (by decide +kernel) (by decide +kernel)) (
  And.intro (sd_iload_n (k := 0) rfl (by decide +kernel) (by decide +kernel)) (
  And.intro (sd_ldcw wk_10_266 (by decide +kernel) (by decide +kernel)) (
  And.intro (sd_iand (by decide +kernel) (by decide +kernel)) (
  And.intro (sd_iload_n (k := 0) rfl (by decide +kernel) (by decide +kernel)) (
  And.intro (sd_iconst (n := 2) (by decide) (by decide +kernel) (by decide +kernel)) (
  And.intro (sd_iushr (by decide +kernel) (by decide +kernel)) (
  And.intro (sd_ldcw wk_10_266 (by decide +kernel) (by decide +kernel)) (
  And.intro (sd_iand (by decide +kernel) (by decide +kernel)) (
  And.intro (sd_iadd (by decide +kernel) (by decide +kernel)) (
  And.intro (sd_istore_n (k := 0) rfl (by decide) (by decide +kernel) (by decide +kernel)) (
  And.intro (sd_iload_n (k := 0) rfl (by decide +kernel) (by decide +kernel)) (
  And.intro (sd_iload_n (k := 0) rfl (by decide +kernel) (by decide +kernel)) (
  And.intro (sd_iconst (n := 4) (by decide) (by decide +kernel) (by decide +kernel)) (
  And.intro (sd_iushr (by decide +kernel) (by decide +kernel)) (
  And.intro (sd_iadd (by decide +kernel) (by decide +kernel)) (
  And.intro (sd_ldcw wk_10_267 (by decide +kernel) (by decide +kernel)) (
  And.intro (sd_iand (by decide +kernel) (by decide +kernel)) (
  And.intro (sd_istore_n (k := 0) rfl (by decide) (by decide +kernel) (by decide +kernel)) (
  And.intro (sd_iload_n (k := 0) rfl (by decide +kernel) (by decide +kernel)) (
  And.intro (sd_iload_n (k := 0) rfl (by decide +kernel) (by decide +kernel)) (
  And.intro (sd_bipush (n := 8) (by decide) (by decide +kernel) (by decide +kernel)) (
  And.intro (sd_iushr (by decide +kernel) (by decide +kernel)) (
  And.intro (sd_iadd (by decide +kernel) (by decide +kernel)) (
  And.intro (sd_istore_n (k := 0) rfl (by decide) (by decide +kernel) (by decide +kernel)) (
  And.intro (sd_iload_n (k := 0) rfl (by decide +kernel) (by decide +kernel)) (
  And.intro (sd_iload_n (k := 0) rfl (by decide +kernel) (by decide +kernel)) (
  And.intro (sd_bipush (n := 16) (by decide) (by decide +kernel) (by decide +kernel)) (
  And.intro (sd_iushr (by decide +kernel) (by decide +kernel)) (
  And.intro (sd_iadd (by decide +kernel) (by decide +kernel)) (
  And.intro (sd_istore_n (k := 0) rfl (by decide) (by decide +kernel) (by decide +kernel)) (
  And.intro (sd_iload_n (k := 0) rfl (by decide +kernel) (by decide +kernel)) (
  And.intro (sd_bipush (n := 63) (by decide) (by decide +kernel) (by decide +kernel)) (
  And.intro (sd_iand (by decide +kernel) (by decide +kernel)) (
  And.intro (sd_iret (by decide +kernel) rfl) (
  trivial))))))))))))))))))))))))))))))))))))))))))

set_option maxRecDepth 100000 in
set_option maxHeartbeats 8000000 in
theorem sn_197 : Sns 197 0 tMo_isFree := And.intro (sd_aload_n (k := 0) rfl (by decide +kernel) (by decide +kernel)) (
  And.intro (sd_getR cf7 (by decide) (by decide) wf_7_31 (by decide +kernel) (by decide +kernel)) (
  And.intro (sd_iload_n (k := 1) rfl (by decide +kernel) (by decide +kernel)) (
  And.intro (sd_iald (by decide +kernel) (by decide +kernel)) (
  And.intro (sd_iconst (n := (-1)) (by decide) (by decide +kernel) (by decide +kernel)) (
  And.intro (sd_ine (off := 21) (by decide +kernel) (by decide +kernel) (by decide +kernel)) (
  And.intro (sd_aload_n (k := 0) rfl (by decide +kernel) (by decide +kernel)) (
  And.intro (sd_getR cf7 (by decide) (by decide) wf_7_9 (by decide +kernel) (by decide +kernel)) (
  And.intro (sd_bipush (n := 7) (by decide) (by decide +kernel) (by decide +kernel)) (
  And.intro (sd_iald (by decide +kernel) (by decide +kernel)) (
  And.intro (sd_iload_n (k := 1) rfl (by decide +kernel) (by decide +kernel)) (
  And.intro (sd_SI mg_132 (by decide +kernel) wm_7_375 wt_132 (by decide +kernel)) (
  And.intro (sd_zne (off := 7) (by decide +kernel) (by decide +kernel) (by decide +kernel)) (
  And.intro (sd_iconst (n := 1) (by decide) (by decide +kernel) (by decide +kernel)) (
  And.intro (sd_go (off := 4) (by decide +kernel) (by decide +kernel)) (
  And.intro (sd_iconst (n := 0) (by decide) (by decide +kernel) (by decide +kernel)) (
  And.intro (sd_zret (by decide +kernel) rfl) (
  trivial)))))))))))))))))
set_option maxRecDepth 100000 in
set_option maxHeartbeats 8000000 in
theorem sn_198 : Sns 198 0 tMo_take := And.intro (sd_aload_n (k := 0) rfl (by decide +kernel) (by decide +kernel)) (
  And.intro (sd_iload_n (k := 1) rfl (by decide +kernel) (by decide +kernel)) (
  And.intro (sd_VI mg_196 (by decide +kernel) wm_7_431 wn_196 wv_196 rfl rfl (by decide +kernel)) (
  And.intro (sd_zeq (off := 19) (by decide +kernel) (by decide +kernel) (by decide +kernel)) (
  And.intro (sd_aload_n (k := 0) rfl (by decide +kernel) (by decide +kernel)) (
  And.intro (sd_iload_n (k := 2) rfl (by decide +kernel) (by decide +kernel)) (
  And.intro (sd_VI mg_134 (by decide +kernel) wm_7_371 wn_134 wv_134 rfl rfl (by decide +kernel)) (
  And.intro (sd_zeq (off := 11) (by decide +kernel) (by decide +kernel) (by decide +kernel)) (
  And.intro (sd_aload_n (k := 0) rfl (by decide +kernel) (by decide +kernel)) (
  And.intro (sd_iload_n (k := 2) rfl (by decide +kernel) (by decide +kernel)) (
  And.intro (sd_VI mg_197 (by decide +kernel) wm_7_434 wn_197 wv_197 rfl rfl (by decide +kernel)) (
  And.intro (sd_zne (off := 5) (by decide +kernel) (by decide +kernel) (by decide +kernel)) (
  And.intro (sd_iconst (n := (-1)) (by decide) (by decide +kernel) (by decide +kernel)) (
  And.intro (sd_iret (by decide +kernel) rfl) (
  And.intro (sd_aload_n (k := 0) rfl (by decide +kernel) (by decide +kernel)) (
  And.intro (sd_VV mg_193 (by decide +kernel) wm_7_425 wn_193 wv_193 rfl rfl (by decide +kernel)) (
  And.intro (sd_aload_n (k := 0) rfl (by decide +kernel) (by decide +kernel)) (
  And.intro (sd_getR cf7 (by decide) (by decide) wf_7_31 (by decide +kernel) (by decide +kernel)) (
  And.intro (sd_iload_n (k := 2) rfl (by decide +kernel) (by decide +kernel)) (
  And.intro (sd_iload_n (k := 1) rfl (by decide +kernel) (by decide +kernel)) (
  And.intro (sd_iast (by decide +kernel) (by decide +kernel)) (
  And.intro (sd_aload_n (k := 0) rfl (by decide +kernel) (by decide +kernel)) (
  And.intro (sd_iload_n (k := 1) rfl (by decide +kernel) (by decide +kernel)) (
  And.intro (sd_VI mg_179 (by decide +kernel) wm_7_380 wn_179 wv_179 rfl rfl (by decide +kernel)) (
  And.intro (sd_SI mg_131 (by decide +kernel) wm_7_388 wt_131 (by decide +kernel)) (
  And.intro (sd_iret (by decide +kernel) rfl) (
  trivial))))))))))))))))))))))))))
set_option maxRecDepth 100000 in
set_option maxHeartbeats 8000000 in
theorem sn_199 : Sns 199 0 tMo_isOpenOf := And.intro (sd_aload_n (k := 0) rfl (by decide +kernel) (by decide +kernel)) (
  And.intro (sd_iload_n (k := 1) rfl (by decide +kernel) (by decide +kernel)) (
  And.intro (sd_VI mg_135 (by decide +kernel) wm_7_377 wn_135 wv_135 rfl rfl (by decide +kernel)) (
  And.intro (sd_zeq (off := 39) (by decide +kernel) (by decide +kernel) (by decide +kernel)) (
  And.intro (sd_aload_n (k := 0) rfl (by decide +kernel) (by decide +kernel)) (
  And.intro (sd_iload_n (k := 2) rfl (by decide +kernel) (by decide +kernel)) (
  And.intro (sd_VI mg_134 (by decide +kernel) wm_7_371 wn_134 wv_134 rfl rfl (by decide +kernel)) (
  And.intro (sd_zeq (off := 31) (by decide +kernel) (by decide +kernel) (by decide +kernel)) (
  And.intro (sd_aload_n (k := 0) rfl (by decide +kernel) (by decide +kernel)) (
  And.intro (sd_getR cf7 (by decide) (by decide) wf_7_31 (by decide +kernel) (by decide +kernel)) (
  And.intro (sd_iload_n (k := 2) rfl (by decide +kernel) (by decide +kernel)) (
  And.intro (sd_iald (by decide +kernel) (by decide +kernel)) (
  And.intro (sd_iload_n (k := 1) rfl (by decide +kernel) (by decide +kernel)) (
  And.intro (sd_ine (off := 21) (by decide +kernel) (by decide +kernel) (by decide +kernel)) (
  And.intro (sd_aload_n (k := 0) rfl (by decide +kernel) (by decide +kernel)) (
  And.intro (sd_getR cf7 (by decide) (by decide) wf_7_9 (by decide +kernel) (by decide +kernel)) (
  And.intro (sd_bipush (n := 6) (by decide) (by decide +kernel) (by decide +kernel)) (
  And.intro (sd_iald (by decide +kernel) (by decide +kernel)) (
  And.intro (sd_iload_n (k := 2) rfl (by decide +kernel) (by decide +kernel)) (
  And.intro (sd_SI mg_132 (by decide +kernel) wm_7_375 wt_132 (by decide +kernel)) (
  And.intro (sd_zne (off := 7) (by decide +kernel) (by decide +kernel) (by decide +kernel)) (
  And.intro (sd_iconst (n := 1) (by decide) (by decide +kernel) (by decide +kernel)) (
  And.intro (sd_go (off := 4) (by decide +kernel) (by decide +kernel)) (
  And.intro (sd_iconst (n := 0) (by decide) (by decide +kernel) (by decide +kernel)) (
  And.intro (sd_zret (by decide +kernel) rfl) (
  trivial)))))))))))))))))))))))))
set_option maxRecDepth 100000 in
set_option maxHeartbeats 8000000 in
theorem sn_200 : Sns 200 0 tMo_giveBack := And.intro (sd_aload_n (k := 0) rfl (by decide +kernel) (by decide +kernel)) (
  And.intro (sd_iload_n (k := 1) rfl (by decide +kernel) (by decide +kernel)) (
  And.intro (sd_iload_n (k := 2) rfl (by decide +kernel) (by decide +kernel)) (
  And.intro (sd_VI mg_199 (by decide +kernel) wm_7_437 wn_199 wv_199 rfl rfl (by decide +kernel)) (
  And.intro (sd_zeq (off := 12) (by decide +kernel) (by decide +kernel) (by decide +kernel)) (
  And.intro (sd_aload_n (k := 0) rfl (by decide +kernel) (by decide +kernel)) (
  And.intro (sd_iload_n (k := 1) rfl (by decide +kernel) (by decide +kernel)) (
  And.intro (sd_iconst (n := 0) (by decide) (by decide +kernel) (by decide +kernel)) (
  And.intro (sd_VI mg_180 (by decide +kernel) wm_7_428 wn_180 wv_180 rfl rfl (by decide +kernel)) (
  And.intro (sd_zne (off := 5) (by decide +kernel) (by decide +kernel) (by decide +kernel)) (
  And.intro (sd_iconst (n := (-1)) (by decide) (by decide +kernel) (by decide +kernel)) (
  And.intro (sd_iret (by decide +kernel) rfl) (
  And.intro (sd_aload_n (k := 0) rfl (by decide +kernel) (by decide +kernel)) (
  And.intro (sd_VV mg_193 (by decide +kernel) wm_7_425 wn_193 wv_193 rfl rfl (by decide +kernel)) (
  And.intro (sd_aload_n (k := 0) rfl (by decide +kernel) (by decide +kernel)) (
  And.intro (sd_getR cf7 (by decide) (by decide) wf_7_31 (by decide +kernel) (by decide +kernel)) (
  And.intro (sd_iload_n (k := 2) rfl (by decide +kernel) (by decide +kernel)) (
  And.intro (sd_iconst (n := (-1)) (by decide) (by decide +kernel) (by decide +kernel)) (
  And.intro (sd_iast (by decide +kernel) (by decide +kernel)) (
  And.intro (sd_aload_n (k := 0) rfl (by decide +kernel) (by decide +kernel)) (
  And.intro (sd_iload_n (k := 1) rfl (by decide +kernel) (by decide +kernel)) (
  And.intro (sd_VI mg_179 (by decide +kernel) wm_7_380 wn_179 wv_179 rfl rfl (by decide +kernel)) (
  And.intro (sd_SI mg_131 (by decide +kernel) wm_7_388 wt_131 (by decide +kernel)) (
  And.intro (sd_iret (by decide +kernel) rfl) (
  trivial))))))))))))))))))))))))
set_option maxRecDepth 100000 in
set_option maxHeartbeats 8000000 in
theorem sn_201 : Sns 201 0 tMo_swap := And.intro (sd_aload_n (k := 0) rfl (by decide +kernel) (by decide +kernel)) (
  And.intro (sd_iload_n (k := 1) rfl (by decide +kernel) (by decide +kernel)) (
  And.intro (sd_VI mg_135 (by decide +kernel) wm_7_377 wn_135 wv_135 rfl rfl (by decide +kernel)) (
  And.intro (sd_zeq (off := 38) (by decide +kernel) (by decide +kernel) (by decide +kernel)) (
  And.intro (sd_aload_n (k := 0) rfl (by decide +kernel) (by decide +kernel)) (
  And.intro (sd_iload_n (k := 2) rfl (by decide +kernel) (by decide +kernel)) (
  And.intro (sd_VI mg_135 (by decide +kernel) wm_7_377 wn_135 wv_135 rfl rfl (by decide +kernel)) (
  And.intro (sd_zeq (off := 30) (by decide +kernel) (by decide +kernel) (by decide +kernel)) (
  And.intro (sd_iload_n (k := 1) rfl (by decide +kernel) (by decide +kernel)) (
  And.intro (sd_iload_n (k := 2) rfl (by decide +kernel) (by decide +kernel)) (
  And.intro (sd_ieq (off := 25) (by decide +kernel) (by decide +kernel) (by decide +kernel)) (
  And.intro (sd_aload_n (k := 0) rfl (by decide +kernel) (by decide +kernel)) (
  And.intro (sd_iload_n (k := 1) rfl (by decide +kernel) (by decide +kernel)) (
  And.intro (sd_VI mg_181 (by decide +kernel) wm_7_440 wn_181 wv_181 rfl rfl (by decide +kernel)) (
  And.intro (sd_iconst (n := (-1)) (by decide) (by decide +kernel) (by decide +kernel)) (
  And.intro (sd_ieq (off := 16) (by decide +kernel) (by decide +kernel) (by decide +kernel)) (
  And.intro (sd_aload_n (k := 0) rfl (by decide +kernel) (by decide +kernel)) (
  And.intro (sd_iload_n (k := 1) rfl (by decide +kernel) (by decide +kernel)) (
  And.intro (sd_VI mg_181 (by decide +kernel) wm_7_440 wn_181 wv_181 rfl rfl (by decide +kernel)) (
  And.intro (sd_aload_n (k := 0) rfl (by decide +kernel) (by decide +kernel)) (
  And.intro (sd_iload_n (k := 2) rfl (by decide +kernel) (by decide +kernel)) (
  And.intro (sd_VI mg_181 (by decide +kernel) wm_7_440 wn_181 wv_181 rfl rfl (by decide +kernel)) (
  And.intro (sd_ieq (off := 5) (by decide +kernel) (by decide +kernel) (by decide +kernel)) (
  And.intro (sd_iconst (n := 0) (by decide) (by decide +kernel) (by decide +kernel)) (
  And.intro (sd_zret (by decide +kernel) rfl) (
  And.intro (sd_aload_n (k := 0) rfl (by decide +kernel) (by decide +kernel)) (
  And.intro (sd_VV mg_193 (by decide +kernel) wm_7_425 wn_193 wv_193 rfl rfl (by decide +kernel)) (
  And.intro (sd_iconst (n := 0) (by decide) (by decide +kernel) (by decide +kernel)) (
  And.intro (sd_istore_n (k := 3) rfl (by decide) (by decide +kernel) (by decide +kernel)) (
  And.intro (sd_ms _ (sd_iload_n (k := 3) rfl (by decide +kernel) (by decide +kernel))) (
  And.intro (sd_aload_n (k := 0) rfl (by decide +kernel) (by decide +kernel)) (
  And.intro (sd_getR cf7 (by decide) (by decide) wf_7_9 (by decide +kernel) (by decide +kernel)) (
  And.intro (sd_iconst (n := 3) (by decide) (by decide +kernel) (by decide +kernel)) (
  And.intro (sd_iald (by decide +kernel) (by decide +kernel)) (
  And.intro (sd_ige (off := 49) (by decide +kernel) (by decide +kernel) (by decide +kernel)) (
  And.intro (sd_aload_n (k := 0) rfl (by decide +kernel) (by decide +kernel)) (
  And.intro (sd_getR cf7 (by decide) (by decide) wf_7_31 (by decide +kernel) (by decide +kernel)) (
  And.intro (sd_iload_n (k := 3) rfl (by decide +kernel) (by decide +kernel)) (
  And.intro (sd_aload_n (k := 0) rfl (by decide +kernel) (by decide +kernel)) (
  And.intro (sd_getR cf7 (by decide) (by decide) wf_7_31 (by decide +kernel) (by decide +kernel)) (
  And.intro (sd_iload_n (k := 3) rfl (by decide +kernel) (by decide +kernel)) (
  And.intro (sd_iald (by decide +kernel) (by decide +kernel)) (
  And.intro (sd_iload_n (k := 1) rfl (by decide +kernel) (by decide +kernel)) (
  And.intro (sd_ine (off := 7) (by decide +kernel) (by decide +kernel) (by decide +kernel)) (
  And.intro (sd_iload_n (k := 2) rfl (by decide +kernel) (by decide +kernel)) (
  And.intro (sd_go (off := 23) (by decide +kernel) (by decide +kernel)) (
  And.intro (sd_aload_n (k := 0) rfl (by decide +kernel) (by decide +kernel)) (
  And.intro (sd_getR cf7 (by decide) (by decide) wf_7_31 (by decide +kernel) (by decide +kernel)) (
  And.intro (sd_iload_n (k := 3) rfl (by decide +kernel) (by decide +kernel)) (
  And.intro (sd_iald (by decide +kernel) (by decide +kernel)) (
  And.intro (sd_iload_n (k := 2) rfl (by decide +kernel) (by decide +kernel)) (
  And.intro (sd_ine (off := 7) (by decide +kernel) (by decide +kernel) (by decide +kernel)) (
  And.intro (sd_iload_n (k := 1) rfl (by decide +kernel) (by decide +kernel)) (
  And.intro (sd_go (off := 9) (by decide +kernel) (by decide +kernel)) (
  And.intro (sd_aload_n (k := 0) rfl (by decide +kernel) (by decide +kernel)) (
  And.intro (sd_getR cf7 (by decide) (by decide) wf_7_31 (by decide +kernel) (by decide +kernel)) (
  And.intro (sd_iload_n (k := 3) rfl (by decide +kernel) (by decide +kernel)) (
  And.intro (sd_iald (by decide +kernel) (by decide +kernel)) (
  And.intro (sd_iast (by decide +kernel) (by decide +kernel)) (
  And.intro (sd_iinc (n := 1) (by decide) (by decide) (by decide +kernel) (by decide +kernel)) (
  And.intro (sd_go (off := (-53)) (by decide +kernel) (by decide +kernel)) (
  And.intro (sd_iconst (n := 1) (by decide) (by decide +kernel) (by decide +kernel)) (
  And.intro (sd_zret (by decide +kernel) rfl) (
  trivial)))))))))))))))))))))))))))))))))))))))))))))))))))))))))))))))
set_option maxRecDepth 100000 in
set_option maxHeartbeats 8000000 in
theorem sn_202 : Sns 202 0 tMo_shell := And.intro (sd_aload_n (k := 0) rfl (by decide +kernel) (by decide +kernel)) (
  And.intro (sd_iload_n (k := 1) rfl (by decide +kernel) (by decide +kernel)) (
  And.intro (sd_iload_n (k := 2) rfl (by decide +kernel) (by decide +kernel)) (
  And.intro (sd_VI mg_199 (by decide +kernel) wm_7_437 wn_199 wv_199 rfl rfl (by decide +kernel)) (
  And.intro (sd_zeq (off := 46) (by decide +kernel) (by decide +kernel) (by decide +kernel)) (
  And.intro (sd_aload_n (k := 0) rfl (by decide +kernel) (by decide +kernel)) (
  And.intro (sd_iload_n (k := 1) rfl (by decide +kernel) (by decide +kernel)) (
  And.intro (sd_VI mg_181 (by decide +kernel) wm_7_440 wn_181 wv_181 rfl rfl (by decide +kernel)) (
  And.intro (sd_iconst (n := (-1)) (by decide) (by decide +kernel) (by decide +kernel)) (
  And.intro (sd_ieq (off := 37) (by decide +kernel) (by decide +kernel) (by decide +kernel)) (
  And.intro (sd_aload_n (k := 0) rfl (by decide +kernel) (by decide +kernel)) (
  And.intro (sd_getR cf7 (by decide) (by decide) wf_7_13 (by decide +kernel) (by decide +kernel)) (
  And.intro (sd_aload_n (k := 0) rfl (by decide +kernel) (by decide +kernel)) (
  And.intro (sd_getR cf7 (by decide) (by decide) wf_7_37 (by decide +kernel) (by decide +kernel)) (
  And.intro (sd_iload_n (k := 1) rfl (by decide +kernel) (by decide +kernel)) (
  And.intro (sd_iald (by decide +kernel) (by decide +kernel)) (
  And.intro (sd_iald (by decide +kernel) (by decide +kernel)) (
  And.intro (sd_zeq (off := 23) (by decide +kernel) (by decide +kernel) (by decide +kernel)) (
  And.intro (sd_aload_n (k := 0) rfl (by decide +kernel) (by decide +kernel)) (
  And.intro (sd_getR cf7 (by decide) (by decide) wf_7_43 (by decide +kernel) (by decide +kernel)) (
  And.intro (sd_iload_n (k := 1) rfl (by decide +kernel) (by decide +kernel)) (
  And.intro (sd_iald (by decide +kernel) (by decide +kernel)) (
  And.intro (sd_aload_n (k := 0) rfl (by decide +kernel) (by decide +kernel)) (
  And.intro (sd_getR cf7 (by decide) (by decide) wf_7_13 (by decide +kernel) (by decide +kernel)) (
  And.intro (sd_aload_n (k := 0) rfl (by decide +kernel) (by decide +kernel)) (
  And.intro (sd_getR cf7 (by decide) (by decide) wf_7_37 (by decide +kernel) (by decide +kernel)) (
  And.intro (sd_iload_n (k := 1) rfl (by decide +kernel) (by decide +kernel)) (
  And.intro (sd_iald (by decide +kernel) (by decide +kernel)) (
  And.intro (sd_iald (by decide +kernel) (by decide +kernel)) (
  And.intro (sd_ige (off := 5) (by decide +kernel) (by decide +kernel) (by decide +kernel)) (
  And.intro (sd_iconst (n := (-1)) (by decide) (by decide +kernel) (by decide +kernel)) (
  And.intro (sd_iret (by decide +kernel) rfl) (
  And.intro (sd_aload_n (k := 0) rfl (by decide +kernel) (by decide +kernel)) (
  And.intro (sd_VV mg_193 (by decide +kernel) wm_7_425 wn_193 wv_193 rfl rfl (by decide +kernel)) (
  And.intro (sd_aload_n (k := 0) rfl (by decide +kernel) (by decide +kernel)) (
  And.intro (sd_getR cf7 (by decide) (by decide) wf_7_43 (by decide +kernel) (by decide +kernel)) (
  And.intro (sd_iload_n (k := 1) rfl (by decide +kernel) (by decide +kernel)) (
  And.intro (sd_dup2 (by decide +kernel) (by decide +kernel)) (
  And.intro (sd_iald (by decide +kernel) (by decide +kernel)) (
  And.intro (sd_aload_n (k := 0) rfl (by decide +kernel) (by decide +kernel)) (
  And.intro (sd_getR cf7 (by decide) (by decide) wf_7_13 (by decide +kernel) (by decide +kernel)) (
  And.intro (sd_aload_n (k := 0) rfl (by decide +kernel) (by decide +kernel)) (
  And.intro (sd_getR cf7 (by decide) (by decide) wf_7_37 (by decide +kernel) (by decide +kernel)) (
  And.intro (sd_iload_n (k := 1) rfl (by decide +kernel) (by decide +kernel)) (
  And.intro (sd_iald (by decide +kernel) (by decide +kernel)) (
  And.intro (sd_iald (by decide +kernel) (by decide +kernel)) (
  And.intro (sd_isub (by decide +kernel) (by decide +kernel)) (
  And.intro (sd_iast (by decide +kernel) (by decide +kernel)) (
  And.intro (sd_aload_n (k := 0) rfl (by decide +kernel) (by decide +kernel)) (
  And.intro (sd_getR cf7 (by decide) (by decide) wf_7_9 (by decide +kernel) (by decide +kernel)) (
  And.intro (sd_bipush (n := 6) (by decide) (by decide +kernel) (by decide +kernel)) (
  And.intro (sd_dup2 (by decide +kernel) (by decide +kernel)) (
  And.intro (sd_iald (by decide +kernel) (by decide +kernel)) (
  And.intro (sd_iconst (n := 1) (by decide) (by decide +kernel) (by decide +kernel)) (
  And.intro (sd_iload_n (k := 2) rfl (by decide +kernel) (by decide +kernel)) (
  And.intro (sd_ishl (by decide +kernel) (by decide +kernel)) (
  And.intro (sd_ior (by decide +kernel) (by decide +kernel)) (
  And.intro (sd_iast (by decide +kernel) (by decide +kernel)) (
  And.intro (sd_aload_n (k := 0) rfl (by decide +kernel) (by decide +kernel)) (
  And.intro (sd_getR cf7 (by decide) (by decide) wf_7_9 (by decide +kernel) (by decide +kernel)) (
  And.intro (sd_bipush (n := 9) (by decide) (by decide +kernel) (by decide +kernel)) (
  And.intro (sd_dup2 (by decide +kernel) (by decide +kernel)) (
  And.intro (sd_iald (by decide +kernel) (by decide +kernel)) (
  And.intro (sd_iconst (n := 1) (by decide) (by decide +kernel) (by decide +kernel)) (
  And.intro (sd_iload_n (k := 2) rfl (by decide +kernel) (by decide +kernel)) (
  And.intro (sd_ishl (by decide +kernel) (by decide +kernel)) (
  And.intro (sd_ior (by decide +kernel) (by decide +kernel)) (
  And.intro (sd_iast (by decide +kernel) (by decide +kernel)) (
  And.intro (sd_aload_n (k := 0) rfl (by decide +kernel) (by decide +kernel)) (
  And.intro (sd_getR cf7 (by decide) (by decide) wf_7_34 (by decide +kernel) (by decide +kernel)) (
  And.intro (sd_iload_n (k := 2) rfl (by decide +kernel) (by decide +kernel)) (
  And.intro (sd_iload_n (k := 1) rfl (by decide +kernel) (by decide +kernel)) (
  And.intro (sd_iast (by decide +kernel) (by decide +kernel)) (
  And.intro (sd_aload_n (k := 0) rfl (by decide +kernel) (by decide +kernel)) (
  And.intro (sd_getR cf7 (by decide) (by decide) wf_7_43 (by decide +kernel) (by decide +kernel)) (
  And.intro (sd_iload_n (k := 1) rfl (by decide +kernel) (by decide +kernel)) (
  And.intro (sd_iald (by decide +kernel) (by decide +kernel)) (
  And.intro (sd_iret (by decide +kernel) rfl) (
  trivial))))))))))))))))))))))))))))))))))))))))))))))))))))))))))))))))))))))))))))))
set_option maxRecDepth 100000 in
set_option maxHeartbeats 8000000 in
theorem sn_203 : Sns 203 0 tMo_check := And.intro (sd_aload_n (k := 0) rfl (by decide +kernel) (by decide +kernel)) (
  And.intro (sd_iload_n (k := 1) rfl (by decide +kernel) (by decide +kernel)) (
  And.intro (sd_VI mg_134 (by decide +kernel) wm_7_371 wn_134 wv_134 rfl rfl (by decide +kernel)) (
  And.intro (sd_zeq (off := 31) (by decide +kernel) (by decide +kernel) (by decide +kernel)) (
  And.intro (sd_aload_n (k := 0) rfl (by decide +kernel) (by decide +kernel)) (
  And.intro (sd_getR cf7 (by decide) (by decide) wf_7_9 (by decide +kernel) (by decide +kernel)) (
  And.intro (sd_bipush (n := 6) (by decide) (by decide +kernel) (by decide +kernel)) (
  And.intro (sd_iald (by decide +kernel) (by decide +kernel)) (
  And.intro (sd_iload_n (k := 1) rfl (by decide +kernel) (by decide +kernel)) (
  And.intro (sd_SI mg_132 (by decide +kernel) wm_7_375 wt_132 (by decide +kernel)) (
  And.intro (sd_zeq (off := 17) (by decide +kernel) (by decide +kernel) (by decide +kernel)) (
  And.intro (sd_aload_n (k := 0) rfl (by decide +kernel) (by decide +kernel)) (
  And.intro (sd_getR cf7 (by decide) (by decide) wf_7_9 (by decide +kernel) (by decide +kernel)) (
  And.intro (sd_bipush (n := 8) (by decide) (by decide +kernel) (by decide +kernel)) (
  And.intro (sd_iald (by decide +kernel) (by decide +kernel)) (
  And.intro (sd_iload_n (k := 1) rfl (by decide +kernel) (by decide +kernel)) (
  And.intro (sd_SI mg_132 (by decide +kernel) wm_7_375 wt_132 (by decide +kernel)) (
  And.intro (sd_zeq (off := 5) (by decide +kernel) (by decide +kernel) (by decide +kernel)) (
  And.intro (sd_iconst (n := (-1)) (by decide) (by decide +kernel) (by decide +kernel)) (
  And.intro (sd_iret (by decide +kernel) rfl) (
  And.intro (sd_aload_n (k := 0) rfl (by decide +kernel) (by decide +kernel)) (
  And.intro (sd_VV mg_193 (by decide +kernel) wm_7_425 wn_193 wv_193 rfl rfl (by decide +kernel)) (
  And.intro (sd_aload_n (k := 0) rfl (by decide +kernel) (by decide +kernel)) (
  And.intro (sd_getR cf7 (by decide) (by decide) wf_7_9 (by decide +kernel) (by decide +kernel)) (
  And.intro (sd_bipush (n := 9) (by decide) (by decide +kernel) (by decide +kernel)) (
  And.intro (sd_iald (by decide +kernel) (by decide +kernel)) (
  And.intro (sd_iload_n (k := 1) rfl (by decide +kernel) (by decide +kernel)) (
  And.intro (sd_SI mg_132 (by decide +kernel) wm_7_375 wt_132 (by decide +kernel)) (
  And.intro (sd_zne (off := 18) (by decide +kernel) (by decide +kernel) (by decide +kernel)) (
  And.intro (sd_aload_n (k := 0) rfl (by decide +kernel) (by decide +kernel)) (
  And.intro (sd_getR cf7 (by decide) (by decide) wf_7_9 (by decide +kernel) (by decide +kernel)) (
  And.intro (sd_bipush (n := 8) (by decide) (by decide +kernel) (by decide +kernel)) (
  And.intro (sd_dup2 (by decide +kernel) (by decide +kernel)) (
  And.intro (sd_iald (by decide +kernel) (by decide +kernel)) (
  And.intro (sd_iconst (n := 1) (by decide) (by decide +kernel) (by decide +kernel)) (
  And.intro (sd_iload_n (k := 1) rfl (by decide +kernel) (by decide +kernel)) (
  And.intro (sd_ishl (by decide +kernel) (by decide +kernel)) (
  And.intro (sd_ior (by decide +kernel) (by decide +kernel)) (
  And.intro (sd_iast (by decide +kernel) (by decide +kernel)) (
  And.intro (sd_iconst (n := 0) (by decide) (by decide +kernel) (by decide +kernel)) (
  And.intro (sd_iret (by decide +kernel) rfl) (
  And.intro (sd_aload_n (k := 0) rfl (by decide +kernel) (by decide +kernel)) (
  And.intro (sd_getR cf7 (by decide) (by decide) wf_7_34 (by decide +kernel) (by decide +kernel)) (
  And.intro (sd_iload_n (k := 1) rfl (by decide +kernel) (by decide +kernel)) (
  And.intro (sd_iald (by decide +kernel) (by decide +kernel)) (
  And.intro (sd_istore_n (k := 2) rfl (by decide) (by decide +kernel) (by decide +kernel)) (
  And.intro (sd_aload_n (k := 0) rfl (by decide +kernel) (by decide +kernel)) (
  And.intro (sd_getR cf7 (by decide) (by decide) wf_7_46 (by decide +kernel) (by decide +kernel)) (
  And.intro (sd_iload_n (k := 2) rfl (by decide +kernel) (by decide +kernel)) (
  And.intro (sd_aload_n (k := 0) rfl (by decide +kernel) (by decide +kernel)) (
  And.intro (sd_getR cf7 (by decide) (by decide) wf_7_9 (by decide +kernel) (by decide +kernel)) (
  And.intro (sd_iconst (n := 5) (by decide) (by decide +kernel) (by decide +kernel)) (
  And.intro (sd_iald (by decide +kernel) (by decide +kernel)) (
  And.intro (sd_aload_n (k := 0) rfl (by decide +kernel) (by decide +kernel)) (
  And.intro (sd_getR cf7 (by decide) (by decide) wf_7_9 (by decide +kernel) (by decide +kernel)) (
  And.intro (sd_iconst (n := 0) (by decide) (by decide +kernel) (by decide +kernel)) (
  And.intro (sd_iald (by decide +kernel) (by decide +kernel)) (
  And.intro (sd_iadd (by decide +kernel) (by decide +kernel)) (
  And.intro (sd_iast (by decide +kernel) (by decide +kernel)) (
  And.intro (sd_aload_n (k := 0) rfl (by decide +kernel) (by decide +kernel)) (
  And.intro (sd_getR cf7 (by decide) (by decide) wf_7_9 (by decide +kernel) (by decide +kernel)) (
  And.intro (sd_bipush (n := 7) (by decide) (by decide +kernel) (by decide +kernel)) (
  And.intro (sd_iald (by decide +kernel) (by decide +kernel)) (
  And.intro (sd_iload_n (k := 1) rfl (by decide +kernel) (by decide +kernel)) (
  And.intro (sd_SI mg_132 (by decide +kernel) wm_7_375 wt_132 (by decide +kernel)) (
  And.intro (sd_zeq (off := 41) (by decide +kernel) (by decide +kernel) (by decide +kernel)) (
  And.intro (sd_aload_n (k := 0) rfl (by decide +kernel) (by decide +kernel)) (
  And.intro (sd_getR cf7 (by decide) (by decide) wf_7_43 (by decide +kernel) (by decide +kernel)) (
  And.intro (sd_iload_n (k := 2) rfl (by decide +kernel) (by decide +kernel)) (
  And.intro (sd_aload_n (k := 0) rfl (by decide +kernel) (by decide +kernel)) (
  And.intro (sd_getR cf7 (by decide) (by decide) wf_7_43 (by decide +kernel) (by decide +kernel)) (
  And.intro (sd_iload_n (k := 2) rfl (by decide +kernel) (by decide +kernel)) (
  And.intro (sd_iald (by decide +kernel) (by decide +kernel)) (
  And.intro (sd_aload_n (k := 0) rfl (by decide +kernel) (by decide +kernel)) (
  And.intro (sd_getR cf7 (by decide) (by decide) wf_7_28 (by decide +kernel) (by decide +kernel)) (
  And.intro (sd_iload_n (k := 1) rfl (by decide +kernel) (by decide +kernel)) (
  And.intro (sd_iald (by decide +kernel) (by decide +kernel)) (
  And.intro (sd_ige (off := 7) (by decide +kernel) (by decide +kernel) (by decide +kernel)) (
  And.intro (sd_iconst (n := 0) (by decide) (by decide +kernel) (by decide +kernel)) (
  And.intro (sd_go (off := 16) (by decide +kernel) (by decide +kernel)) (
  And.intro (sd_aload_n (k := 0) rfl (by decide +kernel) (by decide +kernel)) (
  And.intro (sd_getR cf7 (by decide) (by decide) wf_7_43 (by decide +kernel) (by decide +kernel)) (
  And.intro (sd_iload_n (k := 2) rfl (by decide +kernel) (by decide +kernel)) (
  And.intro (sd_iald (by decide +kernel) (by decide +kernel)) (
  And.intro (sd_aload_n (k := 0) rfl (by decide +kernel) (by decide +kernel)) (
  And.intro (sd_getR cf7 (by decide) (by decide) wf_7_28 (by decide +kernel) (by decide +kernel)) (
  And.intro (sd_iload_n (k := 1) rfl (by decide +kernel) (by decide +kernel)) (
  And.intro (sd_iald (by decide +kernel) (by decide +kernel)) (
  And.intro (sd_isub (by decide +kernel) (by decide +kernel)) (
  And.intro (sd_iast (by decide +kernel) (by decide +kernel)) (
  And.intro (sd_aload_n (k := 0) rfl (by decide +kernel) (by decide +kernel)) (
  And.intro (sd_getR cf7 (by decide) (by decide) wf_7_9 (by decide +kernel) (by decide +kernel)) (
  And.intro (sd_bipush (n := 6) (by decide) (by decide +kernel) (by decide +kernel)) (
  And.intro (sd_dup2 (by decide +kernel) (by decide +kernel)) (
  And.intro (sd_iald (by decide +kernel) (by decide +kernel)) (
  And.intro (sd_iconst (n := 1) (by decide) (by decide +kernel) (by decide +kernel)) (
  And.intro (sd_iload_n (k := 1) rfl (by decide +kernel) (by decide +kernel)) (
  And.intro (sd_ishl (by decide +kernel) (by decide +kernel)) (
  And.intro (sd_iconst (n := (-1)) (by decide) (by decide +kernel) (by decide +kernel)) (
  And.intro (sd_ixor (by decide +kernel) (by decide +kernel)) (
  And.intro (sd_iand (by decide +kernel) (by decide +kernel)) (
  And.intro (sd_iast (by decide +kernel) (by decide +kernel)) (
  And.intro (sd_aload_n (k := 0) rfl (by decide +kernel) (by decide +kernel)) (
  And.intro (sd_getR cf7 (by decide) (by decide) wf_7_9 (by decide +kernel) (by decide +kernel)) (
  And.intro (sd_bipush (n := 7) (by decide) (by decide +kernel) (by decide +kernel)) (
  And.intro (sd_dup2 (by decide +kernel) (by decide +kernel)) (
  And.intro (sd_iald (by decide +kernel) (by decide +kernel)) (
  And.intro (sd_iconst (n := 1) (by decide) (by decide +kernel) (by decide +kernel)) (
  And.intro (sd_iload_n (k := 1) rfl (by decide +kernel) (by decide +kernel)) (
  And.intro (sd_ishl (by decide +kernel) (by decide +kernel)) (
  And.intro (sd_iconst (n := (-1)) (by decide) (by decide +kernel) (by decide +kernel)) (
  And.intro (sd_ixor (by decide +kernel) (by decide +kernel)) (
  And.intro (sd_iand (by decide +kernel) (by decide +kernel)) (
  And.intro (sd_iast (by decide +kernel) (by decide +kernel)) (
  And.intro (sd_aload_n (k := 0) rfl (by decide +kernel) (by decide +kernel)) (
  And.intro (sd_getR cf7 (by decide) (by decide) wf_7_9 (by decide +kernel) (by decide +kernel)) (
  And.intro (sd_bipush (n := 9) (by decide) (by decide +kernel) (by decide +kernel)) (
  And.intro (sd_dup2 (by decide +kernel) (by decide +kernel)) (
  And.intro (sd_iald (by decide +kernel) (by decide +kernel)) (
  And.intro (sd_iconst (n := 1) (by decide) (by decide +kernel) (by decide +kernel)) (
  And.intro (sd_iload_n (k := 1) rfl (by decide +kernel) (by decide +kernel)) (
  And.intro (sd_ishl (by decide +kernel) (by decide +kernel)) (
  And.intro (sd_iconst (n := (-1)) (by decide) (by decide +kernel) (by decide +kernel)) (
  And.intro (sd_ixor (by decide +kernel) (by decide +kernel)) (
  And.intro (sd_iand (by decide +kernel) (by decide +kernel)) (
  And.intro (sd_iast (by decide +kernel) (by decide +kernel)) (
  And.intro (sd_aload_n (k := 0) rfl (by decide +kernel) (by decide +kernel)) (
  And.intro (sd_getR cf7 (by decide) (by decide) wf_7_31 (by decide +kernel) (by decide +kernel)) (
  And.intro (sd_iload_n (k := 1) rfl (by decide +kernel) (by decide +kernel)) (
  And.intro (sd_iconst (n := (-1)) (by decide) (by decide +kernel) (by decide +kernel)) (
  And.intro (sd_iast (by decide +kernel) (by decide +kernel)) (
  And.intro (sd_aload_n (k := 0) rfl (by decide +kernel) (by decide +kernel)) (
  And.intro (sd_getR cf7 (by decide) (by decide) wf_7_34 (by decide +kernel) (by decide +kernel)) (
  And.intro (sd_iload_n (k := 1) rfl (by decide +kernel) (by decide +kernel)) (
  And.intro (sd_iconst (n := (-1)) (by decide) (by decide +kernel) (by decide +kernel)) (
  And.intro (sd_iast (by decide +kernel) (by decide +kernel)) (
  And.intro (sd_iconst (n := 1) (by decide) (by decide +kernel) (by decide +kernel)) (
  And.intro (sd_iret (by decide +kernel) rfl) (
  trivial))))))))))))))))))))))))))))))))))))))))))))))))))))))))))))))))))))))))))))))))))))))))))))))))))))))))))))))))))))))))))))))))))))))))))
set_option maxRecDepth 100000 in
set_option maxHeartbeats 8000000 in
theorem sn_204 : Sns 204 0 tMo_keepsAll := And.intro (sd_aload_n (k := 0) rfl (by decide +kernel) (by decide +kernel)) (
  And.intro (sd_iconst (n := 4) (by decide) (by decide +kernel) (by decide +kernel)) (
  And.intro (sd_iconst (n := 0) (by decide) (by decide +kernel) (by decide +kernel)) (
  And.intro (sd_VV mg_233 (by decide +kernel) wm_7_443 wn_233 wv_233 rfl rfl (by decide +kernel)) (
  And.intro (sd_vret (by decide +kernel) rfl) (
  trivial)))))
set_option maxRecDepth 100000 in
set_option maxHeartbeats 8000000 in
theorem sn_205 : Sns 205 0 tMo_laysBack := And.intro (sd_aload_n (k := 0) rfl (by decide +kernel) (by decide +kernel)) (
  And.intro (sd_iconst (n := 4) (by decide) (by decide +kernel) (by decide +kernel)) (
  And.intro (sd_iconst (n := 1) (by decide) (by decide +kernel) (by decide +kernel)) (
  And.intro (sd_VV mg_233 (by decide +kernel) wm_7_443 wn_233 wv_233 rfl rfl (by decide +kernel)) (
  And.intro (sd_vret (by decide +kernel) rfl) (
  trivial)))))
set_option maxRecDepth 100000 in
set_option maxHeartbeats 8000000 in
theorem sn_206 : Sns 206 0 tMo_ahead := And.intro (sd_aload_n (k := 0) rfl (by decide +kernel) (by decide +kernel)) (
  And.intro (sd_getI cf7 (by decide) (by decide) wf_7_331 (by decide +kernel) (by decide +kernel)) (
  And.intro (sd_zeq (off := 40) (by decide +kernel) (by decide +kernel) (by decide +kernel)) (
  And.intro (sd_iload_n (k := 2) rfl (by decide +kernel) (by decide +kernel)) (
  And.intro (sd_i2l (by decide +kernel) (by decide +kernel)) (
  And.intro (sd_lconst (n := 0) (by decide) (by decide +kernel) (by decide +kernel)) (
  And.intro (sd_ldc2 wl_7_446 (by decide +kernel) (by decide +kernel)) (
  And.intro (sd_SI mg_130 (by decide +kernel) wm_7_158 wt_130 (by decide +kernel)) (
  And.intro (sd_zeq (off := 28) (by decide +kernel) (by decide +kernel) (by decide +kernel)) (
  And.intro (sd_iload_n (k := 3) rfl (by decide +kernel) (by decide +kernel)) (
  And.intro (sd_i2l (by decide +kernel) (by decide +kernel)) (
  And.intro (sd_lconst (n := 0) (by decide) (by decide +kernel) (by decide +kernel)) (
  And.intro (sd_ldc2 wl_7_448 (by decide +kernel) (by decide +kernel)) (
  And.intro (sd_SI mg_130 (by decide +kernel) wm_7_158 wt_130 (by decide +kernel)) (
  And.intro (sd_zeq (off := 16) (by decide +kernel) (by decide +kernel) (by decide +kernel)) (
  And.intro (sd_iload_n (k := 3) rfl (by decide +kernel) (by decide +kernel)) (
  And.intro (sd_iconst (n := 2) (by decide) (by decide +kernel) (by decide +kernel)) (
  And.intro (sd_ige (off := 14) (by decide +kernel) (by decide +kernel) (by decide +kernel)) (
  And.intro (sd_aload_n (k := 0) rfl (by decide +kernel) (by decide +kernel)) (
  And.intro (sd_iload_n (k := 1) rfl (by decide +kernel) (by decide +kernel)) (
  And.intro (sd_VI mg_135 (by decide +kernel) wm_7_377 wn_135 wv_135 rfl rfl (by decide +kernel)) (
  And.intro (sd_zne (off := 6) (by decide +kernel) (by decide +kernel) (by decide +kernel)) (
  And.intro (sd_bipush (n := (-2)) (by decide) (by decide +kernel) (by decide +kernel)) (
  And.intro (sd_iret (by decide +kernel) rfl) (
  And.intro (sd_aload_n (k := 0) rfl (by decide +kernel) (by decide +kernel)) (
  And.intro (sd_VV mg_204 (by decide +kernel) wm_7_450 wn_204 wv_204 rfl rfl (by decide +kernel)) (
  And.intro (sd_aload_n (k := 0) rfl (by decide +kernel) (by decide +kernel)) (
  And.intro (sd_iload_n (k := 2) rfl (by decide +kernel) (by decide +kernel)) (
  And.intro (sd_VV mg_189 (by decide +kernel) wm_7_453 wn_189 wv_189 rfl rfl (by decide +kernel)) (
  And.intro (sd_iload_n (k := 3) rfl (by decide +kernel) (by decide +kernel)) (
  And.intro (sd_zne (off := 11) (by decide +kernel) (by decide +kernel) (by decide +kernel)) (
  And.intro (sd_aload_n (k := 0) rfl (by decide +kernel) (by decide +kernel)) (
  And.intro (sd_iload_n (k := 1) rfl (by decide +kernel) (by decide +kernel)) (
  And.intro (sd_VI mg_181 (by decide +kernel) wm_7_440 wn_181 wv_181 rfl rfl (by decide +kernel)) (
  And.intro (sd_go (off := 27) (by decide +kernel) (by decide +kernel)) (
  And.intro (sd_iload_n (k := 3) rfl (by decide +kernel) (by decide +kernel)) (
  And.intro (sd_iconst (n := 1) (by decide) (by decide +kernel) (by decide +kernel)) (
  And.intro (sd_ine (off := 12) (by decide +kernel) (by decide +kernel) (by decide +kernel)) (
  And.intro (sd_aload_n (k := 0) rfl (by decide +kernel) (by decide +kernel)) (
  And.intro (sd_getR cf7 (by decide) (by decide) wf_7_43 (by decide +kernel) (by decide +kernel)) (
  And.intro (sd_iload_n (k := 1) rfl (by decide +kernel) (by decide +kernel)) (
  And.intro (sd_iald (by decide +kernel) (by decide +kernel)) (
  And.intro (sd_go (off := 13) (by decide +kernel) (by decide +kernel)) (
  And.intro (sd_aload_n (k := 0) rfl (by decide +kernel) (by decide +kernel)) (
  And.intro (sd_getR cf7 (by decide) (by decide) wf_7_9 (by decide +kernel) (by decide +kernel)) (
  And.intro (sd_bipush (n := 7) (by decide) (by decide +kernel) (by decide +kernel)) (
  And.intro (sd_iald (by decide +kernel) (by decide +kernel)) (
  And.intro (sd_SI mg_131 (by decide +kernel) wm_7_388 wt_131 (by decide +kernel)) (
  And.intro (sd_istore (by decide) (by decide +kernel) (by decide +kernel)) (
  And.intro (sd_aload_n (k := 0) rfl (by decide +kernel) (by decide +kernel)) (
  And.intro (sd_VV mg_205 (by decide +kernel) wm_7_456 wn_205 wv_205 rfl rfl (by decide +kernel)) (
  And.intro (sd_iload (by decide +kernel) (by decide +kernel)) (
  And.intro (sd_iret (by decide +kernel) rfl) (
  trivial)))))))))))))))))))))))))))))))))))))))))))))))))))))
set_option maxRecDepth 100000 in
set_option maxHeartbeats 8000000 in
theorem sn_207 : Sns 207 0 tMo_way := And.intro (sd_aload_n (k := 0) rfl (by decide +kernel) (by decide +kernel)) (
  And.intro (sd_iload_n (k := 1) rfl (by decide +kernel) (by decide +kernel)) (
  And.intro (sd_VI mg_133 (by decide +kernel) wm_7_383 wn_133 wv_133 rfl rfl (by decide +kernel)) (
  And.intro (sd_zeq (off := 21) (by decide +kernel) (by decide +kernel) (by decide +kernel)) (
  And.intro (sd_aload_n (k := 0) rfl (by decide +kernel) (by decide +kernel)) (
  And.intro (sd_iload_n (k := 2) rfl (by decide +kernel) (by decide +kernel)) (
  And.intro (sd_VI mg_133 (by decide +kernel) wm_7_383 wn_133 wv_133 rfl rfl (by decide +kernel)) (
  And.intro (sd_zeq (off := 13) (by decide +kernel) (by decide +kernel) (by decide +kernel)) (
  And.intro (sd_iload_n (k := 3) rfl (by decide +kernel) (by decide +kernel)) (
  And.intro (sd_i2l (by decide +kernel) (by decide +kernel)) (
  And.intro (sd_lconst (n := 0) (by decide) (by decide +kernel) (by decide +kernel)) (
  And.intro (sd_lconst (n := 1) (by decide) (by decide +kernel) (by decide +kernel)) (
  And.intro (sd_SI mg_130 (by decide +kernel) wm_7_158 wt_130 (by decide +kernel)) (
  And.intro (sd_zne (off := 6) (by decide +kernel) (by decide +kernel) (by decide +kernel)) (
  And.intro (sd_bipush (n := (-3)) (by decide) (by decide +kernel) (by decide +kernel)) (
  And.intro (sd_iret (by decide +kernel) rfl) (
  And.intro (sd_aload_n (k := 0) rfl (by decide +kernel) (by decide +kernel)) (
  And.intro (sd_getR cf7 (by decide) (by decide) wf_7_19 (by decide +kernel) (by decide +kernel)) (
  And.intro (sd_bipush (n := 8) (by decide) (by decide +kernel) (by decide +kernel)) (
  And.intro (sd_iload_n (k := 1) rfl (by decide +kernel) (by decide +kernel)) (
  And.intro (sd_imul (by decide +kernel) (by decide +kernel)) (
  And.intro (sd_iload_n (k := 2) rfl (by decide +kernel) (by decide +kernel)) (
  And.intro (sd_iadd (by decide +kernel) (by decide +kernel)) (
  And.intro (sd_iald (by decide +kernel) (by decide +kernel)) (
  And.intro (sd_istore (by decide) (by decide +kernel) (by decide +kernel)) (
  And.intro (sd_iload (by decide +kernel) (by decide +kernel)) (
  And.intro (sd_sipush (n := 10000) (by decide) (by decide +kernel) (by decide +kernel)) (
  And.intro (sd_ige (off := 7) (by decide +kernel) (by decide +kernel) (by decide +kernel)) (
  And.intro (sd_iload_n (k := 3) rfl (by decide +kernel) (by decide +kernel)) (
  And.intro (sd_zne (off := 19) (by decide +kernel) (by decide +kernel) (by decide +kernel)) (
  And.intro (sd_iload (by decide +kernel) (by decide +kernel)) (
  And.intro (sd_sipush (n := 10000) (by decide) (by decide +kernel) (by decide +kernel)) (
  And.intro (sd_ilt (off := 8) (by decide +kernel) (by decide +kernel) (by decide +kernel)) (
  And.intro (sd_bipush (n := (-2)) (by decide) (by decide +kernel) (by decide +kernel)) (
  And.intro (sd_go (off := 5) (by decide +kernel) (by decide +kernel)) (
  And.intro (sd_iload (by decide +kernel) (by decide +kernel)) (
  And.intro (sd_iret (by decide +kernel) rfl) (
  And.intro (sd_iconst (n := 0) (by decide) (by decide +kernel) (by decide +kernel)) (
  And.intro (sd_istore (by decide) (by decide +kernel) (by decide +kernel)) (
  And.intro (sd_ms _ (sd_iload (by decide +kernel) (by decide +kernel))) (
  And.intro (sd_aload_n (k := 0) rfl (by decide +kernel) (by decide +kernel)) (
  And.intro (sd_getR cf7 (by decide) (by decide) wf_7_9 (by decide +kernel) (by decide +kernel)) (
  And.intro (sd_iconst (n := 1) (by decide) (by decide +kernel) (by decide +kernel)) (
  And.intro (sd_iald (by decide +kernel) (by decide +kernel)) (
  And.intro (sd_ige (off := 47) (by decide +kernel) (by decide +kernel) (by decide +kernel)) (
  And.intro (sd_iload_n (k := 1) rfl (by decide +kernel) (by decide +kernel)) (
  And.intro (sd_iload_n (k := 2) rfl (by decide +kernel) (by decide +kernel)) (
  And.intro (sd_ieq (off := 42) (by decide +kernel) (by decide +kernel) (by decide +kernel)) (
  And.intro (sd_aload_n (k := 0) rfl (by decide +kernel) (by decide +kernel)) (
  And.intro (sd_getR cf7 (by decide) (by decide) wf_7_16 (by decide +kernel) (by decide +kernel)) (
  And.intro (sd_bipush (n := 8) (by decide) (by decide +kernel) (by decide +kernel)) (
  And.intro (sd_iload_n (k := 1) rfl (by decide +kernel) (by decide +kernel)) (
  And.intro (sd_imul (by decide +kernel) (by decide +kernel)) (
  And.intro (sd_iload (by decide +kernel) (by decide +kernel)) (
  And.intro (sd_iadd (by decide +kernel) (by decide +kernel)) (
  And.intro (sd_iald (by decide +kernel) (by decide +kernel)) (
  And.intro (sd_aload_n (k := 0) rfl (by decide +kernel) (by decide +kernel)) (
  And.intro (sd_getR cf7 (by decide) (by decide) wf_7_19 (by decide +kernel) (by decide +kernel)) (
  And.intro (sd_bipush (n := 8) (by decide) (by decide +kernel) (by decide +kernel)) (
  And.intro (sd_iload (by decide +kernel) (by decide +kernel)) (
  And.intro (sd_imul (by decide +kernel) (by decide +kernel)) (
  And.intro (sd_iload_n (k := 2) rfl (by decide +kernel) (by decide +kernel)) (
  And.intro (sd_iadd (by decide +kernel) (by decide +kernel)) (
  And.intro (sd_iald (by decide +kernel) (by decide +kernel)) (
  And.intro (sd_iadd (by decide +kernel) (by decide +kernel)) (
  And.intro (sd_iload (by decide +kernel) (by decide +kernel)) (
  And.intro (sd_ine (off := 6) (by decide +kernel) (by decide +kernel) (by decide +kernel)) (
  And.intro (sd_iload (by decide +kernel) (by decide +kernel)) (
  And.intro (sd_iret (by decide +kernel) rfl) (
  And.intro (sd_iinc (n := 1) (by decide) (by decide) (by decide +kernel) (by decide +kernel)) (
  And.intro (sd_go (off := (-52)) (by decide +kernel) (by decide +kernel)) (
  And.intro (sd_iconst (n := (-1)) (by decide) (by decide +kernel) (by decide +kernel)) (
  And.intro (sd_iret (by decide +kernel) rfl) (
  trivial)))))))))))))))))))))))))))))))))))))))))))))))))))))))))))))))))))))))))
set_option maxRecDepth 100000 in
set_option maxHeartbeats 8000000 in
theorem sn_208 : Sns 208 0 tMo_meet := And.intro (sd_aload_n (k := 0) rfl (by decide +kernel) (by decide +kernel)) (
  And.intro (sd_iload_n (k := 1) rfl (by decide +kernel) (by decide +kernel)) (
  And.intro (sd_VI mg_135 (by decide +kernel) wm_7_377 wn_135 wv_135 rfl rfl (by decide +kernel)) (
  And.intro (sd_zeq (off := 16) (by decide +kernel) (by decide +kernel) (by decide +kernel)) (
  And.intro (sd_aload_n (k := 0) rfl (by decide +kernel) (by decide +kernel)) (
  And.intro (sd_iload_n (k := 2) rfl (by decide +kernel) (by decide +kernel)) (
  And.intro (sd_VI mg_135 (by decide +kernel) wm_7_377 wn_135 wv_135 rfl rfl (by decide +kernel)) (
  And.intro (sd_zeq (off := 8) (by decide +kernel) (by decide +kernel) (by decide +kernel)) (
  And.intro (sd_iload_n (k := 1) rfl (by decide +kernel) (by decide +kernel)) (
  And.intro (sd_iload_n (k := 2) rfl (by decide +kernel) (by decide +kernel)) (
  And.intro (sd_ine (off := 5) (by decide +kernel) (by decide +kernel) (by decide +kernel)) (
  And.intro (sd_iconst (n := (-1)) (by decide) (by decide +kernel) (by decide +kernel)) (
  And.intro (sd_iret (by decide +kernel) rfl) (
  And.intro (sd_aload_n (k := 0) rfl (by decide +kernel) (by decide +kernel)) (
  And.intro (sd_VV mg_204 (by decide +kernel) wm_7_450 wn_204 wv_204 rfl rfl (by decide +kernel)) (
  And.intro (sd_bipush (n := (-2)) (by decide) (by decide +kernel) (by decide +kernel)) (
  And.intro (sd_istore_n (k := 3) rfl (by decide) (by decide +kernel) (by decide +kernel)) (
  And.intro (sd_iconst (n := 0) (by decide) (by decide +kernel) (by decide +kernel)) (
  And.intro (sd_istore (by decide) (by decide +kernel) (by decide +kernel)) (
  And.intro (sd_ms _ (sd_iload (by decide +kernel) (by decide +kernel))) (
  And.intro (sd_bipush (n := 100) (by decide) (by decide +kernel) (by decide +kernel)) (
  And.intro (sd_ige (off := 54) (by decide +kernel) (by decide +kernel) (by decide +kernel)) (
  And.intro (sd_iload_n (k := 3) rfl (by decide +kernel) (by decide +kernel)) (
  And.intro (sd_bipush (n := (-2)) (by decide) (by decide +kernel) (by decide +kernel)) (
  And.intro (sd_ine (off := 48) (by decide +kernel) (by decide +kernel) (by decide +kernel)) (
  And.intro (sd_aload_n (k := 0) rfl (by decide +kernel) (by decide +kernel)) (
  And.intro (sd_iload_n (k := 1) rfl (by decide +kernel) (by decide +kernel)) (
  And.intro (sd_VI mg_181 (by decide +kernel) wm_7_440 wn_181 wv_181 rfl rfl (by decide +kernel)) (
  And.intro (sd_iconst (n := (-1)) (by decide) (by decide +kernel) (by decide +kernel)) (
  And.intro (sd_ieq (off := 25) (by decide +kernel) (by decide +kernel) (by decide +kernel)) (
  And.intro (sd_aload_n (k := 0) rfl (by decide +kernel) (by decide +kernel)) (
  And.intro (sd_iload_n (k := 1) rfl (by decide +kernel) (by decide +kernel)) (
  And.intro (sd_VI mg_181 (by decide +kernel) wm_7_440 wn_181 wv_181 rfl rfl (by decide +kernel)) (
  And.intro (sd_aload_n (k := 0) rfl (by decide +kernel) (by decide +kernel)) (
  And.intro (sd_iload_n (k := 2) rfl (by decide +kernel) (by decide +kernel)) (
  And.intro (sd_VI mg_181 (by decide +kernel) wm_7_440 wn_181 wv_181 rfl rfl (by decide +kernel)) (
  And.intro (sd_ine (off := 12) (by decide +kernel) (by decide +kernel) (by decide +kernel)) (
  And.intro (sd_aload_n (k := 0) rfl (by decide +kernel) (by decide +kernel)) (
  And.intro (sd_getR cf7 (by decide) (by decide) wf_7_9 (by decide +kernel) (by decide +kernel)) (
  And.intro (sd_iconst (n := 5) (by decide) (by decide +kernel) (by decide +kernel)) (
  And.intro (sd_iald (by decide +kernel) (by decide +kernel)) (
  And.intro (sd_go (off := 5) (by decide +kernel) (by decide +kernel)) (
  And.intro (sd_bipush (n := (-2)) (by decide) (by decide +kernel) (by decide +kernel)) (
  And.intro (sd_istore_n (k := 3) rfl (by decide) (by decide +kernel) (by decide +kernel)) (
  And.intro (sd_aload_n (k := 0) rfl (by decide +kernel) (by decide +kernel)) (
  And.intro (sd_VI mg_188 (by decide +kernel) wm_7_405 wn_188 wv_188 rfl rfl (by decide +kernel)) (
  And.intro (sd_pop (by decide +kernel) (by decide +kernel)) (
  And.intro (sd_iinc (n := 1) (by decide) (by decide) (by decide +kernel) (by decide +kernel)) (
  And.intro (sd_go (off := (-55)) (by decide +kernel) (by decide +kernel)) (
  And.intro (sd_aload_n (k := 0) rfl (by decide +kernel) (by decide +kernel)) (
  And.intro (sd_VV mg_205 (by decide +kernel) wm_7_456 wn_205 wv_205 rfl rfl (by decide +kernel)) (
  And.intro (sd_iload_n (k := 3) rfl (by decide +kernel) (by decide +kernel)) (
  And.intro (sd_iret (by decide +kernel) rfl) (
  trivial)))))))))))))))))))))))))))))))))))))))))))))))))))))
set_option maxRecDepth 100000 in
set_option maxHeartbeats 8000000 in
theorem sn_209 : Sns 209 0 tMo_isInTime := And.intro (sd_aload_n (k := 0) rfl (by decide +kernel) (by decide +kernel)) (
  And.intro (sd_getR cf7 (by decide) (by decide) wf_7_9 (by decide +kernel) (by decide +kernel)) (
  And.intro (sd_iconst (n := 5) (by decide) (by decide +kernel) (by decide +kernel)) (
  And.intro (sd_iald (by decide +kernel) (by decide +kernel)) (
  And.intro (sd_iload_n (k := 2) rfl (by decide +kernel) (by decide +kernel)) (
  And.intro (sd_zne (off := 7) (by decide +kernel) (by decide +kernel) (by decide +kernel)) (
  And.intro (sd_iconst (n := 0) (by decide) (by decide +kernel) (by decide +kernel)) (
  And.intro (sd_go (off := 6) (by decide +kernel) (by decide +kernel)) (
  And.intro (sd_iload_n (k := 2) rfl (by decide +kernel) (by decide +kernel)) (
  And.intro (sd_iconst (n := 1) (by decide) (by decide +kernel) (by decide +kernel)) (
  And.intro (sd_isub (by decide +kernel) (by decide +kernel)) (
  And.intro (sd_iadd (by decide +kernel) (by decide +kernel)) (
  And.intro (sd_aload_n (k := 0) rfl (by decide +kernel) (by decide +kernel)) (
  And.intro (sd_getR cf7 (by decide) (by decide) wf_7_25 (by decide +kernel) (by decide +kernel)) (
  And.intro (sd_iload_n (k := 1) rfl (by decide +kernel) (by decide +kernel)) (
  And.intro (sd_iald (by decide +kernel) (by decide +kernel)) (
  And.intro (sd_igt (off := 7) (by decide +kernel) (by decide +kernel) (by decide +kernel)) (
  And.intro (sd_iconst (n := 1) (by decide) (by decide +kernel) (by decide +kernel)) (
  And.intro (sd_go (off := 4) (by decide +kernel) (by decide +kernel)) (
  And.intro (sd_iconst (n := 0) (by decide) (by decide +kernel) (by decide +kernel)) (
  And.intro (sd_zret (by decide +kernel) rfl) (
  trivial)))))))))))))))))))))
set_option maxRecDepth 100000 in
set_option maxHeartbeats 8000000 in
theorem sn_210 : Sns 210 0 tMo_laysRounds := And.intro (sd_bipush (n := 64) (by decide) (by decide +kernel) (by decide +kernel)) (
  And.intro (sd_istore_n (k := 3) rfl (by decide) (by decide +kernel) (by decide +kernel)) (
  And.intro (sd_iconst (n := 0) (by decide) (by decide +kernel) (by decide +kernel)) (
  And.intro (sd_istore (by decide) (by decide +kernel) (by decide +kernel)) (
  And.intro (sd_ms _ (sd_iload (by decide +kernel) (by decide +kernel))) (
  And.intro (sd_iload_n (k := 3) rfl (by decide +kernel) (by decide +kernel)) (
  And.intro (sd_ige (off := 308) (by decide +kernel) (by decide +kernel) (by decide +kernel)) (
  And.intro (sd_iload (by decide +kernel) (by decide +kernel)) (
  And.intro (sd_zne (off := 20) (by decide +kernel) (by decide +kernel) (by decide +kernel)) (
  And.intro (sd_aload_n (k := 0) rfl (by decide +kernel) (by decide +kernel)) (
  And.intro (sd_getR cf7 (by decide) (by decide) wf_7_19 (by decide +kernel) (by decide +kernel)) (
  And.intro (sd_bipush (n := 8) (by decide) (by decide +kernel) (by decide +kernel)) (
  And.intro (sd_aload_n (k := 0) rfl (by decide +kernel) (by decide +kernel)) (
  And.intro (sd_getR cf7 (by decide) (by decide) wf_7_37 (by decide +kernel) (by decide +kernel)) (
  And.intro (sd_iload_n (k := 1) rfl (by decide +kernel) (by decide +kernel)) (
  And.intro (sd_iald (by decide +kernel) (by decide +kernel)) (
  And.intro (sd_imul (by decide +kernel) (by decide +kernel)) (
  And.intro (sd_iald (by decide +kernel) (by decide +kernel)) (
  And.intro (sd_go (off := 6) (by decide +kernel) (by decide +kernel)) (
  And.intro (sd_sipush (n := 10000) (by decide) (by decide +kernel) (by decide +kernel)) (
  And.intro (sd_istore (by decide) (by decide +kernel) (by decide +kernel)) (
  And.intro (sd_iconst (n := 0) (by decide) (by decide +kernel) (by decide +kernel)) (
  And.intro (sd_istore (by decide) (by decide +kernel) (by decide +kernel)) (
  And.intro (sd_ms _ (sd_iload (by decide +kernel) (by decide +kernel))) (
  And.intro (sd_bipush (n := 6) (by decide) (by decide +kernel) (by decide +kernel)) (
  And.intro (sd_ige (off := 252) (by decide +kernel) (by decide +kernel) (by decide +kernel)) (
  And.intro (sd_bipush (n := 6) (by decide) (by decide +kernel) (by decide +kernel)) (
  And.intro (sd_iload (by decide +kernel) (by decide +kernel)) (
  And.intro (sd_imul (by decide +kernel) (by decide +kernel)) (
  And.intro (sd_iload (by decide +kernel) (by decide +kernel)) (
  And.intro (sd_iadd (by decide +kernel) (by decide +kernel)) (
  And.intro (sd_istore (by decide) (by decide +kernel) (by decide +kernel)) (
  And.intro (sd_aload_n (k := 0) rfl (by decide +kernel) (by decide +kernel)) (
  And.intro (sd_getR cf7 (by decide) (by decide) wf_7_124 (by decide +kernel) (by decide +kernel)) (
  And.intro (sd_iload (by decide +kernel) (by decide +kernel)) (
  And.intro (sd_sipush (n := 10000) (by decide) (by decide +kernel) (by decide +kernel)) (
  And.intro (sd_iast (by decide +kernel) (by decide +kernel)) (
  And.intro (sd_iload (by decide +kernel) (by decide +kernel)) (
  And.intro (sd_iload_n (k := 2) rfl (by decide +kernel) (by decide +kernel)) (
  And.intro (sd_iand (by decide +kernel) (by decide +kernel)) (
  And.intro (sd_iload (by decide +kernel) (by decide +kernel)) (
  And.intro (sd_SI mg_132 (by decide +kernel) wm_7_375 wt_132 (by decide +kernel)) (
  And.intro (sd_zeq (off := 214) (by decide +kernel) (by decide +kernel) (by decide +kernel)) (
  And.intro (sd_iload (by decide +kernel) (by decide +kernel)) (
  And.intro (sd_iload_n (k := 2) rfl (by decide +kernel) (by decide +kernel)) (
  And.intro (sd_iconst (n := (-1)) (by decide) (by decide +kernel) (by decide +kernel)) (
  And.intro (sd_ixor (by decide +kernel) (by decide +kernel)) (
  And.intro (sd_iand (by decide +kernel) (by decide +kernel)) (
  And.intro (sd_zne (off := 205) (by decide +kernel) (by decide +kernel) (by decide +kernel)) (
  And.intro (sd_iload (by decide +kernel) (by decide +kernel)) (
  And.intro (sd_iconst (n := 1) (by decide) (by decide +kernel) (by decide +kernel)) (
  And.intro (sd_iload (by decide +kernel) (by decide +kernel)) (
  And.intro (sd_ishl (by decide +kernel) (by decide +kernel)) (
  And.intro (sd_iconst (n := (-1)) (by decide) (by decide +kernel) (by decide +kernel)) (
  And.intro (sd_ixor (by decide +kernel) (by decide +kernel)) (
  And.intro (sd_iand (by decide +kernel) (by decide +kernel)) (
  And.intro (sd_istore (by decide) (by decide +kernel) (by decide +kernel)) (
  And.intro (sd_iload (by decide +kernel) (by decide +kernel)) (
  And.intro (sd_zne (off := 28) (by decide +kernel) (by decide +kernel) (by decide +kernel)) (
  And.intro (sd_aload_n (k := 0) rfl (by decide +kernel) (by decide +kernel)) (
  And.intro (sd_getR cf7 (by decide) (by decide) wf_7_19 (by decide +kernel) (by decide +kernel)) (
  And.intro (sd_bipush (n := 8) (by decide) (by decide +kernel) (by decide +kernel)) (
  And.intro (sd_aload_n (k := 0) rfl (by decide +kernel) (by decide +kernel)) (
  And.intro (sd_getR cf7 (by decide) (by decide) wf_7_37 (by decide +kernel) (by decide +kernel)) (
  And.intro (sd_iload_n (k := 1) rfl (by decide +kernel) (by decide +kernel)) (
  And.intro (sd_iald (by decide +kernel) (by decide +kernel)) (
  And.intro (sd_imul (by decide +kernel) (by decide +kernel)) (
  And.intro (sd_aload_n (k := 0) rfl (by decide +kernel) (by decide +kernel)) (
  And.intro (sd_getR cf7 (by decide) (by decide) wf_7_22 (by decide +kernel) (by decide +kernel)) (
  And.intro (sd_iload (by decide +kernel) (by decide +kernel)) (
  And.intro (sd_iald (by decide +kernel) (by decide +kernel)) (
  And.intro (sd_iadd (by decide +kernel) (by decide +kernel)) (
  And.intro (sd_iald (by decide +kernel) (by decide +kernel)) (
  And.intro (sd_go (off := 6) (by decide +kernel) (by decide +kernel)) (
  And.intro (sd_sipush (n := 10000) (by decide) (by decide +kernel) (by decide +kernel)) (
  And.intro (sd_istore (by decide) (by decide +kernel) (by decide +kernel)) (
  And.intro (sd_iconst (n := 0) (by decide) (by decide +kernel) (by decide +kernel)) (
  And.intro (sd_istore (by decide) (by decide +kernel) (by decide +kernel)) (
  And.intro (sd_ms _ (sd_iload (by decide +kernel) (by decide +kernel))) (
  And.intro (sd_bipush (n := 6) (by decide) (by decide +kernel) (by decide +kernel)) (
  And.intro (sd_ige (off := 74) (by decide +kernel) (by decide +kernel) (by decide +kernel)) (
  And.intro (sd_iload (by decide +kernel) (by decide +kernel)) (
  And.intro (sd_iload (by decide +kernel) (by decide +kernel)) (
  And.intro (sd_SI mg_132 (by decide +kernel) wm_7_375 wt_132 (by decide +kernel)) (
  And.intro (sd_zeq (off := 58) (by decide +kernel) (by decide +kernel) (by decide +kernel)) (
  And.intro (sd_aload_n (k := 0) rfl (by decide +kernel) (by decide +kernel)) (
  And.intro (sd_getR cf7 (by decide) (by decide) wf_7_124 (by decide +kernel) (by decide +kernel)) (
  And.intro (sd_bipush (n := 6) (by decide) (by decide +kernel) (by decide +kernel)) (
  And.intro (sd_iload (by decide +kernel) (by decide +kernel)) (
  And.intro (sd_imul (by decide +kernel) (by decide +kernel)) (
  And.intro (sd_iload (by decide +kernel) (by decide +kernel)) (
  And.intro (sd_iadd (by decide +kernel) (by decide +kernel)) (
  And.intro (sd_iald (by decide +kernel) (by decide +kernel)) (
  And.intro (sd_aload_n (k := 0) rfl (by decide +kernel) (by decide +kernel)) (
  And.intro (sd_getR cf7 (by decide) (by decide) wf_7_19 (by decide +kernel) (by decide +kernel)) (
  And.intro (sd_bipush (n := 8) (by decide) (by decide +kernel) (by decide +kernel)) (
  And.intro (sd_aload_n (k := 0) rfl (by decide +kernel) (by decide +kernel)) (
  And.intro (sd_getR cf7 (by decide) (by decide) wf_7_22 (by decide +kernel) (by decide +kernel)) (
  And.intro (sd_iload (by decide +kernel) (by decide +kernel)) (
  And.intro (sd_iald (by decide +kernel) (by decide +kernel)) (
  And.intro (sd_imul (by decide +kernel) (by decide +kernel)) (
  And.intro (sd_aload_n (k := 0) rfl (by decide +kernel) (by decide +kernel)) (
  And.intro (sd_getR cf7 (by decide) (by decide) wf_7_22 (by decide +kernel) (by decide +kernel)) (
  And.intro (sd_iload (by decide +kernel) (by decide +kernel)) (
  And.intro (sd_iald (by decide +kernel) (by decide +kernel)) (
  And.intro (sd_iadd (by decide +kernel) (by decide +kernel)) (
  And.intro (sd_iald (by decide +kernel) (by decide +kernel)) (
  And.intro (sd_iadd (by decide +kernel) (by decide +kernel)) (
  And.intro (sd_istore (by decide) (by decide +kernel) (by decide +kernel)) (
  And.intro (sd_iload (by decide +kernel) (by decide +kernel)) (
  And.intro (sd_iload (by decide +kernel) (by decide +kernel)) (
  And.intro (sd_ige (off := 8) (by decide +kernel) (by decide +kernel) (by decide +kernel)) (
  And.intro (sd_iload (by decide +kernel) (by decide +kernel)) (
  And.intro (sd_go (off := 5) (by decide +kernel) (by decide +kernel)) (
  And.intro (sd_iload (by decide +kernel) (by decide +kernel)) (
  And.intro (sd_istore (by decide) (by decide +kernel) (by decide +kernel)) (
  And.intro (sd_iinc (n := 1) (by decide) (by decide) (by decide +kernel) (by decide +kernel)) (
  And.intro (sd_go (off := (-75)) (by decide +kernel) (by decide +kernel)) (
  And.intro (sd_aload_n (k := 0) rfl (by decide +kernel) (by decide +kernel)) (
  And.intro (sd_getR cf7 (by decide) (by decide) wf_7_124 (by decide +kernel) (by decide +kernel)) (
  And.intro (sd_iload (by decide +kernel) (by decide +kernel)) (
  And.intro (sd_iload (by decide +kernel) (by decide +kernel)) (
  And.intro (sd_sipush (n := 10000) (by decide) (by decide +kernel) (by decide +kernel)) (
  And.intro (sd_ige (off := 19) (by decide +kernel) (by decide +kernel) (by decide +kernel)) (
  And.intro (sd_aload_n (k := 0) rfl (by decide +kernel) (by decide +kernel)) (
  And.intro (sd_iload (by decide +kernel) (by decide +kernel)) (
  And.intro (sd_iload (by decide +kernel) (by decide +kernel)) (
  And.intro (sd_VI mg_209 (by decide +kernel) wm_7_459 wn_209 wv_209 rfl rfl (by decide +kernel)) (
  And.intro (sd_zeq (off := 8) (by decide +kernel) (by decide +kernel) (by decide +kernel)) (
  And.intro (sd_iload (by decide +kernel) (by decide +kernel)) (
  And.intro (sd_go (off := 6) (by decide +kernel) (by decide +kernel)) (
  And.intro (sd_sipush (n := 10000) (by decide) (by decide +kernel) (by decide +kernel)) (
  And.intro (sd_iast (by decide +kernel) (by decide +kernel)) (
  And.intro (sd_aload_n (k := 0) rfl (by decide +kernel) (by decide +kernel)) (
  And.intro (sd_getR cf7 (by decide) (by decide) wf_7_124 (by decide +kernel) (by decide +kernel)) (
  And.intro (sd_iload (by decide +kernel) (by decide +kernel)) (
  And.intro (sd_iald (by decide +kernel) (by decide +kernel)) (
  And.intro (sd_aload_n (k := 0) rfl (by decide +kernel) (by decide +kernel)) (
  And.intro (sd_getR cf7 (by decide) (by decide) wf_7_19 (by decide +kernel) (by decide +kernel)) (
  And.intro (sd_bipush (n := 8) (by decide) (by decide +kernel) (by decide +kernel)) (
  And.intro (sd_aload_n (k := 0) rfl (by decide +kernel) (by decide +kernel)) (
  And.intro (sd_getR cf7 (by decide) (by decide) wf_7_22 (by decide +kernel) (by decide +kernel)) (
  And.intro (sd_iload (by decide +kernel) (by decide +kernel)) (
  And.intro (sd_iald (by decide +kernel) (by decide +kernel)) (
  And.intro (sd_imul (by decide +kernel) (by decide +kernel)) (
  And.intro (sd_iald (by decide +kernel) (by decide +kernel)) (
  And.intro (sd_iadd (by decide +kernel) (by decide +kernel)) (
  And.intro (sd_istore (by decide) (by decide +kernel) (by decide +kernel)) (
  And.intro (sd_iload (by decide +kernel) (by decide +kernel)) (
  And.intro (sd_iload (by decide +kernel) (by decide +kernel)) (
  And.intro (sd_ige (off := 8) (by decide +kernel) (by decide +kernel) (by decide +kernel)) (
  And.intro (sd_iload (by decide +kernel) (by decide +kernel)) (
  And.intro (sd_go (off := 5) (by decide +kernel) (by decide +kernel)) (
  And.intro (sd_iload (by decide +kernel) (by decide +kernel)) (
  And.intro (sd_istore (by decide) (by decide +kernel) (by decide +kernel)) (
  And.intro (sd_iinc (n := 1) (by decide) (by decide) (by decide +kernel) (by decide +kernel)) (
  And.intro (sd_go (off := (-253)) (by decide +kernel) (by decide +kernel)) (
  And.intro (sd_aload_n (k := 0) rfl (by decide +kernel) (by decide +kernel)) (
  And.intro (sd_getR cf7 (by decide) (by decide) wf_7_127 (by decide +kernel) (by decide +kernel)) (
  And.intro (sd_iload_n (k := 3) rfl (by decide +kernel) (by decide +kernel)) (
  And.intro (sd_iload_n (k := 1) rfl (by decide +kernel) (by decide +kernel)) (
  And.intro (sd_imul (by decide +kernel) (by decide +kernel)) (
  And.intro (sd_iload (by decide +kernel) (by decide +kernel)) (
  And.intro (sd_iadd (by decide +kernel) (by decide +kernel)) (
  And.intro (sd_iload (by decide +kernel) (by decide +kernel)) (
  And.intro (sd_iast (by decide +kernel) (by decide +kernel)) (
  And.intro (sd_iinc (n := 1) (by decide) (by decide) (by decide +kernel) (by decide +kernel)) (
  And.intro (sd_go (off := (-308)) (by decide +kernel) (by decide +kernel)) (
  And.intro (sd_vret (by decide +kernel) rfl) (
  trivial)))))))))))))))))))))))))))))))))))))))))))))))))))))))))))))))))))))))))))))))))))))))))))))))))))))))))))))))))))))))))))))))))))))))))))))))))))))))))))))))))))))))))
set_option maxRecDepth 100000 in
set_option maxHeartbeats 8000000 in
theorem sn_211 : Sns 211 0 tMo_feesOf := And.intro (sd_iconst (n := 0) (by decide) (by decide +kernel) (by decide +kernel)) (
  And.intro (sd_istore_n (k := 2) rfl (by decide) (by decide +kernel) (by decide +kernel)) (
  And.intro (sd_iconst (n := 0) (by decide) (by decide +kernel) (by decide +kernel)) (
  And.intro (sd_istore_n (k := 3) rfl (by decide) (by decide +kernel) (by decide +kernel)) (
  And.intro (sd_ms _ (sd_iload_n (k := 3) rfl (by decide +kernel) (by decide +kernel))) (
  And.intro (sd_aload_n (k := 0) rfl (by decide +kernel) (by decide +kernel)) (
  And.intro (sd_getR cf7 (by decide) (by decide) wf_7_9 (by decide +kernel) (by decide +kernel)) (
  And.intro (sd_iconst (n := 3) (by decide) (by decide +kernel) (by decide +kernel)) (
  And.intro (sd_iald (by decide +kernel) (by decide +kernel)) (
  And.intro (sd_ige (off := 30) (by decide +kernel) (by decide +kernel) (by decide +kernel)) (
  And.intro (sd_iload_n (k := 2) rfl (by decide +kernel) (by decide +kernel)) (
  And.intro (sd_iload_n (k := 1) rfl (by decide +kernel) (by decide +kernel)) (
  And.intro (sd_iload_n (k := 3) rfl (by decide +kernel) (by decide +kernel)) (
  And.intro (sd_SI mg_132 (by decide +kernel) wm_7_375 wt_132 (by decide +kernel)) (
  And.intro (sd_zeq (off := 12) (by decide +kernel) (by decide +kernel) (by decide +kernel)) (
  And.intro (sd_aload_n (k := 0) rfl (by decide +kernel) (by decide +kernel)) (
  And.intro (sd_getR cf7 (by decide) (by decide) wf_7_28 (by decide +kernel) (by decide +kernel)) (
  And.intro (sd_iload_n (k := 3) rfl (by decide +kernel) (by decide +kernel)) (
  And.intro (sd_iald (by decide +kernel) (by decide +kernel)) (
  And.intro (sd_go (off := 4) (by decide +kernel) (by decide +kernel)) (
  And.intro (sd_iconst (n := 0) (by decide) (by decide +kernel) (by decide +kernel)) (
  And.intro (sd_iadd (by decide +kernel) (by decide +kernel)) (
  And.intro (sd_istore_n (k := 2) rfl (by decide) (by decide +kernel) (by decide +kernel)) (
  And.intro (sd_iinc (n := 1) (by decide) (by decide) (by decide +kernel) (by decide +kernel)) (
  And.intro (sd_go (off := (-34)) (by decide +kernel) (by decide +kernel)) (
  And.intro (sd_iload_n (k := 2) rfl (by decide +kernel) (by decide +kernel)) (
  And.intro (sd_iret (by decide +kernel) rfl) (
  trivial)))))))))))))))))))))))))))
set_option maxRecDepth 100000 in
set_option maxHeartbeats 8000000 in
theorem sn_212 : Sns 212 0 tMo_couldGoFor := And.intro (sd_iconst (n := 0) (by decide) (by decide +kernel) (by decide +kernel)) (
  And.intro (sd_istore_n (k := 2) rfl (by decide) (by decide +kernel) (by decide +kernel)) (
  And.intro (sd_iconst (n := 0) (by decide) (by decide +kernel) (by decide +kernel)) (
  And.intro (sd_istore_n (k := 3) rfl (by decide) (by decide +kernel) (by decide +kernel)) (
  And.intro (sd_ms _ (sd_iload_n (k := 3) rfl (by decide +kernel) (by decide +kernel))) (
  And.intro (sd_aload_n (k := 0) rfl (by decide +kernel) (by decide +kernel)) (
  And.intro (sd_getR cf7 (by decide) (by decide) wf_7_9 (by decide +kernel) (by decide +kernel)) (
  And.intro (sd_iconst (n := 3) (by decide) (by decide +kernel) (by decide +kernel)) (
  And.intro (sd_iald (by decide +kernel) (by decide +kernel)) (
  And.intro (sd_ige (off := 61) (by decide +kernel) (by decide +kernel) (by decide +kernel)) (
  And.intro (sd_iload_n (k := 2) rfl (by decide +kernel) (by decide +kernel)) (
  And.intro (sd_aload_n (k := 0) rfl (by decide +kernel) (by decide +kernel)) (
  And.intro (sd_getR cf7 (by decide) (by decide) wf_7_31 (by decide +kernel) (by decide +kernel)) (
  And.intro (sd_iload_n (k := 3) rfl (by decide +kernel) (by decide +kernel)) (
  And.intro (sd_iald (by decide +kernel) (by decide +kernel)) (
  And.intro (sd_iload_n (k := 1) rfl (by decide +kernel) (by decide +kernel)) (
  And.intro (sd_ieq (off := 13) (by decide +kernel) (by decide +kernel) (by decide +kernel)) (
  And.intro (sd_aload_n (k := 0) rfl (by decide +kernel) (by decide +kernel)) (
  And.intro (sd_getR cf7 (by decide) (by decide) wf_7_31 (by decide +kernel) (by decide +kernel)) (
  And.intro (sd_iload_n (k := 3) rfl (by decide +kernel) (by decide +kernel)) (
  And.intro (sd_iald (by decide +kernel) (by decide +kernel)) (
  And.intro (sd_iconst (n := (-1)) (by decide) (by decide +kernel) (by decide +kernel)) (
  And.intro (sd_ine (off := 31) (by decide +kernel) (by decide +kernel) (by decide +kernel)) (
  And.intro (sd_aload_n (k := 0) rfl (by decide +kernel) (by decide +kernel)) (
  And.intro (sd_getR cf7 (by decide) (by decide) wf_7_9 (by decide +kernel) (by decide +kernel)) (
  And.intro (sd_bipush (n := 6) (by decide) (by decide +kernel) (by decide +kernel)) (
  And.intro (sd_iald (by decide +kernel) (by decide +kernel)) (
  And.intro (sd_aload_n (k := 0) rfl (by decide +kernel) (by decide +kernel)) (
  And.intro (sd_getR cf7 (by decide) (by decide) wf_7_9 (by decide +kernel) (by decide +kernel)) (
  And.intro (sd_bipush (n := 7) (by decide) (by decide +kernel) (by decide +kernel)) (
  And.intro (sd_iald (by decide +kernel) (by decide +kernel)) (
  And.intro (sd_ior (by decide +kernel) (by decide +kernel)) (
  And.intro (sd_iload_n (k := 3) rfl (by decide +kernel) (by decide +kernel)) (
  And.intro (sd_SI mg_132 (by decide +kernel) wm_7_375 wt_132 (by decide +kernel)) (
  And.intro (sd_zne (off := 9) (by decide +kernel) (by decide +kernel) (by decide +kernel)) (
  And.intro (sd_iconst (n := 1) (by decide) (by decide +kernel) (by decide +kernel)) (
  And.intro (sd_iload_n (k := 3) rfl (by decide +kernel) (by decide +kernel)) (
  And.intro (sd_ishl (by decide +kernel) (by decide +kernel)) (
  And.intro (sd_go (off := 4) (by decide +kernel) (by decide +kernel)) (
  And.intro (sd_iconst (n := 0) (by decide) (by decide +kernel) (by decide +kernel)) (
  And.intro (sd_ior (by decide +kernel) (by decide +kernel)) (
  And.intro (sd_istore_n (k := 2) rfl (by decide) (by decide +kernel) (by decide +kernel)) (
  And.intro (sd_iinc (n := 1) (by decide) (by decide) (by decide +kernel) (by decide +kernel)) (
  And.intro (sd_go (off := (-65)) (by decide +kernel) (by decide +kernel)) (
  And.intro (sd_iload_n (k := 2) rfl (by decide +kernel) (by decide +kernel)) (
  And.intro (sd_iret (by decide +kernel) rfl) (
  trivial))))))))))))))))))))))))))))))))))))))))))))))
set_option maxRecDepth 100000 in
set_option maxHeartbeats 8000000 in
theorem sn_213 : Sns 213 0 tMo_round := And.intro (sd_aload_n (k := 0) rfl (by decide +kernel) (by decide +kernel)) (
  And.intro (sd_iload_n (k := 1) rfl (by decide +kernel) (by decide +kernel)) (
  And.intro (sd_VI mg_135 (by decide +kernel) wm_7_377 wn_135 wv_135 rfl rfl (by decide +kernel)) (
  And.intro (sd_zeq (off := 24) (by decide +kernel) (by decide +kernel) (by decide +kernel)) (
  And.intro (sd_aload_n (k := 0) rfl (by decide +kernel) (by decide +kernel)) (
  And.intro (sd_iload_n (k := 1) rfl (by decide +kernel) (by decide +kernel)) (
  And.intro (sd_VI mg_181 (by decide +kernel) wm_7_440 wn_181 wv_181 rfl rfl (by decide +kernel)) (
  And.intro (sd_iconst (n := (-1)) (by decide) (by decide +kernel) (by decide +kernel)) (
  And.intro (sd_ieq (off := 15) (by decide +kernel) (by decide +kernel) (by decide +kernel)) (
  And.intro (sd_iload_n (k := 2) rfl (by decide +kernel) (by decide +kernel)) (
  And.intro (sd_i2l (by decide +kernel) (by decide +kernel)) (
  And.intro (sd_lconst (n := 0) (by decide) (by decide +kernel) (by decide +kernel)) (
  And.intro (sd_ldc2 wl_7_448 (by decide +kernel) (by decide +kernel)) (
  And.intro (sd_SI mg_130 (by decide +kernel) wm_7_158 wt_130 (by decide +kernel)) (
  And.intro (sd_zne (off := 6) (by decide +kernel) (by decide +kernel) (by decide +kernel)) (
  And.intro (sd_bipush (n := (-3)) (by decide) (by decide +kernel) (by decide +kernel)) (
  And.intro (sd_iret (by decide +kernel) rfl) (
  And.intro (sd_aload_n (k := 0) rfl (by decide +kernel) (by decide +kernel)) (
  And.intro (sd_iload_n (k := 1) rfl (by decide +kernel) (by decide +kernel)) (
  And.intro (sd_aload_n (k := 0) rfl (by decide +kernel) (by decide +kernel)) (
  And.intro (sd_iload_n (k := 1) rfl (by decide +kernel) (by decide +kernel)) (
  And.intro (sd_VI mg_212 (by decide +kernel) wm_7_462 wn_212 wv_212 rfl rfl (by decide +kernel)) (
  And.intro (sd_VV mg_210 (by decide +kernel) wm_7_465 wn_210 wv_210 rfl rfl (by decide +kernel)) (
  And.intro (sd_iload_n (k := 1) rfl (by decide +kernel) (by decide +kernel)) (
  And.intro (sd_bipush (n := 6) (by decide) (by decide +kernel) (by decide +kernel)) (
  And.intro (sd_ishl (by decide +kernel) (by decide +kernel)) (
  And.intro (sd_istore_n (k := 3) rfl (by decide) (by decide +kernel) (by decide +kernel)) (
  And.intro (sd_iconst (n := 0) (by decide) (by decide +kernel) (by decide +kernel)) (
  And.intro (sd_istore (by decide) (by decide +kernel) (by decide +kernel)) (
  And.intro (sd_iconst (n := 1) (by decide) (by decide +kernel) (by decide +kernel)) (
  And.intro (sd_istore (by decide) (by decide +kernel) (by decide +kernel)) (
  And.intro (sd_ms _ (sd_iload (by decide +kernel) (by decide +kernel))) (
  And.intro (sd_bipush (n := 64) (by decide) (by decide +kernel) (by decide +kernel)) (
  And.intro (sd_ige (off := 74) (by decide +kernel) (by decide +kernel) (by decide +kernel)) (
  And.intro (sd_aload_n (k := 0) rfl (by decide +kernel) (by decide +kernel)) (
  And.intro (sd_iload (by decide +kernel) (by decide +kernel)) (
  And.intro (sd_VI mg_211 (by decide +kernel) wm_7_468 wn_211 wv_211 rfl rfl (by decide +kernel)) (
  And.intro (sd_aload_n (k := 0) rfl (by decide +kernel) (by decide +kernel)) (
  And.intro (sd_iload (by decide +kernel) (by decide +kernel)) (
  And.intro (sd_VI mg_211 (by decide +kernel) wm_7_468 wn_211 wv_211 rfl rfl (by decide +kernel)) (
  And.intro (sd_isub (by decide +kernel) (by decide +kernel)) (
  And.intro (sd_istore (by decide) (by decide +kernel) (by decide +kernel)) (
  And.intro (sd_aload_n (k := 0) rfl (by decide +kernel) (by decide +kernel)) (
  And.intro (sd_getR cf7 (by decide) (by decide) wf_7_127 (by decide +kernel) (by decide +kernel)) (
  And.intro (sd_iload_n (k := 3) rfl (by decide +kernel) (by decide +kernel)) (
  And.intro (sd_iload (by decide +kernel) (by decide +kernel)) (
  And.intro (sd_iadd (by decide +kernel) (by decide +kernel)) (
  And.intro (sd_iald (by decide +kernel) (by decide +kernel)) (
  And.intro (sd_sipush (n := 10000) (by decide) (by decide +kernel) (by decide +kernel)) (
  And.intro (sd_ige (off := 38) (by decide +kernel) (by decide +kernel) (by decide +kernel)) (
  And.intro (sd_iload (by decide +kernel) (by decide +kernel)) (
  And.intro (sd_zgt (off := 29) (by decide +kernel) (by decide +kernel) (by decide +kernel)) (
  And.intro (sd_iload (by decide +kernel) (by decide +kernel)) (
  And.intro (sd_zne (off := 28) (by decide +kernel) (by decide +kernel) (by decide +kernel)) (
  And.intro (sd_aload_n (k := 0) rfl (by decide +kernel) (by decide +kernel)) (
  And.intro (sd_getR cf7 (by decide) (by decide) wf_7_127 (by decide +kernel) (by decide +kernel)) (
  And.intro (sd_iload_n (k := 3) rfl (by decide +kernel) (by decide +kernel)) (
  And.intro (sd_iload (by decide +kernel) (by decide +kernel)) (
  And.intro (sd_iadd (by decide +kernel) (by decide +kernel)) (
  And.intro (sd_iald (by decide +kernel) (by decide +kernel)) (
  And.intro (sd_aload_n (k := 0) rfl (by decide +kernel) (by decide +kernel)) (
  And.intro (sd_getR cf7 (by decide) (by decide) wf_7_127 (by decide +kernel) (by decide +kernel)) (
  And.intro (sd_iload_n (k := 3) rfl (by decide +kernel) (by decide +kernel)) (
  And.intro (sd_iload (by decide +kernel) (by decide +kernel)) (
  And.intro (sd_iadd (by decide +kernel) (by decide +kernel)) (
  And.intro (sd_iald (by decide +kernel) (by decide +kernel)) (
  And.intro (sd_ige (off := 7) (by decide +kernel) (by decide +kernel) (by decide +kernel)) (
  And.intro (sd_iload (by decide +kernel) (by decide +kernel)) (
  And.intro (sd_istore (by decide) (by decide +kernel) (by decide +kernel)) (
  And.intro (sd_iinc (n := 1) (by decide) (by decide) (by decide +kernel) (by decide +kernel)) (
  And.intro (sd_go (off := (-75)) (by decide +kernel) (by decide +kernel)) (
  And.intro (sd_aload_n (k := 0) rfl (by decide +kernel) (by decide +kernel)) (
  And.intro (sd_getR cf7 (by decide) (by decide) wf_7_127 (by decide +kernel) (by decide +kernel)) (
  And.intro (sd_iload_n (k := 3) rfl (by decide +kernel) (by decide +kernel)) (
  And.intro (sd_iload (by decide +kernel) (by decide +kernel)) (
  And.intro (sd_iadd (by decide +kernel) (by decide +kernel)) (
  And.intro (sd_iald (by decide +kernel) (by decide +kernel)) (
  And.intro (sd_sipush (n := 10000) (by decide) (by decide +kernel) (by decide +kernel)) (
  And.intro (sd_ilt (off := 6) (by decide +kernel) (by decide +kernel) (by decide +kernel)) (
  And.intro (sd_bipush (n := (-2)) (by decide) (by decide +kernel) (by decide +kernel)) (
  And.intro (sd_iret (by decide +kernel) rfl) (
  And.intro (sd_iload_n (k := 2) rfl (by decide +kernel) (by decide +kernel)) (
  And.intro (sd_zne (off := 12) (by decide +kernel) (by decide +kernel) (by decide +kernel)) (
  And.intro (sd_aload_n (k := 0) rfl (by decide +kernel) (by decide +kernel)) (
  And.intro (sd_iload (by decide +kernel) (by decide +kernel)) (
  And.intro (sd_VI mg_211 (by decide +kernel) wm_7_468 wn_211 wv_211 rfl rfl (by decide +kernel)) (
  And.intro (sd_go (off := 22) (by decide +kernel) (by decide +kernel)) (
  And.intro (sd_iload_n (k := 2) rfl (by decide +kernel) (by decide +kernel)) (
  And.intro (sd_iconst (n := 1) (by decide) (by decide +kernel) (by decide +kernel)) (
  And.intro (sd_ine (off := 8) (by decide +kernel) (by decide +kernel) (by decide +kernel)) (
  And.intro (sd_iload (by decide +kernel) (by decide +kernel)) (
  And.intro (sd_go (off := 12) (by decide +kernel) (by decide +kernel)) (
  And.intro (sd_aload_n (k := 0) rfl (by decide +kernel) (by decide +kernel)) (
  And.intro (sd_getR cf7 (by decide) (by decide) wf_7_127 (by decide +kernel) (by decide +kernel)) (
  And.intro (sd_iload_n (k := 3) rfl (by decide +kernel) (by decide +kernel)) (
  And.intro (sd_iload (by decide +kernel) (by decide +kernel)) (
  And.intro (sd_iadd (by decide +kernel) (by decide +kernel)) (
  And.intro (sd_iald (by decide +kernel) (by decide +kernel)) (
  And.intro (sd_iret (by decide +kernel) rfl) (
  trivial)))))))))))))))))))))))))))))))))))))))))))))))))))))))))))))))))))))))))))))))))))))))))))))))))))
set_option maxRecDepth 100000 in
set_option maxHeartbeats 8000000 in
theorem sn_214 : Sns 214 0 tMo_laysRow := And.intro (sd_aload_n (k := 0) rfl (by decide +kernel) (by decide +kernel)) (
  And.intro (sd_getR cf7 (by decide) (by decide) wf_7_9 (by decide +kernel) (by decide +kernel)) (
  And.intro (sd_iconst (n := 4) (by decide) (by decide +kernel) (by decide +kernel)) (
  And.intro (sd_iald (by decide +kernel) (by decide +kernel)) (
  And.intro (sd_iconst (n := 1) (by decide) (by decide +kernel) (by decide +kernel)) (
  And.intro (sd_iadd (by decide +kernel) (by decide +kernel)) (
  And.intro (sd_istore_n (k := 2) rfl (by decide) (by decide +kernel) (by decide +kernel)) (
  And.intro (sd_iload_n (k := 1) rfl (by decide +kernel) (by decide +kernel)) (
  And.intro (sd_istore_n (k := 3) rfl (by decide) (by decide +kernel) (by decide +kernel)) (
  And.intro (sd_iconst (n := 0) (by decide) (by decide +kernel) (by decide +kernel)) (
  And.intro (sd_istore (by decide) (by decide +kernel) (by decide +kernel)) (
  And.intro (sd_ms _ (sd_iload (by decide +kernel) (by decide +kernel))) (
  And.intro (sd_iconst (n := 3) (by decide) (by decide +kernel) (by decide +kernel)) (
  And.intro (sd_ige (off := 17) (by decide +kernel) (by decide +kernel) (by decide +kernel)) (
  And.intro (sd_aload_n (k := 0) rfl (by decide +kernel) (by decide +kernel)) (
  And.intro (sd_getR cf7 (by decide) (by decide) wf_7_136 (by decide +kernel) (by decide +kernel)) (
  And.intro (sd_iload (by decide +kernel) (by decide +kernel)) (
  And.intro (sd_iconst (n := 0) (by decide) (by decide +kernel) (by decide +kernel)) (
  And.intro (sd_iast (by decide +kernel) (by decide +kernel)) (
  And.intro (sd_iinc (n := 1) (by decide) (by decide) (by decide +kernel) (by decide +kernel)) (
  And.intro (sd_go (off := (-17)) (by decide +kernel) (by decide +kernel)) (
  And.intro (sd_aload_n (k := 0) rfl (by decide +kernel) (by decide +kernel)) (
  And.intro (sd_getR cf7 (by decide) (by decide) wf_7_9 (by decide +kernel) (by decide +kernel)) (
  And.intro (sd_iconst (n := 3) (by decide) (by decide +kernel) (by decide +kernel)) (
  And.intro (sd_iald (by decide +kernel) (by decide +kernel)) (
  And.intro (sd_iconst (n := 1) (by decide) (by decide +kernel) (by decide +kernel)) (
  And.intro (sd_isub (by decide +kernel) (by decide +kernel)) (
  And.intro (sd_istore (by decide) (by decide +kernel) (by decide +kernel)) (
  And.intro (sd_ms _ (sd_iload (by decide +kernel) (by decide +kernel))) (
  And.intro (sd_zlt (off := 75) (by decide +kernel) (by decide +kernel) (by decide +kernel)) (
  And.intro (sd_iload_n (k := 3) rfl (by decide +kernel) (by decide +kernel)) (
  And.intro (sd_iload_n (k := 2) rfl (by decide +kernel) (by decide +kernel)) (
  And.intro (sd_irem (by decide +kernel) (by decide +kernel)) (
  And.intro (sd_iconst (n := 1) (by decide) (by decide +kernel) (by decide +kernel)) (
  And.intro (sd_isub (by decide +kernel) (by decide +kernel)) (
  And.intro (sd_istore (by decide) (by decide +kernel) (by decide +kernel)) (
  And.intro (sd_iload_n (k := 3) rfl (by decide +kernel) (by decide +kernel)) (
  And.intro (sd_iload_n (k := 2) rfl (by decide +kernel) (by decide +kernel)) (
  And.intro (sd_idiv (by decide +kernel) (by decide +kernel)) (
  And.intro (sd_istore_n (k := 3) rfl (by decide) (by decide +kernel) (by decide +kernel)) (
  And.intro (sd_aload_n (k := 0) rfl (by decide +kernel) (by decide +kernel)) (
  And.intro (sd_getR cf7 (by decide) (by decide) wf_7_130 (by decide +kernel) (by decide +kernel)) (
  And.intro (sd_iload (by decide +kernel) (by decide +kernel)) (
  And.intro (sd_iload (by decide +kernel) (by decide +kernel)) (
  And.intro (sd_iast (by decide +kernel) (by decide +kernel)) (
  And.intro (sd_iload (by decide +kernel) (by decide +kernel)) (
  And.intro (sd_iconst (n := (-1)) (by decide) (by decide +kernel) (by decide +kernel)) (
  And.intro (sd_ieq (off := 43) (by decide +kernel) (by decide +kernel) (by decide +kernel)) (
  And.intro (sd_aload_n (k := 0) rfl (by decide +kernel) (by decide +kernel)) (
  And.intro (sd_iload (by decide +kernel) (by decide +kernel)) (
  And.intro (sd_VI mg_181 (by decide +kernel) wm_7_440 wn_181 wv_181 rfl rfl (by decide +kernel)) (
  And.intro (sd_iconst (n := (-1)) (by decide) (by decide +kernel) (by decide +kernel)) (
  And.intro (sd_ieq (off := 17) (by decide +kernel) (by decide +kernel) (by decide +kernel)) (
  And.intro (sd_aload_n (k := 0) rfl (by decide +kernel) (by decide +kernel)) (
  And.intro (sd_iload (by decide +kernel) (by decide +kernel)) (
  And.intro (sd_VI mg_212 (by decide +kernel) wm_7_462 wn_212 wv_212 rfl rfl (by decide +kernel)) (
  And.intro (sd_iload (by decide +kernel) (by decide +kernel)) (
  And.intro (sd_SI mg_132 (by decide +kernel) wm_7_375 wt_132 (by decide +kernel)) (
  And.intro (sd_zne (off := 5) (by decide +kernel) (by decide +kernel) (by decide +kernel)) (
  And.intro (sd_iconst (n := 0) (by decide) (by decide +kernel) (by decide +kernel)) (
  And.intro (sd_zret (by decide +kernel) rfl) (
  And.intro (sd_aload_n (k := 0) rfl (by decide +kernel) (by decide +kernel)) (
  And.intro (sd_getR cf7 (by decide) (by decide) wf_7_136 (by decide +kernel) (by decide +kernel)) (
  And.intro (sd_iload (by decide +kernel) (by decide +kernel)) (
  And.intro (sd_dup2 (by decide +kernel) (by decide +kernel)) (
  And.intro (sd_iald (by decide +kernel) (by decide +kernel)) (
  And.intro (sd_iconst (n := 1) (by decide) (by decide +kernel) (by decide +kernel)) (
  And.intro (sd_iload (by decide +kernel) (by decide +kernel)) (
  And.intro (sd_ishl (by decide +kernel) (by decide +kernel)) (
  And.intro (sd_ior (by decide +kernel) (by decide +kernel)) (
  And.intro (sd_iast (by decide +kernel) (by decide +kernel)) (
  And.intro (sd_iinc (n := (-1)) (by decide) (by decide) (by decide +kernel) (by decide +kernel)) (
  And.intro (sd_go (off := (-74)) (by decide +kernel) (by decide +kernel)) (
  And.intro (sd_iconst (n := 0) (by decide) (by decide +kernel) (by decide +kernel)) (
  And.intro (sd_istore (by decide) (by decide +kernel) (by decide +kernel)) (
  And.intro (sd_ms _ (sd_iload (by decide +kernel) (by decide +kernel))) (
  And.intro (sd_aload_n (k := 0) rfl (by decide +kernel) (by decide +kernel)) (
  And.intro (sd_getR cf7 (by decide) (by decide) wf_7_9 (by decide +kernel) (by decide +kernel)) (
  And.intro (sd_iconst (n := 4) (by decide) (by decide +kernel) (by decide +kernel)) (
  And.intro (sd_iald (by decide +kernel) (by decide +kernel)) (
  And.intro (sd_ige (off := 45) (by decide +kernel) (by decide +kernel) (by decide +kernel)) (
  And.intro (sd_aload_n (k := 0) rfl (by decide +kernel) (by decide +kernel)) (
  And.intro (sd_getR cf7 (by decide) (by decide) wf_7_136 (by decide +kernel) (by decide +kernel)) (
  And.intro (sd_iload (by decide +kernel) (by decide +kernel)) (
  And.intro (sd_iald (by decide +kernel) (by decide +kernel)) (
  And.intro (sd_zeq (off := 29) (by decide +kernel) (by decide +kernel) (by decide +kernel)) (
  And.intro (sd_aload_n (k := 0) rfl (by decide +kernel) (by decide +kernel)) (
  And.intro (sd_getR cf7 (by decide) (by decide) wf_7_127 (by decide +kernel) (by decide +kernel)) (
  And.intro (sd_iload (by decide +kernel) (by decide +kernel)) (
  And.intro (sd_bipush (n := 6) (by decide) (by decide +kernel) (by decide +kernel)) (
  And.intro (sd_ishl (by decide +kernel) (by decide +kernel)) (
  And.intro (sd_aload_n (k := 0) rfl (by decide +kernel) (by decide +kernel)) (
  And.intro (sd_getR cf7 (by decide) (by decide) wf_7_136 (by decide +kernel) (by decide +kernel)) (
  And.intro (sd_iload (by decide +kernel) (by decide +kernel)) (
  And.intro (sd_iald (by decide +kernel) (by decide +kernel)) (
  And.intro (sd_iadd (by decide +kernel) (by decide +kernel)) (
  And.intro (sd_iald (by decide +kernel) (by decide +kernel)) (
  And.intro (sd_sipush (n := 10000) (by decide) (by decide +kernel) (by decide +kernel)) (
  And.intro (sd_ilt (off := 5) (by decide +kernel) (by decide +kernel) (by decide +kernel)) (
  And.intro (sd_iconst (n := 0) (by decide) (by decide +kernel) (by decide +kernel)) (
  And.intro (sd_zret (by decide +kernel) rfl) (
  And.intro (sd_iinc (n := 1) (by decide) (by decide) (by decide +kernel) (by decide +kernel)) (
  And.intro (sd_go (off := (-50)) (by decide +kernel) (by decide +kernel)) (
  And.intro (sd_iconst (n := 1) (by decide) (by decide +kernel) (by decide +kernel)) (
  And.intro (sd_zret (by decide +kernel) rfl) (
  trivial)))))))))))))))))))))))))))))))))))))))))))))))))))))))))))))))))))))))))))))))))))))))))))))))))))))))))
set_option maxRecDepth 100000 in
set_option maxHeartbeats 8000000 in
theorem sn_215 : Sns 215 0 tMo_parted := And.intro (sd_aload_n (k := 0) rfl (by decide +kernel) (by decide +kernel)) (
  And.intro (sd_getI cf7 (by decide) (by decide) wf_7_331 (by decide +kernel) (by decide +kernel)) (
  And.intro (sd_zeq (off := 15) (by decide +kernel) (by decide +kernel) (by decide +kernel)) (
  And.intro (sd_iload_n (k := 1) rfl (by decide +kernel) (by decide +kernel)) (
  And.intro (sd_i2l (by decide +kernel) (by decide +kernel)) (
  And.intro (sd_lconst (n := 0) (by decide) (by decide +kernel) (by decide +kernel)) (
  And.intro (sd_ldc2 wl_7_471 (by decide +kernel) (by decide +kernel)) (
  And.intro (sd_SI mg_130 (by decide +kernel) wm_7_158 wt_130 (by decide +kernel)) (
  And.intro (sd_zne (off := 6) (by decide +kernel) (by decide +kernel) (by decide +kernel)) (
  And.intro (sd_bipush (n := (-3)) (by decide) (by decide +kernel) (by decide +kernel)) (
  And.intro (sd_iret (by decide +kernel) rfl) (
  And.intro (sd_iconst (n := 1) (by decide) (by decide +kernel) (by decide +kernel)) (
  And.intro (sd_istore_n (k := 2) rfl (by decide) (by decide +kernel) (by decide +kernel)) (
  And.intro (sd_iconst (n := 0) (by decide) (by decide +kernel) (by decide +kernel)) (
  And.intro (sd_istore_n (k := 3) rfl (by decide) (by decide +kernel) (by decide +kernel)) (
  And.intro (sd_ms _ (sd_iload_n (k := 3) rfl (by decide +kernel) (by decide +kernel))) (
  And.intro (sd_aload_n (k := 0) rfl (by decide +kernel) (by decide +kernel)) (
  And.intro (sd_getR cf7 (by decide) (by decide) wf_7_9 (by decide +kernel) (by decide +kernel)) (
  And.intro (sd_iconst (n := 3) (by decide) (by decide +kernel) (by decide +kernel)) (
  And.intro (sd_iald (by decide +kernel) (by decide +kernel)) (
  And.intro (sd_ige (off := 20) (by decide +kernel) (by decide +kernel) (by decide +kernel)) (
  And.intro (sd_iload_n (k := 2) rfl (by decide +kernel) (by decide +kernel)) (
  And.intro (sd_aload_n (k := 0) rfl (by decide +kernel) (by decide +kernel)) (
  And.intro (sd_getR cf7 (by decide) (by decide) wf_7_9 (by decide +kernel) (by decide +kernel)) (
  And.intro (sd_iconst (n := 4) (by decide) (by decide +kernel) (by decide +kernel)) (
  And.intro (sd_iald (by decide +kernel) (by decide +kernel)) (
  And.intro (sd_iconst (n := 1) (by decide) (by decide +kernel) (by decide +kernel)) (
  And.intro (sd_iadd (by decide +kernel) (by decide +kernel)) (
  And.intro (sd_imul (by decide +kernel) (by decide +kernel)) (
  And.intro (sd_istore_n (k := 2) rfl (by decide) (by decide +kernel) (by decide +kernel)) (
  And.intro (sd_iinc (n := 1) (by decide) (by decide) (by decide +kernel) (by decide +kernel)) (
  And.intro (sd_go (off := (-24)) (by decide +kernel) (by decide +kernel)) (
  And.intro (sd_iconst (n := 0) (by decide) (by decide +kernel) (by decide +kernel)) (
  And.intro (sd_istore_n (k := 3) rfl (by decide) (by decide +kernel) (by decide +kernel)) (
  And.intro (sd_ms _ (sd_iload_n (k := 3) rfl (by decide +kernel) (by decide +kernel))) (
  And.intro (sd_aload_n (k := 0) rfl (by decide +kernel) (by decide +kernel)) (
  And.intro (sd_getR cf7 (by decide) (by decide) wf_7_9 (by decide +kernel) (by decide +kernel)) (
  And.intro (sd_iconst (n := 4) (by decide) (by decide +kernel) (by decide +kernel)) (
  And.intro (sd_iald (by decide +kernel) (by decide +kernel)) (
  And.intro (sd_ige (off := 28) (by decide +kernel) (by decide +kernel) (by decide +kernel)) (
  And.intro (sd_aload_n (k := 0) rfl (by decide +kernel) (by decide +kernel)) (
  And.intro (sd_iload_n (k := 3) rfl (by decide +kernel) (by decide +kernel)) (
  And.intro (sd_VI mg_181 (by decide +kernel) wm_7_440 wn_181 wv_181 rfl rfl (by decide +kernel)) (
  And.intro (sd_iconst (n := (-1)) (by decide) (by decide +kernel) (by decide +kernel)) (
  And.intro (sd_ieq (off := 13) (by decide +kernel) (by decide +kernel) (by decide +kernel)) (
  And.intro (sd_aload_n (k := 0) rfl (by decide +kernel) (by decide +kernel)) (
  And.intro (sd_iload_n (k := 3) rfl (by decide +kernel) (by decide +kernel)) (
  And.intro (sd_aload_n (k := 0) rfl (by decide +kernel) (by decide +kernel)) (
  And.intro (sd_iload_n (k := 3) rfl (by decide +kernel) (by decide +kernel)) (
  And.intro (sd_VI mg_212 (by decide +kernel) wm_7_462 wn_212 wv_212 rfl rfl (by decide +kernel)) (
  And.intro (sd_VV mg_210 (by decide +kernel) wm_7_465 wn_210 wv_210 rfl rfl (by decide +kernel)) (
  And.intro (sd_iinc (n := 1) (by decide) (by decide) (by decide +kernel) (by decide +kernel)) (
  And.intro (sd_go (off := (-32)) (by decide +kernel) (by decide +kernel)) (
  And.intro (sd_iconst (n := (-1)) (by decide) (by decide +kernel) (by decide +kernel)) (
  And.intro (sd_istore_n (k := 3) rfl (by decide) (by decide +kernel) (by decide +kernel)) (
  And.intro (sd_iconst (n := 0) (by decide) (by decide +kernel) (by decide +kernel)) (
  And.intro (sd_istore (by decide) (by decide +kernel) (by decide +kernel)) (
  And.intro (sd_ms _ (sd_iload (by decide +kernel) (by decide +kernel))) (
  And.intro (sd_iload_n (k := 2) rfl (by decide +kernel) (by decide +kernel)) (
  And.intro (sd_ige (off := 88) (by decide +kernel) (by decide +kernel) (by decide +kernel)) (
  And.intro (sd_aload_n (k := 0) rfl (by decide +kernel) (by decide +kernel)) (
  And.intro (sd_iload (by decide +kernel) (by decide +kernel)) (
  And.intro (sd_VI mg_214 (by decide +kernel) wm_7_473 wn_214 wv_214 rfl rfl (by decide +kernel)) (
  And.intro (sd_zeq (off := 73) (by decide +kernel) (by decide +kernel) (by decide +kernel)) (
  And.intro (sd_iconst (n := 0) (by decide) (by decide +kernel) (by decide +kernel)) (
  And.intro (sd_istore (by decide) (by decide +kernel) (by decide +kernel)) (
  And.intro (sd_iconst (n := 0) (by decide) (by decide +kernel) (by decide +kernel)) (
  And.intro (sd_istore (by decide) (by decide +kernel) (by decide +kernel)) (
  And.intro (sd_ms _ (sd_iload (by decide +kernel) (by decide +kernel))) (
  And.intro (sd_aload_n (k := 0) rfl (by decide +kernel) (by decide +kernel)) (
  And.intro (sd_getR cf7 (by decide) (by decide) wf_7_9 (by decide +kernel) (by decide +kernel)) (
  And.intro (sd_iconst (n := 3) (by decide) (by decide +kernel) (by decide +kernel)) (
  And.intro (sd_iald (by decide +kernel) (by decide +kernel)) (
  And.intro (sd_ige (off := 36) (by decide +kernel) (by decide +kernel) (by decide +kernel)) (
  And.intro (sd_iload (by decide +kernel) (by decide +kernel)) (
  And.intro (sd_aload_n (k := 0) rfl (by decide +kernel) (by decide +kernel)) (
  And.intro (sd_getR cf7 (by decide) (by decide) wf_7_130 (by decide +kernel) (by decide +kernel)) (
  And.intro (sd_iload (by decide +kernel) (by decide +kernel)) (
  And.intro (sd_iald (by decide +kernel) (by decide +kernel)) (
  And.intro (sd_iconst (n := (-1)) (by decide) (by decide +kernel) (by decide +kernel)) (
  And.intro (sd_ine (off := 7) (by decide +kernel) (by decide +kernel) (by decide +kernel)) (
  And.intro (sd_iconst (n := 0) (by decide) (by decide +kernel) (by decide +kernel)) (
  And.intro (sd_go (off := 10) (by decide +kernel) (by decide +kernel)) (
  And.intro (sd_aload_n (k := 0) rfl (by decide +kernel) (by decide +kernel)) (
  And.intro (sd_getR cf7 (by decide) (by decide) wf_7_28 (by decide +kernel) (by decide +kernel)) (
  And.intro (sd_iload (by decide +kernel) (by decide +kernel)) (
  And.intro (sd_iald (by decide +kernel) (by decide +kernel)) (
  And.intro (sd_iadd (by decide +kernel) (by decide +kernel)) (
  And.intro (sd_istore (by decide) (by decide +kernel) (by decide +kernel)) (
  And.intro (sd_iinc (n := 1) (by decide) (by decide) (by decide +kernel) (by decide +kernel)) (
  And.intro (sd_go (off := (-41)) (by decide +kernel) (by decide +kernel)) (
  And.intro (sd_iload (by decide +kernel) (by decide +kernel)) (
  And.intro (sd_iload_n (k := 3) rfl (by decide +kernel) (by decide +kernel)) (
  And.intro (sd_ile (off := 17) (by decide +kernel) (by decide +kernel) (by decide +kernel)) (
  And.intro (sd_iload (by decide +kernel) (by decide +kernel)) (
  And.intro (sd_istore_n (k := 3) rfl (by decide) (by decide +kernel) (by decide +kernel)) (
  And.intro (sd_aload_n (k := 0) rfl (by decide +kernel) (by decide +kernel)) (
  And.intro (sd_getR cf7 (by decide) (by decide) wf_7_130 (by decide +kernel) (by decide +kernel)) (
  And.intro (sd_aload_n (k := 0) rfl (by decide +kernel) (by decide +kernel)) (
  And.intro (sd_getR cf7 (by decide) (by decide) wf_7_133 (by decide +kernel) (by decide +kernel)) (
  And.intro (sd_SV mg_165 (by decide +kernel) wm_7_321 wt_165 (by decide +kernel)) (
  And.intro (sd_iinc (n := 1) (by decide) (by decide) (by decide +kernel) (by decide +kernel)) (
  And.intro (sd_go (off := (-88)) (by decide +kernel) (by decide +kernel)) (
  And.intro (sd_iload_n (k := 1) rfl (by decide +kernel) (by decide +kernel)) (
  And.intro (sd_zne (off := 7) (by decide +kernel) (by decide +kernel) (by decide +kernel)) (
  And.intro (sd_iload_n (k := 3) rfl (by decide +kernel) (by decide +kernel)) (
  And.intro (sd_go (off := 26) (by decide +kernel) (by decide +kernel)) (
  And.intro (sd_aload_n (k := 0) rfl (by decide +kernel) (by decide +kernel)) (
  And.intro (sd_iload_n (k := 1) rfl (by decide +kernel) (by decide +kernel)) (
  And.intro (sd_iconst (n := 1) (by decide) (by decide +kernel) (by decide +kernel)) (
  And.intro (sd_isub (by decide +kernel) (by decide +kernel)) (
  And.intro (sd_VI mg_134 (by decide +kernel) wm_7_371 wn_134 wv_134 rfl rfl (by decide +kernel)) (
  And.intro (sd_zeq (off := 14) (by decide +kernel) (by decide +kernel) (by decide +kernel)) (
  And.intro (sd_aload_n (k := 0) rfl (by decide +kernel) (by decide +kernel)) (
  And.intro (sd_getR cf7 (by decide) (by decide) wf_7_133 (by decide +kernel) (by decide +kernel)) (
  And.intro (sd_iload_n (k := 1) rfl (by decide +kernel) (by decide +kernel)) (
  And.intro (sd_iconst (n := 1) (by decide) (by decide +kernel) (by decide +kernel)) (
  And.intro (sd_isub (by decide +kernel) (by decide +kernel)) (
  And.intro (sd_iald (by decide +kernel) (by decide +kernel)) (
  And.intro (sd_go (off := 5) (by decide +kernel) (by decide +kernel)) (
  And.intro (sd_bipush (n := (-2)) (by decide) (by decide +kernel) (by decide +kernel)) (
  And.intro (sd_iret (by decide +kernel) rfl) (
  trivial))))))))))))))))))))))))))))))))))))))))))))))))))))))))))))))))))))))))))))))))))))))))))))))))))))))))))))))))))))))))))
set_option maxRecDepth 100000 in
set_option maxHeartbeats 8000000 in
theorem sn_216 : Sns 216 0 tMo_comesTo := And.intro (sd_iconst (n := 1) (by decide) (by decide +kernel) (by decide +kernel)) (
  And.intro (sd_istore_n (k := 2) rfl (by decide) (by decide +kernel) (by decide +kernel)) (
  And.intro (sd_iconst (n := 0) (by decide) (by decide +kernel) (by decide +kernel)) (
  And.intro (sd_istore_n (k := 3) rfl (by decide) (by decide +kernel) (by decide +kernel)) (
  And.intro (sd_ms _ (sd_iload_n (k := 3) rfl (by decide +kernel) (by decide +kernel))) (
  And.intro (sd_bipush (n := 8) (by decide) (by decide +kernel) (by decide +kernel)) (
  And.intro (sd_ige (off := 97) (by decide +kernel) (by decide +kernel) (by decide +kernel)) (
  And.intro (sd_iconst (n := 0) (by decide) (by decide +kernel) (by decide +kernel)) (
  And.intro (sd_istore (by decide) (by decide +kernel) (by decide +kernel)) (
  And.intro (sd_ms _ (sd_iload (by decide +kernel) (by decide +kernel))) (
  And.intro (sd_aload_n (k := 0) rfl (by decide +kernel) (by decide +kernel)) (
  And.intro (sd_getR cf7 (by decide) (by decide) wf_7_9 (by decide +kernel) (by decide +kernel)) (
  And.intro (sd_iconst (n := 1) (by decide) (by decide +kernel) (by decide +kernel)) (
  And.intro (sd_iald (by decide +kernel) (by decide +kernel)) (
  And.intro (sd_ige (off := 77) (by decide +kernel) (by decide +kernel) (by decide +kernel)) (
  And.intro (sd_iconst (n := 0) (by decide) (by decide +kernel) (by decide +kernel)) (
  And.intro (sd_istore (by decide) (by decide +kernel) (by decide +kernel)) (
  And.intro (sd_ms _ (sd_iload (by decide +kernel) (by decide +kernel))) (
  And.intro (sd_aload_n (k := 0) rfl (by decide +kernel) (by decide +kernel)) (
  And.intro (sd_getR cf7 (by decide) (by decide) wf_7_9 (by decide +kernel) (by decide +kernel)) (
  And.intro (sd_iconst (n := 1) (by decide) (by decide +kernel) (by decide +kernel)) (
  And.intro (sd_iald (by decide +kernel) (by decide +kernel)) (
  And.intro (sd_ige (off := 57) (by decide +kernel) (by decide +kernel) (by decide +kernel)) (
  And.intro (sd_iload_n (k := 2) rfl (by decide +kernel) (by decide +kernel)) (
  And.intro (sd_iload_n (k := 2) rfl (by decide +kernel) (by decide +kernel)) (
  And.intro (sd_iload (by decide +kernel) (by decide +kernel)) (
  And.intro (sd_SI mg_132 (by decide +kernel) wm_7_375 wt_132 (by decide +kernel)) (
  And.intro (sd_zeq (off := 38) (by decide +kernel) (by decide +kernel) (by decide +kernel)) (
  And.intro (sd_aload_n (k := 0) rfl (by decide +kernel) (by decide +kernel)) (
  And.intro (sd_getR cf7 (by decide) (by decide) wf_7_16 (by decide +kernel) (by decide +kernel)) (
  And.intro (sd_bipush (n := 8) (by decide) (by decide +kernel) (by decide +kernel)) (
  And.intro (sd_iload (by decide +kernel) (by decide +kernel)) (
  And.intro (sd_imul (by decide +kernel) (by decide +kernel)) (
  And.intro (sd_iload (by decide +kernel) (by decide +kernel)) (
  And.intro (sd_iadd (by decide +kernel) (by decide +kernel)) (
  And.intro (sd_iald (by decide +kernel) (by decide +kernel)) (
  And.intro (sd_sipush (n := 10000) (by decide) (by decide +kernel) (by decide +kernel)) (
  And.intro (sd_ige (off := 19) (by decide +kernel) (by decide +kernel) (by decide +kernel)) (
  And.intro (sd_iload_n (k := 1) rfl (by decide +kernel) (by decide +kernel)) (
  And.intro (sd_iload (by decide +kernel) (by decide +kernel)) (
  And.intro (sd_SI mg_132 (by decide +kernel) wm_7_375 wt_132 (by decide +kernel)) (
  And.intro (sd_zne (off := 10) (by decide +kernel) (by decide +kernel) (by decide +kernel)) (
  And.intro (sd_iconst (n := 1) (by decide) (by decide +kernel) (by decide +kernel)) (
  And.intro (sd_iload (by decide +kernel) (by decide +kernel)) (
  And.intro (sd_ishl (by decide +kernel) (by decide +kernel)) (
  And.intro (sd_go (off := 4) (by decide +kernel) (by decide +kernel)) (
  And.intro (sd_iconst (n := 0) (by decide) (by decide +kernel) (by decide +kernel)) (
  And.intro (sd_ior (by decide +kernel) (by decide +kernel)) (
  And.intro (sd_istore_n (k := 2) rfl (by decide) (by decide +kernel) (by decide +kernel)) (
  And.intro (sd_iinc (n := 1) (by decide) (by decide) (by decide +kernel) (by decide +kernel)) (
  And.intro (sd_go (off := (-62)) (by decide +kernel) (by decide +kernel)) (
  And.intro (sd_iinc (n := 1) (by decide) (by decide) (by decide +kernel) (by decide +kernel)) (
  And.intro (sd_go (off := (-82)) (by decide +kernel) (by decide +kernel)) (
  And.intro (sd_iinc (n := 1) (by decide) (by decide) (by decide +kernel) (by decide +kernel)) (
  And.intro (sd_go (off := (-97)) (by decide +kernel) (by decide +kernel)) (
  And.intro (sd_iload_n (k := 2) rfl (by decide +kernel) (by decide +kernel)) (
  And.intro (sd_iret (by decide +kernel) rfl) (
  trivial)))))))))))))))))))))))))))))))))))))))))))))))))))))))))
set_option maxRecDepth 100000 in
set_option maxHeartbeats 8000000 in
theorem sn_217 : Sns 217 0 tMo_seals := And.intro (sd_aload_n (k := 0) rfl (by decide +kernel) (by decide +kernel)) (
  And.intro (sd_iload_n (k := 1) rfl (by decide +kernel) (by decide +kernel)) (
  And.intro (sd_VI mg_133 (by decide +kernel) wm_7_383 wn_133 wv_133 rfl rfl (by decide +kernel)) (
  And.intro (sd_zeq (off := 17) (by decide +kernel) (by decide +kernel) (by decide +kernel)) (
  And.intro (sd_iload_n (k := 1) rfl (by decide +kernel) (by decide +kernel)) (
  And.intro (sd_zeq (off := 13) (by decide +kernel) (by decide +kernel) (by decide +kernel)) (
  And.intro (sd_iload_n (k := 2) rfl (by decide +kernel) (by decide +kernel)) (
  And.intro (sd_i2l (by decide +kernel) (by decide +kernel)) (
  And.intro (sd_lconst (n := 0) (by decide) (by decide +kernel) (by decide +kernel)) (
  And.intro (sd_lconst (n := 1) (by decide) (by decide +kernel) (by decide +kernel)) (
  And.intro (sd_SI mg_130 (by decide +kernel) wm_7_158 wt_130 (by decide +kernel)) (
  And.intro (sd_zne (off := 5) (by decide +kernel) (by decide +kernel) (by decide +kernel)) (
  And.intro (sd_iconst (n := (-1)) (by decide) (by decide +kernel) (by decide +kernel)) (
  And.intro (sd_iret (by decide +kernel) rfl) (
  And.intro (sd_bipush (n := (-2)) (by decide) (by decide +kernel) (by decide +kernel)) (
  And.intro (sd_istore_n (k := 3) rfl (by decide) (by decide +kernel) (by decide +kernel)) (
  And.intro (sd_iconst (n := 0) (by decide) (by decide +kernel) (by decide +kernel)) (
  And.intro (sd_istore (by decide) (by decide +kernel) (by decide +kernel)) (
  And.intro (sd_ms _ (sd_iload (by decide +kernel) (by decide +kernel))) (
  And.intro (sd_iconst (n := 1) (by decide) (by decide +kernel) (by decide +kernel)) (
  And.intro (sd_aload_n (k := 0) rfl (by decide +kernel) (by decide +kernel)) (
  And.intro (sd_getR cf7 (by decide) (by decide) wf_7_9 (by decide +kernel) (by decide +kernel)) (
  And.intro (sd_iconst (n := 1) (by decide) (by decide +kernel) (by decide +kernel)) (
  And.intro (sd_iald (by decide +kernel) (by decide +kernel)) (
  And.intro (sd_ishl (by decide +kernel) (by decide +kernel)) (
  And.intro (sd_ige (off := 103) (by decide +kernel) (by decide +kernel) (by decide +kernel)) (
  And.intro (sd_iconst (n := 1) (by decide) (by decide +kernel) (by decide +kernel)) (
  And.intro (sd_istore (by decide) (by decide +kernel) (by decide +kernel)) (
  And.intro (sd_iconst (n := 0) (by decide) (by decide +kernel) (by decide +kernel)) (
  And.intro (sd_istore (by decide) (by decide +kernel) (by decide +kernel)) (
  And.intro (sd_ms _ (sd_iload (by decide +kernel) (by decide +kernel))) (
  And.intro (sd_aload_n (k := 0) rfl (by decide +kernel) (by decide +kernel)) (
  And.intro (sd_getR cf7 (by decide) (by decide) wf_7_9 (by decide +kernel) (by decide +kernel)) (
  And.intro (sd_iconst (n := 1) (by decide) (by decide +kernel) (by decide +kernel)) (
  And.intro (sd_iald (by decide +kernel) (by decide +kernel)) (
  And.intro (sd_ige (off := 41) (by decide +kernel) (by decide +kernel) (by decide +kernel)) (
  And.intro (sd_iload (by decide +kernel) (by decide +kernel)) (
  And.intro (sd_zeq (off := 27) (by decide +kernel) (by decide +kernel) (by decide +kernel)) (
  And.intro (sd_iload (by decide +kernel) (by decide +kernel)) (
  And.intro (sd_iload (by decide +kernel) (by decide +kernel)) (
  And.intro (sd_SI mg_132 (by decide +kernel) wm_7_375 wt_132 (by decide +kernel)) (
  And.intro (sd_zeq (off := 13) (by decide +kernel) (by decide +kernel) (by decide +kernel)) (
  And.intro (sd_aload_n (k := 0) rfl (by decide +kernel) (by decide +kernel)) (
  And.intro (sd_getR cf7 (by decide) (by decide) wf_7_13 (by decide +kernel) (by decide +kernel)) (
  And.intro (sd_iload (by decide +kernel) (by decide +kernel)) (
  And.intro (sd_iald (by decide +kernel) (by decide +kernel)) (
  And.intro (sd_zne (off := 7) (by decide +kernel) (by decide +kernel) (by decide +kernel)) (
  And.intro (sd_iconst (n := 1) (by decide) (by decide +kernel) (by decide +kernel)) (
  And.intro (sd_go (off := 4) (by decide +kernel) (by decide +kernel)) (
  And.intro (sd_iconst (n := 0) (by decide) (by decide +kernel) (by decide +kernel)) (
  And.intro (sd_istore (by decide) (by decide +kernel) (by decide +kernel)) (
  And.intro (sd_iinc (n := 1) (by decide) (by decide) (by decide +kernel) (by decide +kernel)) (
  And.intro (sd_go (off := (-46)) (by decide +kernel) (by decide +kernel)) (
  And.intro (sd_iload (by decide +kernel) (by decide +kernel)) (
  And.intro (sd_zeq (off := 37) (by decide +kernel) (by decide +kernel) (by decide +kernel)) (
  And.intro (sd_aload_n (k := 0) rfl (by decide +kernel) (by decide +kernel)) (
  And.intro (sd_iload (by decide +kernel) (by decide +kernel)) (
  And.intro (sd_VI mg_216 (by decide +kernel) wm_7_476 wn_216 wv_216 rfl rfl (by decide +kernel)) (
  And.intro (sd_iload_n (k := 1) rfl (by decide +kernel) (by decide +kernel)) (
  And.intro (sd_SI mg_132 (by decide +kernel) wm_7_375 wt_132 (by decide +kernel)) (
  And.intro (sd_zne (off := 24) (by decide +kernel) (by decide +kernel) (by decide +kernel)) (
  And.intro (sd_iload_n (k := 3) rfl (by decide +kernel) (by decide +kernel)) (
  And.intro (sd_bipush (n := (-2)) (by decide) (by decide +kernel) (by decide +kernel)) (
  And.intro (sd_ieq (off := 15) (by decide +kernel) (by decide +kernel) (by decide +kernel)) (
  And.intro (sd_iload (by decide +kernel) (by decide +kernel)) (
  And.intro (sd_SI mg_131 (by decide +kernel) wm_7_388 wt_131 (by decide +kernel)) (
  And.intro (sd_iload_n (k := 3) rfl (by decide +kernel) (by decide +kernel)) (
  And.intro (sd_SI mg_131 (by decide +kernel) wm_7_388 wt_131 (by decide +kernel)) (
  And.intro (sd_ige (off := 6) (by decide +kernel) (by decide +kernel) (by decide +kernel)) (
  And.intro (sd_iload (by decide +kernel) (by decide +kernel)) (
  And.intro (sd_istore_n (k := 3) rfl (by decide) (by decide +kernel) (by decide +kernel)) (
  And.intro (sd_iinc (n := 2) (by decide) (by decide) (by decide +kernel) (by decide +kernel)) (
  And.intro (sd_go (off := (-110)) (by decide +kernel) (by decide +kernel)) (
  And.intro (sd_iload_n (k := 3) rfl (by decide +kernel) (by decide +kernel)) (
  And.intro (sd_bipush (n := (-2)) (by decide) (by decide +kernel) (by decide +kernel)) (
  And.intro (sd_ieq (off := 8) (by decide +kernel) (by decide +kernel) (by decide +kernel)) (
  And.intro (sd_iload_n (k := 2) rfl (by decide +kernel) (by decide +kernel)) (
  And.intro (sd_iconst (n := 1) (by decide) (by decide +kernel) (by decide +kernel)) (
  And.intro (sd_ine (off := 7) (by decide +kernel) (by decide +kernel) (by decide +kernel)) (
  And.intro (sd_iload_n (k := 3) rfl (by decide +kernel) (by decide +kernel)) (
  And.intro (sd_go (off := 7) (by decide +kernel) (by decide +kernel)) (
  And.intro (sd_iload_n (k := 3) rfl (by decide +kernel) (by decide +kernel)) (
  And.intro (sd_SI mg_131 (by decide +kernel) wm_7_388 wt_131 (by decide +kernel)) (
  And.intro (sd_iret (by decide +kernel) rfl) (
  trivial))))))))))))))))))))))))))))))))))))))))))))))))))))))))))))))))))))))))))))))))))))
set_option maxRecDepth 100000 in
set_option maxHeartbeats 8000000 in
theorem sn_218 : Sns 218 0 tMo_saves := And.intro (sd_aload_n (k := 0) rfl (by decide +kernel) (by decide +kernel)) (
  And.intro (sd_iload_n (k := 1) rfl (by decide +kernel) (by decide +kernel)) (
  And.intro (sd_VI mg_134 (by decide +kernel) wm_7_371 wn_134 wv_134 rfl rfl (by decide +kernel)) (
  And.intro (sd_zne (off := 7) (by decide +kernel) (by decide +kernel) (by decide +kernel)) (
  And.intro (sd_sipush (n := (-1000)) (by decide) (by decide +kernel) (by decide +kernel)) (
  And.intro (sd_iret (by decide +kernel) rfl) (
  And.intro (sd_sipush (n := 10000) (by decide) (by decide +kernel) (by decide +kernel)) (
  And.intro (sd_istore_n (k := 2) rfl (by decide) (by decide +kernel) (by decide +kernel)) (
  And.intro (sd_iconst (n := 0) (by decide) (by decide +kernel) (by decide +kernel)) (
  And.intro (sd_istore_n (k := 3) rfl (by decide) (by decide +kernel) (by decide +kernel)) (
  And.intro (sd_ms _ (sd_iload_n (k := 3) rfl (by decide +kernel) (by decide +kernel))) (
  And.intro (sd_aload_n (k := 0) rfl (by decide +kernel) (by decide +kernel)) (
  And.intro (sd_getR cf7 (by decide) (by decide) wf_7_9 (by decide +kernel) (by decide +kernel)) (
  And.intro (sd_iconst (n := 1) (by decide) (by decide +kernel) (by decide +kernel)) (
  And.intro (sd_iald (by decide +kernel) (by decide +kernel)) (
  And.intro (sd_ige (off := 39) (by decide +kernel) (by decide +kernel) (by decide +kernel)) (
  And.intro (sd_aload_n (k := 0) rfl (by decide +kernel) (by decide +kernel)) (
  And.intro (sd_getR cf7 (by decide) (by decide) wf_7_13 (by decide +kernel) (by decide +kernel)) (
  And.intro (sd_iload_n (k := 3) rfl (by decide +kernel) (by decide +kernel)) (
  And.intro (sd_iald (by decide +kernel) (by decide +kernel)) (
  And.intro (sd_zle (off := 22) (by decide +kernel) (by decide +kernel) (by decide +kernel)) (
  And.intro (sd_aload_n (k := 0) rfl (by decide +kernel) (by decide +kernel)) (
  And.intro (sd_getR cf7 (by decide) (by decide) wf_7_19 (by decide +kernel) (by decide +kernel)) (
  And.intro (sd_iload_n (k := 3) rfl (by decide +kernel) (by decide +kernel)) (
  And.intro (sd_iald (by decide +kernel) (by decide +kernel)) (
  And.intro (sd_iload_n (k := 2) rfl (by decide +kernel) (by decide +kernel)) (
  And.intro (sd_ige (off := 12) (by decide +kernel) (by decide +kernel) (by decide +kernel)) (
  And.intro (sd_aload_n (k := 0) rfl (by decide +kernel) (by decide +kernel)) (
  And.intro (sd_getR cf7 (by decide) (by decide) wf_7_19 (by decide +kernel) (by decide +kernel)) (
  And.intro (sd_iload_n (k := 3) rfl (by decide +kernel) (by decide +kernel)) (
  And.intro (sd_iald (by decide +kernel) (by decide +kernel)) (
  And.intro (sd_go (off := 4) (by decide +kernel) (by decide +kernel)) (
  And.intro (sd_iload_n (k := 2) rfl (by decide +kernel) (by decide +kernel)) (
  And.intro (sd_istore_n (k := 2) rfl (by decide) (by decide +kernel) (by decide +kernel)) (
  And.intro (sd_iinc (n := 1) (by decide) (by decide) (by decide +kernel) (by decide +kernel)) (
  And.intro (sd_go (off := (-43)) (by decide +kernel) (by decide +kernel)) (
  And.intro (sd_iload_n (k := 2) rfl (by decide +kernel) (by decide +kernel)) (
  And.intro (sd_sipush (n := 10000) (by decide) (by decide +kernel) (by decide +kernel)) (
  And.intro (sd_ige (off := 20) (by decide +kernel) (by decide +kernel) (by decide +kernel)) (
  And.intro (sd_aload_n (k := 0) rfl (by decide +kernel) (by decide +kernel)) (
  And.intro (sd_getR cf7 (by decide) (by decide) wf_7_19 (by decide +kernel) (by decide +kernel)) (
  And.intro (sd_aload_n (k := 0) rfl (by decide +kernel) (by decide +kernel)) (
  And.intro (sd_getR cf7 (by decide) (by decide) wf_7_22 (by decide +kernel) (by decide +kernel)) (
  And.intro (sd_iload_n (k := 1) rfl (by decide +kernel) (by decide +kernel)) (
  And.intro (sd_iald (by decide +kernel) (by decide +kernel)) (
  And.intro (sd_iald (by decide +kernel) (by decide +kernel)) (
  And.intro (sd_sipush (n := 10000) (by decide) (by decide +kernel) (by decide +kernel)) (
  And.intro (sd_ilt (off := 9) (by decide +kernel) (by decide +kernel) (by decide +kernel)) (
  And.intro (sd_sipush (n := (-1000)) (by decide) (by decide +kernel) (by decide +kernel)) (
  And.intro (sd_go (off := 18) (by decide +kernel) (by decide +kernel)) (
  And.intro (sd_iconst (n := 2) (by decide) (by decide +kernel) (by decide +kernel)) (
  And.intro (sd_aload_n (k := 0) rfl (by decide +kernel) (by decide +kernel)) (
  And.intro (sd_getR cf7 (by decide) (by decide) wf_7_19 (by decide +kernel) (by decide +kernel)) (
  And.intro (sd_aload_n (k := 0) rfl (by decide +kernel) (by decide +kernel)) (
  And.intro (sd_getR cf7 (by decide) (by decide) wf_7_22 (by decide +kernel) (by decide +kernel)) (
  And.intro (sd_iload_n (k := 1) rfl (by decide +kernel) (by decide +kernel)) (
  And.intro (sd_iald (by decide +kernel) (by decide +kernel)) (
  And.intro (sd_iald (by decide +kernel) (by decide +kernel)) (
  And.intro (sd_iload_n (k := 2) rfl (by decide +kernel) (by decide +kernel)) (
  And.intro (sd_isub (by decide +kernel) (by decide +kernel)) (
  And.intro (sd_imul (by decide +kernel) (by decide +kernel)) (
  And.intro (sd_iret (by decide +kernel) rfl) (
  trivial))))))))))))))))))))))))))))))))))))))))))))))))))))))))))))))
set_option maxRecDepth 100000 in
set_option maxHeartbeats 8000000 in
theorem sn_219 : Sns 219 0 tMo_owed := And.intro (sd_aload_n (k := 0) rfl (by decide +kernel) (by decide +kernel)) (
  And.intro (sd_iload_n (k := 1) rfl (by decide +kernel) (by decide +kernel)) (
  And.intro (sd_VI mg_135 (by decide +kernel) wm_7_377 wn_135 wv_135 rfl rfl (by decide +kernel)) (
  And.intro (sd_zeq (off := 21) (by decide +kernel) (by decide +kernel) (by decide +kernel)) (
  And.intro (sd_aload_n (k := 0) rfl (by decide +kernel) (by decide +kernel)) (
  And.intro (sd_iload_n (k := 2) rfl (by decide +kernel) (by decide +kernel)) (
  And.intro (sd_VI mg_134 (by decide +kernel) wm_7_371 wn_134 wv_134 rfl rfl (by decide +kernel)) (
  And.intro (sd_zeq (off := 13) (by decide +kernel) (by decide +kernel) (by decide +kernel)) (
  And.intro (sd_aload_n (k := 0) rfl (by decide +kernel) (by decide +kernel)) (
  And.intro (sd_getR cf7 (by decide) (by decide) wf_7_31 (by decide +kernel) (by decide +kernel)) (
  And.intro (sd_iload_n (k := 2) rfl (by decide +kernel) (by decide +kernel)) (
  And.intro (sd_iald (by decide +kernel) (by decide +kernel)) (
  And.intro (sd_iload_n (k := 1) rfl (by decide +kernel) (by decide +kernel)) (
  And.intro (sd_ieq (off := 5) (by decide +kernel) (by decide +kernel) (by decide +kernel)) (
  And.intro (sd_iconst (n := (-1)) (by decide) (by decide +kernel) (by decide +kernel)) (
  And.intro (sd_iret (by decide +kernel) rfl) (
  And.intro (sd_aload_n (k := 0) rfl (by decide +kernel) (by decide +kernel)) (
  And.intro (sd_getR cf7 (by decide) (by decide) wf_7_9 (by decide +kernel) (by decide +kernel)) (
  And.intro (sd_bipush (n := 6) (by decide) (by decide +kernel) (by decide +kernel)) (
  And.intro (sd_iald (by decide +kernel) (by decide +kernel)) (
  And.intro (sd_iload_n (k := 2) rfl (by decide +kernel) (by decide +kernel)) (
  And.intro (sd_SI mg_132 (by decide +kernel) wm_7_375 wt_132 (by decide +kernel)) (
  And.intro (sd_zeq (off := 10) (by decide +kernel) (by decide +kernel) (by decide +kernel)) (
  And.intro (sd_aload_n (k := 0) rfl (by decide +kernel) (by decide +kernel)) (
  And.intro (sd_getR cf7 (by decide) (by decide) wf_7_28 (by decide +kernel) (by decide +kernel)) (
  And.intro (sd_iload_n (k := 2) rfl (by decide +kernel) (by decide +kernel)) (
  And.intro (sd_iald (by decide +kernel) (by decide +kernel)) (
  And.intro (sd_iret (by decide +kernel) rfl) (
  And.intro (sd_aload_n (k := 0) rfl (by decide +kernel) (by decide +kernel)) (
  And.intro (sd_getR cf7 (by decide) (by decide) wf_7_19 (by decide +kernel) (by decide +kernel)) (
  And.intro (sd_aload_n (k := 0) rfl (by decide +kernel) (by decide +kernel)) (
  And.intro (sd_getR cf7 (by decide) (by decide) wf_7_22 (by decide +kernel) (by decide +kernel)) (
  And.intro (sd_iload_n (k := 2) rfl (by decide +kernel) (by decide +kernel)) (
  And.intro (sd_iald (by decide +kernel) (by decide +kernel)) (
  And.intro (sd_iald (by decide +kernel) (by decide +kernel)) (
  And.intro (sd_istore_n (k := 3) rfl (by decide) (by decide +kernel) (by decide +kernel)) (
  And.intro (sd_aload_n (k := 0) rfl (by decide +kernel) (by decide +kernel)) (
  And.intro (sd_getR cf7 (by decide) (by decide) wf_7_19 (by decide +kernel) (by decide +kernel)) (
  And.intro (sd_bipush (n := 8) (by decide) (by decide +kernel) (by decide +kernel)) (
  And.intro (sd_aload_n (k := 0) rfl (by decide +kernel) (by decide +kernel)) (
  And.intro (sd_getR cf7 (by decide) (by decide) wf_7_37 (by decide +kernel) (by decide +kernel)) (
  And.intro (sd_iload_n (k := 1) rfl (by decide +kernel) (by decide +kernel)) (
  And.intro (sd_iald (by decide +kernel) (by decide +kernel)) (
  And.intro (sd_imul (by decide +kernel) (by decide +kernel)) (
  And.intro (sd_aload_n (k := 0) rfl (by decide +kernel) (by decide +kernel)) (
  And.intro (sd_getR cf7 (by decide) (by decide) wf_7_22 (by decide +kernel) (by decide +kernel)) (
  And.intro (sd_iload_n (k := 2) rfl (by decide +kernel) (by decide +kernel)) (
  And.intro (sd_iald (by decide +kernel) (by decide +kernel)) (
  And.intro (sd_iadd (by decide +kernel) (by decide +kernel)) (
  And.intro (sd_iald (by decide +kernel) (by decide +kernel)) (
  And.intro (sd_istore (by decide) (by decide +kernel) (by decide +kernel)) (
  And.intro (sd_iload_n (k := 3) rfl (by decide +kernel) (by decide +kernel)) (
  And.intro (sd_zeq (off := 16) (by decide +kernel) (by decide +kernel) (by decide +kernel)) (
  And.intro (sd_iload_n (k := 3) rfl (by decide +kernel) (by decide +kernel)) (
  And.intro (sd_sipush (n := 10000) (by decide) (by decide +kernel) (by decide +kernel)) (
  And.intro (sd_ige (off := 9) (by decide +kernel) (by decide +kernel) (by decide +kernel)) (
  And.intro (sd_iload (by decide +kernel) (by decide +kernel)) (
  And.intro (sd_iload_n (k := 3) rfl (by decide +kernel) (by decide +kernel)) (
  And.intro (sd_ilt (off := 7) (by decide +kernel) (by decide +kernel) (by decide +kernel)) (
  And.intro (sd_iconst (n := 0) (by decide) (by decide +kernel) (by decide +kernel)) (
  And.intro (sd_go (off := 16) (by decide +kernel) (by decide +kernel)) (
  And.intro (sd_aload_n (k := 0) rfl (by decide +kernel) (by decide +kernel)) (
  And.intro (sd_getR cf7 (by decide) (by decide) wf_7_28 (by decide +kernel) (by decide +kernel)) (
  And.intro (sd_iload_n (k := 2) rfl (by decide +kernel) (by decide +kernel)) (
  And.intro (sd_iald (by decide +kernel) (by decide +kernel)) (
  And.intro (sd_iload_n (k := 3) rfl (by decide +kernel) (by decide +kernel)) (
  And.intro (sd_iload (by decide +kernel) (by decide +kernel)) (
  And.intro (sd_isub (by decide +kernel) (by decide +kernel)) (
  And.intro (sd_imul (by decide +kernel) (by decide +kernel)) (
  And.intro (sd_iload_n (k := 3) rfl (by decide +kernel) (by decide +kernel)) (
  And.intro (sd_idiv (by decide +kernel) (by decide +kernel)) (
  And.intro (sd_iret (by decide +kernel) rfl) (
  trivial))))))))))))))))))))))))))))))))))))))))))))))))))))))))))))))))))))))))
set_option maxRecDepth 100000 in
set_option maxHeartbeats 8000000 in
theorem sn_220 : Sns 220 0 tMo_choose := And.intro (sd_aload_n (k := 0) rfl (by decide +kernel) (by decide +kernel)) (
  And.intro (sd_iload_n (k := 1) rfl (by decide +kernel) (by decide +kernel)) (
  And.intro (sd_VI mg_196 (by decide +kernel) wm_7_431 wn_196 wv_196 rfl rfl (by decide +kernel)) (
  And.intro (sd_zeq (off := 25) (by decide +kernel) (by decide +kernel) (by decide +kernel)) (
  And.intro (sd_iload_n (k := 2) rfl (by decide +kernel) (by decide +kernel)) (
  And.intro (sd_i2l (by decide +kernel) (by decide +kernel)) (
  And.intro (sd_lconst (n := 1) (by decide) (by decide +kernel) (by decide +kernel)) (
  And.intro (sd_ldc2 wl_7_446 (by decide +kernel) (by decide +kernel)) (
  And.intro (sd_SI mg_130 (by decide +kernel) wm_7_158 wt_130 (by decide +kernel)) (
  And.intro (sd_zeq (off := 13) (by decide +kernel) (by decide +kernel) (by decide +kernel)) (
  And.intro (sd_iload_n (k := 3) rfl (by decide +kernel) (by decide +kernel)) (
  And.intro (sd_i2l (by decide +kernel) (by decide +kernel)) (
  And.intro (sd_lconst (n := 0) (by decide) (by decide +kernel) (by decide +kernel)) (
  And.intro (sd_lconst (n := 1) (by decide) (by decide +kernel) (by decide +kernel)) (
  And.intro (sd_SI mg_130 (by decide +kernel) wm_7_158 wt_130 (by decide +kernel)) (
  And.intro (sd_zne (off := 6) (by decide +kernel) (by decide +kernel) (by decide +kernel)) (
  And.intro (sd_bipush (n := (-2)) (by decide) (by decide +kernel) (by decide +kernel)) (
  And.intro (sd_iret (by decide +kernel) rfl) (
  And.intro (sd_iconst (n := (-1)) (by decide) (by decide +kernel) (by decide +kernel)) (
  And.intro (sd_istore (by decide) (by decide +kernel) (by decide +kernel)) (
  And.intro (sd_iconst (n := (-1)) (by decide) (by decide +kernel) (by decide +kernel)) (
  And.intro (sd_istore (by decide) (by decide +kernel) (by decide +kernel)) (
  And.intro (sd_aload_n (k := 0) rfl (by decide +kernel) (by decide +kernel)) (
  And.intro (sd_VV mg_204 (by decide +kernel) wm_7_450 wn_204 wv_204 rfl rfl (by decide +kernel)) (
  And.intro (sd_iconst (n := (-1)) (by decide) (by decide +kernel) (by decide +kernel)) (
  And.intro (sd_istore (by decide) (by decide +kernel) (by decide +kernel)) (
  And.intro (sd_ms _ (sd_iload (by decide +kernel) (by decide +kernel))) (
  And.intro (sd_aload_n (k := 0) rfl (by decide +kernel) (by decide +kernel)) (
  And.intro (sd_getR cf7 (by decide) (by decide) wf_7_9 (by decide +kernel) (by decide +kernel)) (
  And.intro (sd_iconst (n := 3) (by decide) (by decide +kernel) (by decide +kernel)) (
  And.intro (sd_iald (by decide +kernel) (by decide +kernel)) (
  And.intro (sd_ige (off := 70) (by decide +kernel) (by decide +kernel) (by decide +kernel)) (
  And.intro (sd_iload (by decide +kernel) (by decide +kernel)) (
  And.intro (sd_iconst (n := (-1)) (by decide) (by decide +kernel) (by decide +kernel)) (
  And.intro (sd_ieq (off := 12) (by decide +kernel) (by decide +kernel) (by decide +kernel)) (
  And.intro (sd_aload_n (k := 0) rfl (by decide +kernel) (by decide +kernel)) (
  And.intro (sd_iload (by decide +kernel) (by decide +kernel)) (
  And.intro (sd_VI mg_197 (by decide +kernel) wm_7_434 wn_197 wv_197 rfl rfl (by decide +kernel)) (
  And.intro (sd_zeq (off := 49) (by decide +kernel) (by decide +kernel) (by decide +kernel)) (
  And.intro (sd_iload (by decide +kernel) (by decide +kernel)) (
  And.intro (sd_iconst (n := (-1)) (by decide) (by decide +kernel) (by decide +kernel)) (
  And.intro (sd_ieq (off := 11) (by decide +kernel) (by decide +kernel) (by decide +kernel)) (
  And.intro (sd_aload_n (k := 0) rfl (by decide +kernel) (by decide +kernel)) (
  And.intro (sd_getR cf7 (by decide) (by decide) wf_7_31 (by decide +kernel) (by decide +kernel)) (
  And.intro (sd_iload (by decide +kernel) (by decide +kernel)) (
  And.intro (sd_iload_n (k := 1) rfl (by decide +kernel) (by decide +kernel)) (
  And.intro (sd_iast (by decide +kernel) (by decide +kernel)) (
  And.intro (sd_aload_n (k := 0) rfl (by decide +kernel) (by decide +kernel)) (
  And.intro (sd_iload_n (k := 2) rfl (by decide +kernel) (by decide +kernel)) (
  And.intro (sd_VV mg_189 (by decide +kernel) wm_7_453 wn_189 wv_189 rfl rfl (by decide +kernel)) (
  And.intro (sd_aload_n (k := 0) rfl (by decide +kernel) (by decide +kernel)) (
  And.intro (sd_getR cf7 (by decide) (by decide) wf_7_43 (by decide +kernel) (by decide +kernel)) (
  And.intro (sd_iload_n (k := 1) rfl (by decide +kernel) (by decide +kernel)) (
  And.intro (sd_iald (by decide +kernel) (by decide +kernel)) (
  And.intro (sd_istore (by decide) (by decide +kernel) (by decide +kernel)) (
  And.intro (sd_aload_n (k := 0) rfl (by decide +kernel) (by decide +kernel)) (
  And.intro (sd_VV mg_205 (by decide +kernel) wm_7_456 wn_205 wv_205 rfl rfl (by decide +kernel)) (
  And.intro (sd_iload (by decide +kernel) (by decide +kernel)) (
  And.intro (sd_iload (by decide +kernel) (by decide +kernel)) (
  And.intro (sd_ile (off := 11) (by decide +kernel) (by decide +kernel) (by decide +kernel)) (
  And.intro (sd_iload (by decide +kernel) (by decide +kernel)) (
  And.intro (sd_istore (by decide) (by decide +kernel) (by decide +kernel)) (
  And.intro (sd_iload (by decide +kernel) (by decide +kernel)) (
  And.intro (sd_istore (by decide) (by decide +kernel) (by decide +kernel)) (
  And.intro (sd_iinc (n := 1) (by decide) (by decide) (by decide +kernel) (by decide +kernel)) (
  And.intro (sd_go (off := (-75)) (by decide +kernel) (by decide +kernel)) (
  And.intro (sd_iload_n (k := 3) rfl (by decide +kernel) (by decide +kernel)) (
  And.intro (sd_zne (off := 8) (by decide +kernel) (by decide +kernel) (by decide +kernel)) (
  And.intro (sd_iload (by decide +kernel) (by decide +kernel)) (
  And.intro (sd_go (off := 5) (by decide +kernel) (by decide +kernel)) (
  And.intro (sd_iload (by decide +kernel) (by decide +kernel)) (
  And.intro (sd_iret (by decide +kernel) rfl) (
  trivial))))))))))))))))))))))))))))))))))))))))))))))))))))))))))))))))))))))))
set_option maxRecDepth 100000 in
set_option maxHeartbeats 8000000 in
theorem sn_221 : Sns 221 0 tMo_log := And.intro (sd_iload_n (k := 1) rfl (by decide +kernel) (by decide +kernel)) (
  And.intro (sd_iconst (n := (-1)) (by decide) (by decide +kernel) (by decide +kernel)) (
  And.intro (sd_ine (off := 13) (by decide +kernel) (by decide +kernel) (by decide +kernel)) (
  And.intro (sd_aload_n (k := 0) rfl (by decide +kernel) (by decide +kernel)) (
  And.intro (sd_getR cf7 (by decide) (by decide) wf_7_9 (by decide +kernel) (by decide +kernel)) (
  And.intro (sd_bipush (n := 10) (by decide) (by decide +kernel) (by decide +kernel)) (
  And.intro (sd_iconst (n := 0) (by decide) (by decide +kernel) (by decide +kernel)) (
  And.intro (sd_iast (by decide +kernel) (by decide +kernel)) (
  And.intro (sd_iconst (n := 0) (by decide) (by decide +kernel) (by decide +kernel)) (
  And.intro (sd_iret (by decide +kernel) rfl) (
  And.intro (sd_aload_n (k := 0) rfl (by decide +kernel) (by decide +kernel)) (
  And.intro (sd_getR cf7 (by decide) (by decide) wf_7_9 (by decide +kernel) (by decide +kernel)) (
  And.intro (sd_bipush (n := 10) (by decide) (by decide +kernel) (by decide +kernel)) (
  And.intro (sd_iald (by decide +kernel) (by decide +kernel)) (
  And.intro (sd_istore (by decide) (by decide +kernel) (by decide +kernel)) (
  And.intro (sd_iload_n (k := 1) rfl (by decide +kernel) (by decide +kernel)) (
  And.intro (sd_i2l (by decide +kernel) (by decide +kernel)) (
  And.intro (sd_lconst (n := 0) (by decide) (by decide +kernel) (by decide +kernel)) (
  And.intro (sd_ldc2 wl_7_479 (by decide +kernel) (by decide +kernel)) (
  And.intro (sd_SI mg_130 (by decide +kernel) wm_7_158 wt_130 (by decide +kernel)) (
  And.intro (sd_zeq (off := 31) (by decide +kernel) (by decide +kernel) (by decide +kernel)) (
  And.intro (sd_aload_n (k := 0) rfl (by decide +kernel) (by decide +kernel)) (
  And.intro (sd_iload_n (k := 2) rfl (by decide +kernel) (by decide +kernel)) (
  And.intro (sd_VI mg_135 (by decide +kernel) wm_7_377 wn_135 wv_135 rfl rfl (by decide +kernel)) (
  And.intro (sd_zeq (off := 23) (by decide +kernel) (by decide +kernel) (by decide +kernel)) (
  And.intro (sd_iload_n (k := 3) rfl (by decide +kernel) (by decide +kernel)) (
  And.intro (sd_iconst (n := (-1)) (by decide) (by decide +kernel) (by decide +kernel)) (
  And.intro (sd_ieq (off := 11) (by decide +kernel) (by decide +kernel) (by decide +kernel)) (
  And.intro (sd_aload_n (k := 0) rfl (by decide +kernel) (by decide +kernel)) (
  And.intro (sd_iload_n (k := 3) rfl (by decide +kernel) (by decide +kernel)) (
  And.intro (sd_VI mg_133 (by decide +kernel) wm_7_383 wn_133 wv_133 rfl rfl (by decide +kernel)) (
  And.intro (sd_zeq (off := 10) (by decide +kernel) (by decide +kernel) (by decide +kernel)) (
  And.intro (sd_iload (by decide +kernel) (by decide +kernel)) (
  And.intro (sd_bipush (n := 10) (by decide) (by decide +kernel) (by decide +kernel)) (
  And.intro (sd_ine (off := 6) (by decide +kernel) (by decide +kernel) (by decide +kernel)) (
  And.intro (sd_bipush (n := (-2)) (by decide) (by decide +kernel) (by decide +kernel)) (
  And.intro (sd_iret (by decide +kernel) rfl) (
  And.intro (sd_aload_n (k := 0) rfl (by decide +kernel) (by decide +kernel)) (
  And.intro (sd_getR cf7 (by decide) (by decide) wf_7_49 (by decide +kernel) (by decide +kernel)) (
  And.intro (sd_iload (by decide +kernel) (by decide +kernel)) (
  And.intro (sd_iload_n (k := 1) rfl (by decide +kernel) (by decide +kernel)) (
  And.intro (sd_iast (by decide +kernel) (by decide +kernel)) (
  And.intro (sd_aload_n (k := 0) rfl (by decide +kernel) (by decide +kernel)) (
  And.intro (sd_getR cf7 (by decide) (by decide) wf_7_52 (by decide +kernel) (by decide +kernel)) (
  And.intro (sd_iload (by decide +kernel) (by decide +kernel)) (
  And.intro (sd_iload_n (k := 2) rfl (by decide +kernel) (by decide +kernel)) (
  And.intro (sd_iast (by decide +kernel) (by decide +kernel)) (
  And.intro (sd_aload_n (k := 0) rfl (by decide +kernel) (by decide +kernel)) (
  And.intro (sd_getR cf7 (by decide) (by decide) wf_7_55 (by decide +kernel) (by decide +kernel)) (
  And.intro (sd_iload (by decide +kernel) (by decide +kernel)) (
  And.intro (sd_iload_n (k := 3) rfl (by decide +kernel) (by decide +kernel)) (
  And.intro (sd_iast (by decide +kernel) (by decide +kernel)) (
  And.intro (sd_aload_n (k := 0) rfl (by decide +kernel) (by decide +kernel)) (
  And.intro (sd_getR cf7 (by decide) (by decide) wf_7_9 (by decide +kernel) (by decide +kernel)) (
  And.intro (sd_bipush (n := 10) (by decide) (by decide +kernel) (by decide +kernel)) (
  And.intro (sd_dup2 (by decide +kernel) (by decide +kernel)) (
  And.intro (sd_iald (by decide +kernel) (by decide +kernel)) (
  And.intro (sd_iconst (n := 1) (by decide) (by decide +kernel) (by decide +kernel)) (
  And.intro (sd_iadd (by decide +kernel) (by decide +kernel)) (
  And.intro (sd_iast (by decide +kernel) (by decide +kernel)) (
  And.intro (sd_iload (by decide +kernel) (by decide +kernel)) (
  And.intro (sd_iconst (n := 1) (by decide) (by decide +kernel) (by decide +kernel)) (
  And.intro (sd_iadd (by decide +kernel) (by decide +kernel)) (
  And.intro (sd_iret (by decide +kernel) rfl) (
  trivial))))))))))))))))))))))))))))))))))))))))))))))))))))))))))))))))

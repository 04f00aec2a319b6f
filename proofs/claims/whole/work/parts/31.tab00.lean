set_option maxRecDepth 100000 in
set_option maxHeartbeats 8000000 in
theorem sn_0 : Sns 0 0 tLa_law := And.intro (sd_new cf6 cd6 wx_8_7 wy_6 wi_6 (by decide +kernel) (by decide +kernel)) (
  And.intro (sd_dup (by decide +kernel) (by decide +kernel)) (
  And.intro (sd_I mg_81 rfl rfl (by decide +kernel) wm_8_9 wn_81 (by decide +kernel)) (
  And.intro (sd_astore_n (k := 1) rfl (by decide) (by decide +kernel) (by decide +kernel)) (
  And.intro (sd_new cf7 cd7 wx_8_10 wy_7 wi_7 (by decide +kernel) (by decide +kernel)) (
  And.intro (sd_dup (by decide +kernel) (by decide +kernel)) (
  And.intro (sd_I mg_129 rfl rfl (by decide +kernel) wm_8_12 wn_129 (by decide +kernel)) (
  And.intro (sd_astore_n (k := 2) rfl (by decide) (by decide +kernel) (by decide +kernel)) (
  And.intro (sd_iconst (n := 0) (by decide) (by decide +kernel) (by decide +kernel)) (
  And.intro (sd_istore_n (k := 3) rfl (by decide) (by decide +kernel) (by decide +kernel)) (
  And.intro (sd_ms _ (sd_iload_n (k := 3) rfl (by decide +kernel) (by decide +kernel))) (
  And.intro (sd_aload_n (k := 0) rfl (by decide +kernel) (by decide +kernel)) (
  And.intro (sd_sln rfl (by decide +kernel) (by decide +kernel)) (
  And.intro (sd_bipush (n := 6) (by decide) (by decide +kernel) (by decide +kernel)) (
  And.intro (sd_isub (by decide +kernel) (by decide +kernel)) (
  And.intro (sd_igt (off := 1114) (by decide +kernel) (by decide +kernel) (by decide +kernel)) (
  And.intro (sd_aload_n (k := 0) rfl (by decide +kernel) (by decide +kernel)) (
  And.intro (sd_iload_n (k := 3) rfl (by decide +kernel) (by decide +kernel)) (
  And.intro (sd_sld rfl (by decide +kernel) (by decide +kernel)) (
  And.intro (sd_bipush (n := 31) (by decide) (by decide +kernel) (by decide +kernel)) (
  And.intro (sd_iand (by decide +kernel) (by decide +kernel)) (
  And.intro (sd_tab (len := 143) (dflt := 1099) (lo := 0) (hi := 31) (offs := #[143, 206, 229, 242, 255, 278, 311, 344, 367, 380, 413, 446, 479, 512, 535, 548, 591, 634, 667, 700, 723, 756, 779, 812, 855, 898, 921, 954, 977, 1030, 1053, 1076]) (by decide +kernel) (by decide +kernel) (by decide +kernel) (by decide +kernel)) (
  And.intro (sd_aload_n (k := 1) rfl (by decide +kernel) (by decide +kernel)) (
  And.intro (sd_aload_n (k := 0) rfl (by decide +kernel) (by decide +kernel)) (
  And.intro (sd_iload_n (k := 3) rfl (by decide +kernel) (by decide +kernel)) (
  And.intro (sd_iconst (n := 1) (by decide) (by decide +kernel) (by decide +kernel)) (
  And.intro (sd_iadd (by decide +kernel) (by decide +kernel)) (
  And.intro (sd_sld rfl (by decide +kernel) (by decide +kernel)) (
  And.intro (sd_aload_n (k := 0) rfl (by decide +kernel) (by decide +kernel)) (
  And.intro (sd_iload_n (k := 3) rfl (by decide +kernel) (by decide +kernel)) (
  And.intro (sd_iconst (n := 2) (by decide) (by decide +kernel) (by decide +kernel)) (
  And.intro (sd_iadd (by decide +kernel) (by decide +kernel)) (
  And.intro (sd_sld rfl (by decide +kernel) (by decide +kernel)) (
  And.intro (sd_aload_n (k := 0) rfl (by decide +kernel) (by decide +kernel)) (
  And.intro (sd_iload_n (k := 3) rfl (by decide +kernel) (by decide +kernel)) (
  And.intro (sd_iconst (n := 3) (by decide) (by decide +kernel) (by decide +kernel)) (
  And.intro (sd_iadd (by decide +kernel) (by decide +kernel)) (
  And.intro (sd_sld rfl (by decide +kernel) (by decide +kernel)) (
  And.intro (sd_aload_n (k := 0) rfl (by decide +kernel) (by decide +kernel)) (
  And.intro (sd_iload_n (k := 3) rfl (by decide +kernel) (by decide +kernel)) (
  And.intro (sd_iconst (n := 4) (by decide) (by decide +kernel) (by decide +kernel)) (
  And.intro (sd_iadd (by decide +kernel) (by decide +kernel)) (
  And.intro (sd_sld rfl (by decide +kernel) (by decide +kernel)) (
  And.intro (sd_aload_n (k := 0) rfl (by decide +kernel) (by decide +kernel)) (
  And.intro (sd_iload_n (k := 3) rfl (by decide +kernel) (by decide +kernel)) (
  And.intro (sd_iconst (n := 5) (by decide) (by decide +kernel) (by decide +kernel)) (
  And.intro (sd_iadd (by decide +kernel) (by decide +kernel)) (
  And.intro (sd_sld rfl (by decide +kernel) (by decide +kernel)) (
  And.intro (sd_VI mg_82 (by decide +kernel) wm_8_13 wn_82 wv_82 rfl rfl (by decide +kernel)) (
  And.intro (sd_aload_n (k := 2) rfl (by decide +kernel) (by decide +kernel)) (
  And.intro (sd_aload_n (k := 0) rfl (by decide +kernel) (by decide +kernel)) (
  And.intro (sd_iload_n (k := 3) rfl (by decide +kernel) (by decide +kernel)) (
  And.intro (sd_iconst (n := 1) (by decide) (by decide +kernel) (by decide +kernel)) (
  And.intro (sd_iadd (by decide +kernel) (by decide +kernel)) (
  And.intro (sd_sld rfl (by decide +kernel) (by decide +kernel)) (
  And.intro (sd_aload_n (k := 0) rfl (by decide +kernel) (by decide +kernel)) (
  And.intro (sd_iload_n (k := 3) rfl (by decide +kernel) (by decide +kernel)) (
  And.intro (sd_iconst (n := 2) (by decide) (by decide +kernel) (by decide +kernel)) (
  And.intro (sd_iadd (by decide +kernel) (by decide +kernel)) (
  And.intro (sd_sld rfl (by decide +kernel) (by decide +kernel)) (
  And.intro (sd_aload_n (k := 0) rfl (by decide +kernel) (by decide +kernel)) (
  And.intro (sd_iload_n (k := 3) rfl (by decide +kernel) (by decide +kernel)) (
  And.intro (sd_iconst (n := 3) (by decide) (by decide +kernel) (by decide +kernel)) (
  And.intro (sd_iadd (by decide +kernel) (by decide +kernel)) (
  And.intro (sd_sld rfl (by decide +kernel) (by decide +kernel)) (
  And.intro (sd_aload_n (k := 0) rfl (by decide +kernel) (by decide +kernel)) (
  And.intro (sd_iload_n (k := 3) rfl (by decide +kernel) (by decide +kernel)) (
  And.intro (sd_iconst (n := 4) (by decide) (by decide +kernel) (by decide +kernel)) (
  And.intro (sd_iadd (by decide +kernel) (by decide +kernel)) (
  And.intro (sd_sld rfl (by decide +kernel) (by decide +kernel)) (
  And.intro (sd_aload_n (k := 0) rfl (by decide +kernel) (by decide +kernel)) (
  And.intro (sd_iload_n (k := 3) rfl (by decide +kernel) (by decide +kernel)) (
  And.intro (sd_iconst (n := 5) (by decide) (by decide +kernel) (by decide +kernel)) (
  And.intro (sd_iadd (by decide +kernel) (by decide +kernel)) (
  And.intro (sd_sld rfl (by decide +kernel) (by decide +kernel)) (
  And.intro (sd_VI mg_136 (by decide +kernel) wm_8_17 wn_136 wv_136 rfl rfl (by decide +kernel)) (
  And.intro (sd_ieq (off := 898) (by decide +kernel) (by decide +kernel) (by decide +kernel)) (
  And.intro (sd_iconst (n := 0) (by decide) (by decide +kernel) (by decide +kernel)) (
  And.intro (sd_zret (by decide +kernel) rfl) (
  And.intro (sd_aload_n (k := 1) rfl (by decide +kernel) (by decide +kernel)) (
  And.intro (sd_aload_n (k := 0) rfl (by decide +kernel) (by decide +kernel)) (
  And.intro (sd_iload_n (k := 3) rfl (by decide +kernel) (by decide +kernel)) (
  And.intro (sd_iconst (n := 1) (by decide) (by decide +kernel) (by decide +kernel)) (
  And.intro (sd_iadd (by decide +kernel) (by decide +kernel)) (
  And.intro (sd_sld rfl (by decide +kernel) (by decide +kernel)) (
  And.intro (sd_VI mg_83 (by decide +kernel) wm_8_18 wn_83 wv_83 rfl rfl (by decide +kernel)) (
  And.intro (sd_aload_n (k := 2) rfl (by decide +kernel) (by decide +kernel)) (
  And.intro (sd_aload_n (k := 0) rfl (by decide +kernel) (by decide +kernel)) (
  And.intro (sd_iload_n (k := 3) rfl (by decide +kernel) (by decide +kernel)) (
  And.intro (sd_iconst (n := 1) (by decide) (by decide +kernel) (by decide +kernel)) (
  And.intro (sd_iadd (by decide +kernel) (by decide +kernel)) (
  And.intro (sd_sld rfl (by decide +kernel) (by decide +kernel)) (
  And.intro (sd_VI mg_138 (by decide +kernel) wm_8_22 wn_138 wv_138 rfl rfl (by decide +kernel)) (
  And.intro (sd_ieq (off := 875) (by decide +kernel) (by decide +kernel) (by decide +kernel)) (
  And.intro (sd_iconst (n := 0) (by decide) (by decide +kernel) (by decide +kernel)) (
  And.intro (sd_zret (by decide +kernel) rfl) (
  And.intro (sd_aload_n (k := 1) rfl (by decide +kernel) (by decide +kernel)) (
  And.intro (sd_VI mg_84 (by decide +kernel) wm_8_23 wn_84 wv_84 rfl rfl (by decide +kernel)) (
  And.intro (sd_aload_n (k := 2) rfl (by decide +kernel) (by decide +kernel)) (
  And.intro (sd_VI mg_171 (by decide +kernel) wm_8_27 wn_171 wv_171 rfl rfl (by decide +kernel)) (
  And.intro (sd_ieq (off := 862) (by decide +kernel) (by decide +kernel) (by decide +kernel)) (
  And.intro (sd_iconst (n := 0) (by decide) (by decide +kernel) (by decide +kernel)) (
  And.intro (sd_zret (by decide +kernel) rfl) (
  And.intro (sd_aload_n (k := 1) rfl (by decide +kernel) (by decide +kernel)) (
  And.intro (sd_VI mg_85 (by decide +kernel) wm_8_28 wn_85 wv_85 rfl rfl (by decide +kernel)) (
  And.intro (sd_aload_n (k := 2) rfl (by decide +kernel) (by decide +kernel)) (
  And.intro (sd_VI mg_173 (by decide +kernel) wm_8_31 wn_173 wv_173 rfl rfl (by decide +kernel)) (
  And.intro (sd_ieq (off := 849) (by decide +kernel) (by decide +kernel) (by decide +kernel)) (
  And.intro (sd_iconst (n := 0) (by decide) (by decide +kernel) (by decide +kernel)) (
  And.intro (sd_zret (by decide +kernel) rfl) (
  And.intro (sd_aload_n (k := 1) rfl (by decide +kernel) (by decide +kernel)) (
  And.intro (sd_aload_n (k := 0) rfl (by decide +kernel) (by decide +kernel)) (
  And.intro (sd_iload_n (k := 3) rfl (by decide +kernel) (by decide +kernel)) (
  And.intro (sd_iconst (n := 1) (by decide) (by decide +kernel) (by decide +kernel)) (
  And.intro (sd_iadd (by decide +kernel) (by decide +kernel)) (
  And.intro (sd_sld rfl (by decide +kernel) (by decide +kernel)) (
  And.intro (sd_VI mg_86 (by decide +kernel) wm_8_32 wn_86 wv_86 rfl rfl (by decide +kernel)) (
  And.intro (sd_aload_n (k := 2) rfl (by decide +kernel) (by decide +kernel)) (
  And.intro (sd_aload_n (k := 0) rfl (by decide +kernel) (by decide +kernel)) (
  And.intro (sd_iload_n (k := 3) rfl (by decide +kernel) (by decide +kernel)) (
  And.intro (sd_iconst (n := 1) (by decide) (by decide +kernel) (by decide +kernel)) (
  And.intro (sd_iadd (by decide +kernel) (by decide +kernel)) (
  And.intro (sd_sld rfl (by decide +kernel) (by decide +kernel)) (
  And.intro (sd_VI mg_174 (by decide +kernel) wm_8_35 wn_174 wv_174 rfl rfl (by decide +kernel)) (
  And.intro (sd_ieq (off := 826) (by decide +kernel) (by decide +kernel) (by decide +kernel)) (
  And.intro (sd_iconst (n := 0) (by decide) (by decide +kernel) (by decide +kernel)) (
  And.intro (sd_zret (by decide +kernel) rfl) (
  And.intro (sd_aload_n (k := 1) rfl (by decide +kernel) (by decide +kernel)) (
  And.intro (sd_aload_n (k := 0) rfl (by decide +kernel) (by decide +kernel)) (
  And.intro (sd_iload_n (k := 3) rfl (by decide +kernel) (by decide +kernel)) (
  And.intro (sd_iconst (n := 1) (by decide) (by decide +kernel) (by decide +kernel)) (
  And.intro (sd_iadd (by decide +kernel) (by decide +kernel)) (
  And.intro (sd_sld rfl (by decide +kernel) (by decide +kernel)) (
  And.intro (sd_aload_n (k := 0) rfl (by decide +kernel) (by decide +kernel)) (
  And.intro (sd_iload_n (k := 3) rfl (by decide +kernel) (by decide +kernel)) (
  And.intro (sd_iconst (n := 2) (by decide) (by decide +kernel) (by decide +kernel)) (
  And.intro (sd_iadd (by decide +kernel) (by decide +kernel)) (
  And.intro (sd_sld rfl (by decide +kernel) (by decide +kernel)) (
  And.intro (sd_VI mg_87 (by decide +kernel) wm_8_36 wn_87 wv_87 rfl rfl (by decide +kernel)) (
  And.intro (sd_aload_n (k := 2) rfl (by decide +kernel) (by decide +kernel)) (
  And.intro (sd_aload_n (k := 0) rfl (by decide +kernel) (by decide +kernel)) (
  And.intro (sd_iload_n (k := 3) rfl (by decide +kernel) (by decide +kernel)) (
  And.intro (sd_iconst (n := 1) (by decide) (by decide +kernel) (by decide +kernel)) (
  And.intro (sd_iadd (by decide +kernel) (by decide +kernel)) (
  And.intro (sd_sld rfl (by decide +kernel) (by decide +kernel)) (
  And.intro (sd_aload_n (k := 0) rfl (by decide +kernel) (by decide +kernel)) (
  And.intro (sd_iload_n (k := 3) rfl (by decide +kernel) (by decide +kernel)) (
  And.intro (sd_iconst (n := 2) (by decide) (by decide +kernel) (by decide +kernel)) (
  And.intro (sd_iadd (by decide +kernel) (by decide +kernel)) (
  And.intro (sd_sld rfl (by decide +kernel) (by decide +kernel)) (
  And.intro (sd_VI mg_182 (by decide +kernel) wm_8_40 wn_182 wv_182 rfl rfl (by decide +kernel)) (
  And.intro (sd_ieq (off := 793) (by decide +kernel) (by decide +kernel) (by decide +kernel)) (
  And.intro (sd_iconst (n := 0) (by decide) (by decide +kernel) (by decide +kernel)) (
  And.intro (sd_zret (by decide +kernel) rfl) (
  And.intro (sd_aload_n (k := 1) rfl (by decide +kernel) (by decide +kernel)) (
  And.intro (sd_aload_n (k := 0) rfl (by decide +kernel) (by decide +kernel)) (
  And.intro (sd_iload_n (k := 3) rfl (by decide +kernel) (by decide +kernel)) (
  And.intro (sd_iconst (n := 1) (by decide) (by decide +kernel) (by decide +kernel)) (
  And.intro (sd_iadd (by decide +kernel) (by decide +kernel)) (
  And.intro (sd_sld rfl (by decide +kernel) (by decide +kernel)) (
  And.intro (sd_aload_n (k := 0) rfl (by decide +kernel) (by decide +kernel)) (
  And.intro (sd_iload_n (k := 3) rfl (by decide +kernel) (by decide +kernel)) (
  And.intro (sd_iconst (n := 2) (by decide) (by decide +kernel) (by decide +kernel)) (
  And.intro (sd_iadd (by decide +kernel) (by decide +kernel)) (
  And.intro (sd_sld rfl (by decide +kernel) (by decide +kernel)) (
  And.intro (sd_VI mg_88 (by decide +kernel) wm_8_41 wn_88 wv_88 rfl rfl (by decide +kernel)) (
  And.intro (sd_aload_n (k := 2) rfl (by decide +kernel) (by decide +kernel)) (
  And.intro (sd_aload_n (k := 0) rfl (by decide +kernel) (by decide +kernel)) (
  And.intro (sd_iload_n (k := 3) rfl (by decide +kernel) (by decide +kernel)) (
  And.intro (sd_iconst (n := 1) (by decide) (by decide +kernel) (by decide +kernel)) (
  And.intro (sd_iadd (by decide +kernel) (by decide +kernel)) (
  And.intro (sd_sld rfl (by decide +kernel) (by decide +kernel)) (
  And.intro (sd_aload_n (k := 0) rfl (by decide +kernel) (by decide +kernel)) (
  And.intro (sd_iload_n (k := 3) rfl (by decide +kernel) (by decide +kernel)) (
  And.intro (sd_iconst (n := 2) (by decide) (by decide +kernel) (by decide +kernel)) (
  And.intro (sd_iadd (by decide +kernel) (by decide +kernel)) (
  And.intro (sd_sld rfl (by decide +kernel) (by decide +kernel)) (
  And.intro (sd_VI mg_183 (by decide +kernel) wm_8_44 wn_183 wv_183 rfl rfl (by decide +kernel)) (
  And.intro (sd_ieq (off := 760) (by decide +kernel) (by decide +kernel) (by decide +kernel)) (
  And.intro (sd_iconst (n := 0) (by decide) (by decide +kernel) (by decide +kernel)) (
  And.intro (sd_zret (by decide +kernel) rfl) (
  And.intro (sd_aload_n (k := 1) rfl (by decide +kernel) (by decide +kernel)) (
  And.intro (sd_aload_n (k := 0) rfl (by decide +kernel) (by decide +kernel)) (
  And.intro (sd_iload_n (k := 3) rfl (by decide +kernel) (by decide +kernel)) (
  And.intro (sd_iconst (n := 1) (by decide) (by decide +kernel) (by decide +kernel)) (
  And.intro (sd_iadd (by decide +kernel) (by decide +kernel)) (
  And.intro (sd_sld rfl (by decide +kernel) (by decide +kernel)) (
  And.intro (sd_VI mg_89 (by decide +kernel) wm_8_45 wn_89 wv_89 rfl rfl (by decide +kernel)) (
  And.intro (sd_aload_n (k := 2) rfl (by decide +kernel) (by decide +kernel)) (
  And.intro (sd_aload_n (k := 0) rfl (by decide +kernel) (by decide +kernel)) (
  And.intro (sd_iload_n (k := 3) rfl (by decide +kernel) (by decide +kernel)) (
  And.intro (sd_iconst (n := 1) (by decide) (by decide +kernel) (by decide +kernel)) (
  And.intro (sd_iadd (by decide +kernel) (by decide +kernel)) (
  And.intro (sd_sld rfl (by decide +kernel) (by decide +kernel)) (
  And.intro (sd_VI mg_184 (by decide +kernel) wm_8_48 wn_184 wv_184 rfl rfl (by decide +kernel)) (
  And.intro (sd_ieq (off := 737) (by decide +kernel) (by decide +kernel) (by decide +kernel)) (
  And.intro (sd_iconst (n := 0) (by decide) (by decide +kernel) (by decide +kernel)) (
  And.intro (sd_zret (by decide +kernel) rfl) (
  And.intro (sd_aload_n (k := 1) rfl (by decide +kernel) (by decide +kernel)) (
  And.intro (sd_VI mg_91 (by decide +kernel) wm_8_49 wn_91 wv_91 rfl rfl (by decide +kernel)) (
  And.intro (sd_aload_n (k := 2) rfl (by decide +kernel) (by decide +kernel)) (
  And.intro (sd_VI mg_195 (by decide +kernel) wm_8_52 wn_195 wv_195 rfl rfl (by decide +kernel)) (
  And.intro (sd_ieq (off := 724) (by decide +kernel) (by decide +kernel) (by decide +kernel)) (
  And.intro (sd_iconst (n := 0) (by decide) (by decide +kernel) (by decide +kernel)) (
  And.intro (sd_zret (by decide +kernel) rfl) (
  And.intro (sd_aload_n (k := 1) rfl (by decide +kernel) (by decide +kernel)) (
  And.intro (sd_aload_n (k := 0) rfl (by decide +kernel) (by decide +kernel)) (
  And.intro (sd_iload_n (k := 3) rfl (by decide +kernel) (by decide +kernel)) (
  And.intro (sd_iconst (n := 1) (by decide) (by decide +kernel) (by decide +kernel)) (
  And.intro (sd_iadd (by decide +kernel) (by decide +kernel)) (
  And.intro (sd_sld rfl (by decide +kernel) (by decide +kernel)) (
  And.intro (sd_aload_n (k := 0) rfl (by decide +kernel) (by decide +kernel)) (
  And.intro (sd_iload_n (k := 3) rfl (by decide +kernel) (by decide +kernel)) (
  And.intro (sd_iconst (n := 2) (by decide) (by decide +kernel) (by decide +kernel)) (
  And.intro (sd_iadd (by decide +kernel) (by decide +kernel)) (
  And.intro (sd_sld rfl (by decide +kernel) (by decide +kernel)) (
  And.intro (sd_VI mg_92 (by decide +kernel) wm_8_53 wn_92 wv_92 rfl rfl (by decide +kernel)) (
  And.intro (sd_aload_n (k := 2) rfl (by decide +kernel) (by decide +kernel)) (
  And.intro (sd_aload_n (k := 0) rfl (by decide +kernel) (by decide +kernel)) (
  And.intro (sd_iload_n (k := 3) rfl (by decide +kernel) (by decide +kernel)) (
  And.intro (sd_iconst (n := 1) (by decide) (by decide +kernel) (by decide +kernel)) (
  And.intro (sd_iadd (by decide +kernel) (by decide +kernel)) (
  And.intro (sd_sld rfl (by decide +kernel) (by decide +kernel)) (
  And.intro (sd_aload_n (k := 0) rfl (by decide +kernel) (by decide +kernel)) (
  And.intro (sd_iload_n (k := 3) rfl (by decide +kernel) (by decide +kernel)) (
  And.intro (sd_iconst (n := 2) (by decide) (by decide +kernel) (by decide +kernel)) (
  And.intro (sd_iadd (by decide +kernel) (by decide +kernel)) (
  And.intro (sd_sld rfl (by decide +kernel) (by decide +kernel)) (
  And.intro (sd_VI mg_198 (by decide +kernel) wm_8_56 wn_198 wv_198 rfl rfl (by decide +kernel)) (
  And.intro (sd_ieq (off := 691) (by decide +kernel) (by decide +kernel) (by decide +kernel)) (
  And.intro (sd_iconst (n := 0) (by decide) (by decide +kernel) (by decide +kernel)) (
  And.intro (sd_zret (by decide +kernel) rfl) (
  And.intro (sd_aload_n (k := 1) rfl (by decide +kernel) (by decide +kernel)) (
  And.intro (sd_aload_n (k := 0) rfl (by decide +kernel) (by decide +kernel)) (
  And.intro (sd_iload_n (k := 3) rfl (by decide +kernel) (by decide +kernel)) (
  And.intro (sd_iconst (n := 1) (by decide) (by decide +kernel) (by decide +kernel)) (
  And.intro (sd_iadd (by decide +kernel) (by decide +kernel)) (
  And.intro (sd_sld rfl (by decide +kernel) (by decide +kernel)) (
  And.intro (sd_aload_n (k := 0) rfl (by decide +kernel) (by decide +kernel)) (
  And.intro (sd_iload_n (k := 3) rfl (by decide +kernel) (by decide +kernel)) (
  And.intro (sd_iconst (n := 2) (by decide) (by decide +kernel) (by decide +kernel)) (
  And.intro (sd_iadd (by decide +kernel) (by decide +kernel)) (
  And.intro (sd_sld rfl (by decide +kernel) (by decide +kernel)) (
  And.intro (sd_VI mg_93 (by decide +kernel) wm_8_57 wn_93 wv_93 rfl rfl (by decide +kernel)) (
  And.intro (sd_aload_n (k := 2) rfl (by decide +kernel) (by decide +kernel)) (
  And.intro (sd_aload_n (k := 0) rfl (by decide +kernel) (by decide +kernel)) (
  And.intro (sd_iload_n (k := 3) rfl (by decide +kernel) (by decide +kernel)) (
  And.intro (sd_iconst (n := 1) (by decide) (by decide +kernel) (by decide +kernel)) (
  And.intro (sd_iadd (by decide +kernel) (by decide +kernel)) (
  And.intro (sd_sld rfl (by decide +kernel) (by decide +kernel)) (
  And.intro (sd_aload_n (k := 0) rfl (by decide +kernel) (by decide +kernel)) (
  And.intro (sd_iload_n (k := 3) rfl (by decide +kernel) (by decide +kernel)) (
  And.intro (sd_iconst (n := 2) (by decide) (by decide +kernel) (by decide +kernel)) (
  And.intro (sd_iadd (by decide +kernel) (by decide +kernel)) (
  And.intro (sd_sld rfl (by decide +kernel) (by decide +kernel)) (
  And.intro (sd_VI mg_200 (by decide +kernel) wm_8_60 wn_200 wv_200 rfl rfl (by decide +kernel)) (
  And.intro (sd_ieq (off := 658) (by decide +kernel) (by decide +kernel) (by decide +kernel)) (
  And.intro (sd_iconst (n := 0) (by decide) (by decide +kernel) (by decide +kernel)) (
  And.intro (sd_zret (by decide +kernel) rfl) (
  And.intro (sd_aload_n (k := 1) rfl (by decide +kernel) (by decide +kernel)) (
  And.intro (sd_aload_n (k := 0) rfl (by decide +kernel) (by decide +kernel)) (
  And.intro (sd_iload_n (k := 3) rfl (by decide +kernel) (by decide +kernel)) (
  And.intro (sd_iconst (n := 1) (by decide) (by decide +kernel) (by decide +kernel)) (
  And.intro (sd_iadd (by decide +kernel) (by decide +kernel)) (
  And.intro (sd_sld rfl (by decide +kernel) (by decide +kernel)) (
  And.intro (sd_aload_n (k := 0) rfl (by decide +kernel) (by decide +kernel)) (
  And.intro (sd_iload_n (k := 3) rfl (by decide +kernel) (by decide +kernel)) (
  And.intro (sd_iconst (n := 2) (by decide) (by decide +kernel) (by decide +kernel)) (
  And.intro (sd_iadd (by decide +kernel) (by decide +kernel)) (
  And.intro (sd_sld rfl (by decide +kernel) (by decide +kernel)) (
  And.intro (sd_VI mg_94 (by decide +kernel) wm_8_61 wn_94 wv_94 rfl rfl (by decide +kernel)) (
  And.intro (sd_aload_n (k := 2) rfl (by decide +kernel) (by decide +kernel)) (
  And.intro (sd_aload_n (k := 0) rfl (by decide +kernel) (by decide +kernel)) (
  And.intro (sd_iload_n (k := 3) rfl (by decide +kernel) (by decide +kernel)) (
  And.intro (sd_iconst (n := 1) (by decide) (by decide +kernel) (by decide +kernel)) (
  And.intro (sd_iadd (by decide +kernel) (by decide +kernel)) (
  And.intro (sd_sld rfl (by decide +kernel) (by decide +kernel)) (
  And.intro (sd_aload_n (k := 0) rfl (by decide +kernel) (by decide +kernel)) (
  And.intro (sd_iload_n (k := 3) rfl (by decide +kernel) (by decide +kernel)) (
  And.intro (sd_iconst (n := 2) (by decide) (by decide +kernel) (by decide +kernel)) (
  And.intro (sd_iadd (by decide +kernel) (by decide +kernel)) (
  And.intro (sd_sld rfl (by decide +kernel) (by decide +kernel)) (
  And.intro (sd_VI mg_201 (by decide +kernel) wm_8_65 wn_201 wv_201 rfl rfl (by decide +kernel)) (
  And.intro (sd_ieq (off := 625) (by decide +kernel) (by decide +kernel) (by decide +kernel)) (
  And.intro (sd_iconst (n := 0) (by decide) (by decide +kernel) (by decide +kernel)) (
  And.intro (sd_zret (by decide +kernel) rfl) (
  And.intro (sd_aload_n (k := 1) rfl (by decide +kernel) (by decide +kernel)) (
  And.intro (sd_aload_n (k := 0) rfl (by decide +kernel) (by decide +kernel)) (
  And.intro (sd_iload_n (k := 3) rfl (by decide +kernel) (by decide +kernel)) (
  And.intro (sd_iconst (n := 1) (by decide) (by decide +kernel) (by decide +kernel)) (
  And.intro (sd_iadd (by decide +kernel) (by decide +kernel)) (
  And.intro (sd_sld rfl (by decide +kernel) (by decide +kernel)) (
  And.intro (sd_aload_n (k := 0) rfl (by decide +kernel) (by decide +kernel)) (
  And.intro (sd_iload_n (k := 3) rfl (by decide +kernel) (by decide +kernel)) (
  And.intro (sd_iconst (n := 2) (by decide) (by decide +kernel) (by decide +kernel)) (
  And.intro (sd_iadd (by decide +kernel) (by decide +kernel)) (
  And.intro (sd_sld rfl (by decide +kernel) (by decide +kernel)) (
  And.intro (sd_VI mg_95 (by decide +kernel) wm_8_66 wn_95 wv_95 rfl rfl (by decide +kernel)) (
  And.intro (sd_aload_n (k := 2) rfl (by decide +kernel) (by decide +kernel)) (
  And.intro (sd_aload_n (k := 0) rfl (by decide +kernel) (by decide +kernel)) (
  And.intro (sd_iload_n (k := 3) rfl (by decide +kernel) (by decide +kernel)) (
  And.intro (sd_iconst (n := 1) (by decide) (by decide +kernel) (by decide +kernel)) (
  And.intro (sd_iadd (by decide +kernel) (by decide +kernel)) (
  And.intro (sd_sld rfl (by decide +kernel) (by decide +kernel)) (
  And.intro (sd_aload_n (k := 0) rfl (by decide +kernel) (by decide +kernel)) (
  And.intro (sd_iload_n (k := 3) rfl (by decide +kernel) (by decide +kernel)) (
  And.intro (sd_iconst (n := 2) (by decide) (by decide +kernel) (by decide +kernel)) (
  And.intro (sd_iadd (by decide +kernel) (by decide +kernel)) (
  And.intro (sd_sld rfl (by decide +kernel) (by decide +kernel)) (
  And.intro (sd_VI mg_202 (by decide +kernel) wm_8_69 wn_202 wv_202 rfl rfl (by decide +kernel)) (
  And.intro (sd_ieq (off := 592) (by decide +kernel) (by decide +kernel) (by decide +kernel)) (
  And.intro (sd_iconst (n := 0) (by decide) (by decide +kernel) (by decide +kernel)) (
  And.intro (sd_zret (by decide +kernel) rfl) (
  And.intro (sd_aload_n (k := 1) rfl (by decide +kernel) (by decide +kernel)) (
  And.intro (sd_aload_n (k := 0) rfl (by decide +kernel) (by decide +kernel)) (
  And.intro (sd_iload_n (k := 3) rfl (by decide +kernel) (by decide +kernel)) (
  And.intro (sd_iconst (n := 1) (by decide) (by decide +kernel) (by decide +kernel)) (
  And.intro (sd_iadd (by decide +kernel) (by decide +kernel)) (
  And.intro (sd_sld rfl (by decide +kernel) (by decide +kernel)) (
  And.intro (sd_VI mg_96 (by decide +kernel) wm_8_70 wn_96 wv_96 rfl rfl (by decide +kernel)) (
  And.intro (sd_aload_n (k := 2) rfl (by decide +kernel) (by decide +kernel)) (
  And.intro (sd_aload_n (k := 0) rfl (by decide +kernel) (by decide +kernel)) (
  And.intro (sd_iload_n (k := 3) rfl (by decide +kernel) (by decide +kernel)) (
  And.intro (sd_iconst (n := 1) (by decide) (by decide +kernel) (by decide +kernel)) (
  And.intro (sd_iadd (by decide +kernel) (by decide +kernel)) (
  And.intro (sd_sld rfl (by decide +kernel) (by decide +kernel)) (
  And.intro (sd_VI mg_203 (by decide +kernel) wm_8_73 wn_203 wv_203 rfl rfl (by decide +kernel)) (
  And.intro (sd_ieq (off := 569) (by decide +kernel) (by decide +kernel) (by decide +kernel)) (
  And.intro (sd_iconst (n := 0) (by decide) (by decide +kernel) (by decide +kernel)) (
  And.intro (sd_zret (by decide +kernel) rfl) (
  And.intro (sd_aload_n (k := 1) rfl (by decide +kernel) (by decide +kernel)) (
  And.intro (sd_VI mg_97 (by decide +kernel) wm_8_74 wn_97 wv_97 rfl rfl (by decide +kernel)) (
  And.intro (sd_aload_n (k := 2) rfl (by decide +kernel) (by decide +kernel)) (
  And.intro (sd_VI mg_194 (by decide +kernel) wm_8_77 wn_194 wv_194 rfl rfl (by decide +kernel)) (
  And.intro (sd_ieq (off := 556) (by decide +kernel) (by decide +kernel) (by decide +kernel)) (
  And.intro (sd_iconst (n := 0) (by decide) (by decide +kernel) (by decide +kernel)) (
  And.intro (sd_zret (by decide +kernel) rfl) (
  And.intro (sd_aload_n (k := 1) rfl (by decide +kernel) (by decide +kernel)) (
  And.intro (sd_aload_n (k := 0) rfl (by decide +kernel) (by decide +kernel)) (
  And.intro (sd_iload_n (k := 3) rfl (by decide +kernel) (by decide +kernel)) (
  And.intro (sd_iconst (n := 1) (by decide) (by decide +kernel) (by decide +kernel)) (
  And.intro (sd_iadd (by decide +kernel) (by decide +kernel)) (
  And.intro (sd_sld rfl (by decide +kernel) (by decide +kernel)) (
  And.intro (sd_aload_n (k := 0) rfl (by decide +kernel) (by decide +kernel)) (
  And.intro (sd_iload_n (k := 3) rfl (by decide +kernel) (by decide +kernel)) (
  And.intro (sd_iconst (n := 2) (by decide) (by decide +kernel) (by decide +kernel)) (
  And.intro (sd_iadd (by decide +kernel) (by decide +kernel)) (
  And.intro (sd_sld rfl (by decide +kernel) (by decide +kernel)) (
  And.intro (sd_aload_n (k := 0) rfl (by decide +kernel) (by decide +kernel)) (
  And.intro (sd_iload_n (k := 3) rfl (by decide +kernel) (by decide +kernel)) (
  And.intro (sd_iconst (n := 3) (by decide) (by decide +kernel) (by decide +kernel)) (
  And.intro (sd_iadd (by decide +kernel) (by decide +kernel)) (
  And.intro (sd_sld rfl (by decide +kernel) (by decide +kernel)) (
  And.intro (sd_VI mg_98 (by decide +kernel) wm_8_78 wn_98 wv_98 rfl rfl (by decide +kernel)) (
  And.intro (sd_aload_n (k := 2) rfl (by decide +kernel) (by decide +kernel)) (
  And.intro (sd_aload_n (k := 0) rfl (by decide +kernel) (by decide +kernel)) (
  And.intro (sd_iload_n (k := 3) rfl (by decide +kernel) (by decide +kernel)) (
  And.intro (sd_iconst (n := 1) (by decide) (by decide +kernel) (by decide +kernel)) (
  And.intro (sd_iadd (by decide +kernel) (by decide +kernel)) (
  And.intro (sd_sld rfl (by decide +kernel) (by decide +kernel)) (
  And.intro (sd_aload_n (k := 0) rfl (by decide +kernel) (by decide +kernel)) (
  And.intro (sd_iload_n (k := 3) rfl (by decide +kernel) (by decide +kernel)) (
  And.intro (sd_iconst (n := 2) (by decide) (by decide +kernel) (by decide +kernel)) (
  And.intro (sd_iadd (by decide +kernel) (by decide +kernel)) (
  And.intro (sd_sld rfl (by decide +kernel) (by decide +kernel)) (
  And.intro (sd_aload_n (k := 0) rfl (by decide +kernel) (by decide +kernel)) (
  And.intro (sd_iload_n (k := 3) rfl (by decide +kernel) (by decide +kernel)) (
  And.intro (sd_iconst (n := 3) (by decide) (by decide +kernel) (by decide +kernel)) (
  And.intro (sd_iadd (by decide +kernel) (by decide +kernel)) (
  And.intro (sd_sld rfl (by decide +kernel) (by decide +kernel)) (
  And.intro (sd_VI mg_206 (by decide +kernel) wm_8_82 wn_206 wv_206 rfl rfl (by decide +kernel)) (
  And.intro (sd_ieq (off := 513) (by decide +kernel) (by decide +kernel) (by decide +kernel)) (
  And.intro (sd_iconst (n := 0) (by decide) (by decide +kernel) (by decide +kernel)) (
  And.intro (sd_zret (by decide +kernel) rfl) (
  And.intro (sd_aload_n (k := 1) rfl (by decide +kernel) (by decide +kernel)) (
  And.intro (sd_aload_n (k := 0) rfl (by decide +kernel) (by decide +kernel)) (
  And.intro (sd_iload_n (k := 3) rfl (by decide +kernel) (by decide +kernel)) (
  And.intro (sd_iconst (n := 1) (by decide) (by decide +kernel) (by decide +kernel)) (
  And.intro (sd_iadd (by decide +kernel) (by decide +kernel)) (
  And.intro (sd_sld rfl (by decide +kernel) (by decide +kernel)) (
  And.intro (sd_aload_n (k := 0) rfl (by decide +kernel) (by decide +kernel)) (
  And.intro (sd_iload_n (k := 3) rfl (by decide +kernel) (by decide +kernel)) (
  And.intro (sd_iconst (n := 2) (by decide) (by decide +kernel) (by decide +kernel)) (
  And.intro (sd_iadd (by decide +kernel) (by decide +kernel)) (
  And.intro (sd_sld rfl (by decide +kernel) (by decide +kernel)) (
  And.intro (sd_aload_n (k := 0) rfl (by decide +kernel) (by decide +kernel)) (
  And.intro (sd_iload_n (k := 3) rfl (by decide +kernel) (by decide +kernel)) (
  And.intro (sd_iconst (n := 3) (by decide) (by decide +kernel) (by decide +kernel)) (
  And.intro (sd_iadd (by decide +kernel) (by decide +kernel)) (
  And.intro (sd_sld rfl (by decide +kernel) (by decide +kernel)) (
  And.intro (sd_VI mg_99 (by decide +kernel) wm_8_83 wn_99 wv_99 rfl rfl (by decide +kernel)) (
  And.intro (sd_aload_n (k := 2) rfl (by decide +kernel) (by decide +kernel)) (
  And.intro (sd_aload_n (k := 0) rfl (by decide +kernel) (by decide +kernel)) (
  And.intro (sd_iload_n (k := 3) rfl (by decide +kernel) (by decide +kernel)) (
  And.intro (sd_iconst (n := 1) (by decide) (by decide +kernel) (by decide +kernel)) (
  And.intro (sd_iadd (by decide +kernel) (by decide +kernel)) (
  And.intro (sd_sld rfl (by decide +kernel) (by decide +kernel)) (
  And.intro (sd_aload_n (k := 0) rfl (by decide +kernel) (by decide +kernel)) (
  And.intro (sd_iload_n (k := 3) rfl (by decide +kernel) (by decide +kernel)) (
  And.intro (sd_iconst (n := 2) (by decide) (by decide +kernel) (by decide +kernel)) (
  And.intro (sd_iadd (by decide +kernel) (by decide +kernel)) (
  And.intro (sd_sld rfl (by decide +kernel) (by decide +kernel)) (
  And.intro (sd_aload_n (k := 0) rfl (by decide +kernel) (by decide +kernel)) (
  And.intro (sd_iload_n (k := 3) rfl (by decide +kernel) (by decide +kernel)) (
  And.intro (sd_iconst (n := 3) (by decide) (by decide +kernel) (by decide +kernel)) (
  And.intro (sd_iadd (by decide +kernel) (by decide +kernel)) (
  And.intro (sd_sld rfl (by decide +kernel) (by decide +kernel)) (
  And.intro (sd_VI mg_207 (by decide +kernel) wm_8_86 wn_207 wv_207 rfl rfl (by decide +kernel)) (
  And.intro (sd_ieq (off := 470) (by decide +kernel) (by decide +kernel) (by decide +kernel)) (
  And.intro (sd_iconst (n := 0) (by decide) (by decide +kernel) (by decide +kernel)) (
  And.intro (sd_zret (by decide +kernel) rfl) (
  And.intro (sd_aload_n (k := 1) rfl (by decide +kernel) (by decide +kernel)) (
  And.intro (sd_aload_n (k := 0) rfl (by decide +kernel) (by decide +kernel)) (
  And.intro (sd_iload_n (k := 3) rfl (by decide +kernel) (by decide +kernel)) (
  And.intro (sd_iconst (n := 1) (by decide) (by decide +kernel) (by decide +kernel)) (
  And.intro (sd_iadd (by decide +kernel) (by decide +kernel)) (
  And.intro (sd_sld rfl (by decide +kernel) (by decide +kernel)) (
  And.intro (sd_aload_n (k := 0) rfl (by decide +kernel) (by decide +kernel)) (
  And.intro (sd_iload_n (k := 3) rfl (by decide +kernel) (by decide +kernel)) (
  And.intro (sd_iconst (n := 2) (by decide) (by decide +kernel) (by decide +kernel)) (
  And.intro (sd_iadd (by decide +kernel) (by decide +kernel)) (
  And.intro (sd_sld rfl (by decide +kernel) (by decide +kernel)) (
  And.intro (sd_VI mg_100 (by decide +kernel) wm_8_87 wn_100 wv_100 rfl rfl (by decide +kernel)) (
  And.intro (sd_aload_n (k := 2) rfl (by decide +kernel) (by decide +kernel)) (
  And.intro (sd_aload_n (k := 0) rfl (by decide +kernel) (by decide +kernel)) (
  And.intro (sd_iload_n (k := 3) rfl (by decide +kernel) (by decide +kernel)) (
  And.intro (sd_iconst (n := 1) (by decide) (by decide +kernel) (by decide +kernel)) (
  And.intro (sd_iadd (by decide +kernel) (by decide +kernel)) (
  And.intro (sd_sld rfl (by decide +kernel) (by decide +kernel)) (
  And.intro (sd_aload_n (k := 0) rfl (by decide +kernel) (by decide +kernel)) (
  And.intro (sd_iload_n (k := 3) rfl (by decide +kernel) (by decide +kernel)) (
  And.intro (sd_iconst (n := 2) (by decide) (by decide +kernel) (by decide +kernel)) (
  And.intro (sd_iadd (by decide +kernel) (by decide +kernel)) (
  And.intro (sd_sld rfl (by decide +kernel) (by decide +kernel)) (
  And.intro (sd_VI mg_208 (by decide +kernel) wm_8_90 wn_208 wv_208 rfl rfl (by decide +kernel)) (
  And.intro (sd_ieq (off := 437) (by decide +kernel) (by decide +kernel) (by decide +kernel)) (
  And.intro (sd_iconst (n := 0) (by decide) (by decide +kernel) (by decide +kernel)) (
  And.intro (sd_zret (by decide +kernel) rfl) (
  And.intro (sd_aload_n (k := 1) rfl (by decide +kernel) (by decide +kernel)) (
  And.intro (sd_aload_n (k := 0) rfl (by decide +kernel) (by decide +kernel)) (
  And.intro (sd_iload_n (k := 3) rfl (by decide +kernel) (by decide +kernel)) (
  And.intro (sd_iconst (n := 1) (by decide) (by decide +kernel) (by decide +kernel)) (
  And.intro (sd_iadd (by decide +kernel) (by decide +kernel)) (
  And.intro (sd_sld rfl (by decide +kernel) (by decide +kernel)) (
  And.intro (sd_aload_n (k := 0) rfl (by decide +kernel) (by decide +kernel)) (
  And.intro (sd_iload_n (k := 3) rfl (by decide +kernel) (by decide +kernel)) (
  And.intro (sd_iconst (n := 2) (by decide) (by decide +kernel) (by decide +kernel)) (
  And.intro (sd_iadd (by decide +kernel) (by decide +kernel)) (
  And.intro (sd_sld rfl (by decide +kernel) (by decide +kernel)) (
  And.intro (sd_VI mg_101 (by decide +kernel) wm_8_91 wn_101 wv_101 rfl rfl (by decide +kernel)) (
  And.intro (sd_aload_n (k := 2) rfl (by decide +kernel) (by decide +kernel)) (
  And.intro (sd_aload_n (k := 0) rfl (by decide +kernel) (by decide +kernel)) (
  And.intro (sd_iload_n (k := 3) rfl (by decide +kernel) (by decide +kernel)) (
  And.intro (sd_iconst (n := 1) (by decide) (by decide +kernel) (by decide +kernel)) (
  And.intro (sd_iadd (by decide +kernel) (by decide +kernel)) (
  And.intro (sd_sld rfl (by decide +kernel) (by decide +kernel)) (
  And.intro (sd_aload_n (k := 0) rfl (by decide +kernel) (by decide +kernel)) (
  And.intro (sd_iload_n (k := 3) rfl (by decide +kernel) (by decide +kernel)) (
  And.intro (sd_iconst (n := 2) (by decide) (by decide +kernel) (by decide +kernel)) (
  And.intro (sd_iadd (by decide +kernel) (by decide +kernel)) (
  And.intro (sd_sld rfl (by decide +kernel) (by decide +kernel)) (
  And.intro (sd_VI mg_213 (by decide +kernel) wm_8_94 wn_213 wv_213 rfl rfl (by decide +kernel)) (
  And.intro (sd_ieq (off := 404) (by decide +kernel) (by decide +kernel) (by decide +kernel)) (
  And.intro (sd_iconst (n := 0) (by decide) (by decide +kernel) (by decide +kernel)) (
  And.intro (sd_zret (by decide +kernel) rfl) (
  And.intro (sd_aload_n (k := 1) rfl (by decide +kernel) (by decide +kernel)) (
  And.intro (sd_aload_n (k := 0) rfl (by decide +kernel) (by decide +kernel)) (
  And.intro (sd_iload_n (k := 3) rfl (by decide +kernel) (by decide +kernel)) (
  And.intro (sd_iconst (n := 1) (by decide) (by decide +kernel) (by decide +kernel)) (
  And.intro (sd_iadd (by decide +kernel) (by decide +kernel)) (
  And.intro (sd_sld rfl (by decide +kernel) (by decide +kernel)) (
  And.intro (sd_VI mg_102 (by decide +kernel) wm_8_95 wn_102 wv_102 rfl rfl (by decide +kernel)) (
  And.intro (sd_aload_n (k := 2) rfl (by decide +kernel) (by decide +kernel)) (
  And.intro (sd_aload_n (k := 0) rfl (by decide +kernel) (by decide +kernel)) (
  And.intro (sd_iload_n (k := 3) rfl (by decide +kernel) (by decide +kernel)) (
  And.intro (sd_iconst (n := 1) (by decide) (by decide +kernel) (by decide +kernel)) (
  And.intro (sd_iadd (by decide +kernel) (by decide +kernel)) (
  And.intro (sd_sld rfl (by decide +kernel) (by decide +kernel)) (
  And.intro (sd_VI mg_215 (by decide +kernel) wm_8_98 wn_215 wv_215 rfl rfl (by decide +kernel)) (
  And.intro (sd_ieq (off := 381) (by decide +kernel) (by decide +kernel) (by decide +kernel)) (
  And.intro (sd_iconst (n := 0) (by decide) (by decide +kernel) (by decide +kernel)) (
  And.intro (sd_zret (by decide +kernel) rfl) (
  And.intro (sd_aload_n (k := 1) rfl (by decide +kernel) (by decide +kernel)) (
  And.intro (sd_aload_n (k := 0) rfl (by decide +kernel) (by decide +kernel)) (
  And.intro (sd_iload_n (k := 3) rfl (by decide +kernel) (by decide +kernel)) (
  And.intro (sd_iconst (n := 1) (by decide) (by decide +kernel) (by decide +kernel)) (
  And.intro (sd_iadd (by decide +kernel) (by decide +kernel)) (
  And.intro (sd_sld rfl (by decide +kernel) (by decide +kernel)) (
  And.intro (sd_aload_n (k := 0) rfl (by decide +kernel) (by decide +kernel)) (
  And.intro (sd_iload_n (k := 3) rfl (by decide +kernel) (by decide +kernel)) (
  And.intro (sd_iconst (n := 2) (by decide) (by decide +kernel) (by decide +kernel)) (
  And.intro (sd_iadd (by decide +kernel) (by decide +kernel)) (
  And.intro (sd_sld rfl (by decide +kernel) (by decide +kernel)) (
  And.intro (sd_VI mg_103 (by decide +kernel) wm_8_99 wn_103 wv_103 rfl rfl (by decide +kernel)) (
  And.intro (sd_aload_n (k := 2) rfl (by decide +kernel) (by decide +kernel)) (
  And.intro (sd_aload_n (k := 0) rfl (by decide +kernel) (by decide +kernel)) (
  And.intro (sd_iload_n (k := 3) rfl (by decide +kernel) (by decide +kernel)) (
  And.intro (sd_iconst (n := 1) (by decide) (by decide +kernel) (by decide +kernel)) (
  And.intro (sd_iadd (by decide +kernel) (by decide +kernel)) (
  And.intro (sd_sld rfl (by decide +kernel) (by decide +kernel)) (
  And.intro (sd_aload_n (k := 0) rfl (by decide +kernel) (by decide +kernel)) (
  And.intro (sd_iload_n (k := 3) rfl (by decide +kernel) (by decide +kernel)) (
  And.intro (sd_iconst (n := 2) (by decide) (by decide +kernel) (by decide +kernel)) (
  And.intro (sd_iadd (by decide +kernel) (by decide +kernel)) (
  And.intro (sd_sld rfl (by decide +kernel) (by decide +kernel)) (
  And.intro (sd_VI mg_217 (by decide +kernel) wm_8_102 wn_217 wv_217 rfl rfl (by decide +kernel)) (
  And.intro (sd_ieq (off := 348) (by decide +kernel) (by decide +kernel) (by decide +kernel)) (
  And.intro (sd_iconst (n := 0) (by decide) (by decide +kernel) (by decide +kernel)) (
  And.intro (sd_zret (by decide +kernel) rfl) (
  And.intro (sd_aload_n (k := 1) rfl (by decide +kernel) (by decide +kernel)) (
  And.intro (sd_aload_n (k := 0) rfl (by decide +kernel) (by decide +kernel)) (
  And.intro (sd_iload_n (k := 3) rfl (by decide +kernel) (by decide +kernel)) (
  And.intro (sd_iconst (n := 1) (by decide) (by decide +kernel) (by decide +kernel)) (
  And.intro (sd_iadd (by decide +kernel) (by decide +kernel)) (
  And.intro (sd_sld rfl (by decide +kernel) (by decide +kernel)) (
  And.intro (sd_VI mg_104 (by decide +kernel) wm_8_103 wn_104 wv_104 rfl rfl (by decide +kernel)) (
  And.intro (sd_aload_n (k := 2) rfl (by decide +kernel) (by decide +kernel)) (
  And.intro (sd_aload_n (k := 0) rfl (by decide +kernel) (by decide +kernel)) (
  And.intro (sd_iload_n (k := 3) rfl (by decide +kernel) (by decide +kernel)) (
  And.intro (sd_iconst (n := 1) (by decide) (by decide +kernel) (by decide +kernel)) (
  And.intro (sd_iadd (by decide +kernel) (by decide +kernel)) (
  And.intro (sd_sld rfl (by decide +kernel) (by decide +kernel)) (
  And.intro (sd_VI mg_218 (by decide +kernel) wm_8_106 wn_218 wv_218 rfl rfl (by decide +kernel)) (
  And.intro (sd_ieq (off := 325) (by decide +kernel) (by decide +kernel) (by decide +kernel)) (
  And.intro (sd_iconst (n := 0) (by decide) (by decide +kernel) (by decide +kernel)) (
  And.intro (sd_zret (by decide +kernel) rfl) (
  And.intro (sd_aload_n (k := 1) rfl (by decide +kernel) (by decide +kernel)) (
  And.intro (sd_aload_n (k := 0) rfl (by decide +kernel) (by decide +kernel)) (
  And.intro (sd_iload_n (k := 3) rfl (by decide +kernel) (by decide +kernel)) (
  And.intro (sd_iconst (n := 1) (by decide) (by decide +kernel) (by decide +kernel)) (
  And.intro (sd_iadd (by decide +kernel) (by decide +kernel)) (
  And.intro (sd_sld rfl (by decide +kernel) (by decide +kernel)) (
  And.intro (sd_aload_n (k := 0) rfl (by decide +kernel) (by decide +kernel)) (
  And.intro (sd_iload_n (k := 3) rfl (by decide +kernel) (by decide +kernel)) (
  And.intro (sd_iconst (n := 2) (by decide) (by decide +kernel) (by decide +kernel)) (
  And.intro (sd_iadd (by decide +kernel) (by decide +kernel)) (
  And.intro (sd_sld rfl (by decide +kernel) (by decide +kernel)) (
  And.intro (sd_VI mg_105 (by decide +kernel) wm_8_107 wn_105 wv_105 rfl rfl (by decide +kernel)) (
  And.intro (sd_aload_n (k := 2) rfl (by decide +kernel) (by decide +kernel)) (
  And.intro (sd_aload_n (k := 0) rfl (by decide +kernel) (by decide +kernel)) (
  And.intro (sd_iload_n (k := 3) rfl (by decide +kernel) (by decide +kernel)) (
  And.intro (sd_iconst (n := 1) (by decide) (by decide +kernel) (by decide +kernel)) (
  And.intro (sd_iadd (by decide +kernel) (by decide +kernel)) (
  And.intro (sd_sld rfl (by decide +kernel) (by decide +kernel)) (
  And.intro (sd_aload_n (k := 0) rfl (by decide +kernel) (by decide +kernel)) (
  And.intro (sd_iload_n (k := 3) rfl (by decide +kernel) (by decide +kernel)) (
  And.intro (sd_iconst (n := 2) (by decide) (by decide +kernel) (by decide +kernel)) (
  And.intro (sd_iadd (by decide +kernel) (by decide +kernel)) (
  And.intro (sd_sld rfl (by decide +kernel) (by decide +kernel)) (
  And.intro (sd_VI mg_219 (by decide +kernel) wm_8_110 wn_219 wv_219 rfl rfl (by decide +kernel)) (
  And.intro (sd_ieq (off := 292) (by decide +kernel) (by decide +kernel) (by decide +kernel)) (
  And.intro (sd_iconst (n := 0) (by decide) (by decide +kernel) (by decide +kernel)) (
  And.intro (sd_zret (by decide +kernel) rfl) (
  And.intro (sd_aload_n (k := 1) rfl (by decide +kernel) (by decide +kernel)) (
  And.intro (sd_aload_n (k := 0) rfl (by decide +kernel) (by decide +kernel)) (
  And.intro (sd_iload_n (k := 3) rfl (by decide +kernel) (by decide +kernel)) (
  And.intro (sd_iconst (n := 1) (by decide) (by decide +kernel) (by decide +kernel)) (
  And.intro (sd_iadd (by decide +kernel) (by decide +kernel)) (
  And.intro (sd_sld rfl (by decide +kernel) (by decide +kernel)) (
  And.intro (sd_aload_n (k := 0) rfl (by decide +kernel) (by decide +kernel)) (
  And.intro (sd_iload_n (k := 3) rfl (by decide +kernel) (by decide +kernel)) (
  And.intro (sd_iconst (n := 2) (by decide) (by decide +kernel) (by decide +kernel)) (
  And.intro (sd_iadd (by decide +kernel) (by decide +kernel)) (
  And.intro (sd_sld rfl (by decide +kernel) (by decide +kernel)) (
  And.intro (sd_aload_n (k := 0) rfl (by decide +kernel) (by decide +kernel)) (
  And.intro (sd_iload_n (k := 3) rfl (by decide +kernel) (by decide +kernel)) (
  And.intro (sd_iconst (n := 3) (by decide) (by decide +kernel) (by decide +kernel)) (
  And.intro (sd_iadd (by decide +kernel) (by decide +kernel)) (
  And.intro (sd_sld rfl (by decide +kernel) (by decide +kernel)) (
  And.intro (sd_VI mg_106 (by decide +kernel) wm_8_111 wn_106 wv_106 rfl rfl (by decide +kernel)) (
  And.intro (sd_aload_n (k := 2) rfl (by decide +kernel) (by decide +kernel)) (
  And.intro (sd_aload_n (k := 0) rfl (by decide +kernel) (by decide +kernel)) (
  And.intro (sd_iload_n (k := 3) rfl (by decide +kernel) (by decide +kernel)) (
  And.intro (sd_iconst (n := 1) (by decide) (by decide +kernel) (by decide +kernel)) (
  And.intro (sd_iadd (by decide +kernel) (by decide +kernel)) (
  And.intro (sd_sld rfl (by decide +kernel) (by decide +kernel)) (
  And.intro (sd_aload_n (k := 0) rfl (by decide +kernel) (by decide +kernel)) (
  And.intro (sd_iload_n (k := 3) rfl (by decide +kernel) (by decide +kernel)) (
  And.intro (sd_iconst (n := 2) (by decide) (by decide +kernel) (by decide +kernel)) (
  And.intro (sd_iadd (by decide +kernel) (by decide +kernel)) (
  And.intro (sd_sld rfl (by decide +kernel) (by decide +kernel)) (
  And.intro (sd_aload_n (k := 0) rfl (by decide +kernel) (by decide +kernel)) (
  And.intro (sd_iload_n (k := 3) rfl (by decide +kernel) (by decide +kernel)) (
  And.intro (sd_iconst (n := 3) (by decide) (by decide +kernel) (by decide +kernel)) (
  And.intro (sd_iadd (by decide +kernel) (by decide +kernel)) (
  And.intro (sd_sld rfl (by decide +kernel) (by decide +kernel)) (
  And.intro (sd_VI mg_220 (by decide +kernel) wm_8_114 wn_220 wv_220 rfl rfl (by decide +kernel)) (
  And.intro (sd_ieq (off := 249) (by decide +kernel) (by decide +kernel) (by decide +kernel)) (
  And.intro (sd_iconst (n := 0) (by decide) (by decide +kernel) (by decide +kernel)) (
  And.intro (sd_zret (by decide +kernel) rfl) (
  And.intro (sd_aload_n (k := 1) rfl (by decide +kernel) (by decide +kernel)) (
  And.intro (sd_aload_n (k := 0) rfl (by decide +kernel) (by decide +kernel)) (
  And.intro (sd_iload_n (k := 3) rfl (by decide +kernel) (by decide +kernel)) (
  And.intro (sd_iconst (n := 1) (by decide) (by decide +kernel) (by decide +kernel)) (
  And.intro (sd_iadd (by decide +kernel) (by decide +kernel)) (
  And.intro (sd_sld rfl (by decide +kernel) (by decide +kernel)) (
  And.intro (sd_aload_n (k := 0) rfl (by decide +kernel) (by decide +kernel)) (
  And.intro (sd_iload_n (k := 3) rfl (by decide +kernel) (by decide +kernel)) (
  And.intro (sd_iconst (n := 2) (by decide) (by decide +kernel) (by decide +kernel)) (
  And.intro (sd_iadd (by decide +kernel) (by decide +kernel)) (
  And.intro (sd_sld rfl (by decide +kernel) (by decide +kernel)) (
  And.intro (sd_aload_n (k := 0) rfl (by decide +kernel) (by decide +kernel)) (
  And.intro (sd_iload_n (k := 3) rfl (by decide +kernel) (by decide +kernel)) (
  And.intro (sd_iconst (n := 3) (by decide) (by decide +kernel) (by decide +kernel)) (
  And.intro (sd_iadd (by decide +kernel) (by decide +kernel)) (
  And.intro (sd_sld rfl (by decide +kernel) (by decide +kernel)) (
  And.intro (sd_VI mg_107 (by decide +kernel) wm_8_115 wn_107 wv_107 rfl rfl (by decide +kernel)) (
  And.intro (sd_aload_n (k := 2) rfl (by decide +kernel) (by decide +kernel)) (
  And.intro (sd_aload_n (k := 0) rfl (by decide +kernel) (by decide +kernel)) (
  And.intro (sd_iload_n (k := 3) rfl (by decide +kernel) (by decide +kernel)) (
  And.intro (sd_iconst (n := 1) (by decide) (by decide +kernel) (by decide +kernel)) (
  And.intro (sd_iadd (by decide +kernel) (by decide +kernel)) (
  And.intro (sd_sld rfl (by decide +kernel) (by decide +kernel)) (
  And.intro (sd_aload_n (k := 0) rfl (by decide +kernel) (by decide +kernel)) (
  And.intro (sd_iload_n (k := 3) rfl (by decide +kernel) (by decide +kernel)) (
  And.intro (sd_iconst (n := 2) (by decide) (by decide +kernel) (by decide +kernel)) (
  And.intro (sd_iadd (by decide +kernel) (by decide +kernel)) (
  And.intro (sd_sld rfl (by decide +kernel) (by decide +kernel)) (
  And.intro (sd_aload_n (k := 0) rfl (by decide +kernel) (by decide +kernel)) (
  And.intro (sd_iload_n (k := 3) rfl (by decide +kernel) (by decide +kernel)) (
  And.intro (sd_iconst (n := 3) (by decide) (by decide +kernel) (by decide +kernel)) (
  And.intro (sd_iadd (by decide +kernel) (by decide +kernel)) (
  And.intro (sd_sld rfl (by decide +kernel) (by decide +kernel)) (
  And.intro (sd_VI mg_221 (by decide +kernel) wm_8_118 wn_221 wv_221 rfl rfl (by decide +kernel)) (
  And.intro (sd_ieq (off := 206) (by decide +kernel) (by decide +kernel) (by decide +kernel)) (
  And.intro (sd_iconst (n := 0) (by decide) (by decide +kernel) (by decide +kernel)) (
  And.intro (sd_zret (by decide +kernel) rfl) (
  And.intro (sd_aload_n (k := 1) rfl (by decide +kernel) (by decide +kernel)) (
  And.intro (sd_aload_n (k := 0) rfl (by decide +kernel) (by decide +kernel)) (
  And.intro (sd_iload_n (k := 3) rfl (by decide +kernel) (by decide +kernel)) (
  And.intro (sd_iconst (n := 1) (by decide) (by decide +kernel) (by decide +kernel)) (
  And.intro (sd_iadd (by decide +kernel) (by decide +kernel)) (
  And.intro (sd_sld rfl (by decide +kernel) (by decide +kernel)) (
  And.intro (sd_VI mg_108 (by decide +kernel) wm_8_119 wn_108 wv_108 rfl rfl (by decide +kernel)) (
  And.intro (sd_aload_n (k := 2) rfl (by decide +kernel) (by decide +kernel)) (
  And.intro (sd_aload_n (k := 0) rfl (by decide +kernel) (by decide +kernel)) (
  And.intro (sd_iload_n (k := 3) rfl (by decide +kernel) (by decide +kernel)) (
  And.intro (sd_iconst (n := 1) (by decide) (by decide +kernel) (by decide +kernel)) (
  And.intro (sd_iadd (by decide +kernel) (by decide +kernel)) (
  And.intro (sd_sld rfl (by decide +kernel) (by decide +kernel)) (
  And.intro (sd_VI mg_223 (by decide +kernel) wm_8_122 wn_223 wv_223 rfl rfl (by decide +kernel)) (
  And.intro (sd_ieq (off := 183) (by decide +kernel) (by decide +kernel) (by decide +kernel)) (
  And.intro (sd_iconst (n := 0) (by decide) (by decide +kernel) (by decide +kernel)) (
  And.intro (sd_zret (by decide +kernel) rfl) (
  And.intro (sd_aload_n (k := 1) rfl (by decide +kernel) (by decide +kernel)) (
  And.intro (sd_aload_n (k := 0) rfl (by decide +kernel) (by decide +kernel)) (
  And.intro (sd_iload_n (k := 3) rfl (by decide +kernel) (by decide +kernel)) (
  And.intro (sd_iconst (n := 1) (by decide) (by decide +kernel) (by decide +kernel)) (
  And.intro (sd_iadd (by decide +kernel) (by decide +kernel)) (
  And.intro (sd_sld rfl (by decide +kernel) (by decide +kernel)) (
  And.intro (sd_aload_n (k := 0) rfl (by decide +kernel) (by decide +kernel)) (
  And.intro (sd_iload_n (k := 3) rfl (by decide +kernel) (by decide +kernel)) (
  And.intro (sd_iconst (n := 2) (by decide) (by decide +kernel) (by decide +kernel)) (
  And.intro (sd_iadd (by decide +kernel) (by decide +kernel)) (
  And.intro (sd_sld rfl (by decide +kernel) (by decide +kernel)) (
  And.intro (sd_VI mg_109 (by decide +kernel) wm_8_123 wn_109 wv_109 rfl rfl (by decide +kernel)) (
  And.intro (sd_aload_n (k := 2) rfl (by decide +kernel) (by decide +kernel)) (
  And.intro (sd_aload_n (k := 0) rfl (by decide +kernel) (by decide +kernel)) (
  And.intro (sd_iload_n (k := 3) rfl (by decide +kernel) (by decide +kernel)) (
  And.intro (sd_iconst (n := 1) (by decide) (by decide +kernel) (by decide +kernel)) (
  And.intro (sd_iadd (by decide +kernel) (by decide +kernel)) (
  And.intro (sd_sld rfl (by decide +kernel) (by decide +kernel)) (
  And.intro (sd_aload_n (k := 0) rfl (by decide +kernel) (by decide +kernel)) (
  And.intro (sd_iload_n (k := 3) rfl (by decide +kernel) (by decide +kernel)) (
  And.intro (sd_iconst (n := 2) (by decide) (by decide +kernel) (by decide +kernel)) (
  And.intro (sd_iadd (by decide +kernel) (by decide +kernel)) (
  And.intro (sd_sld rfl (by decide +kernel) (by decide +kernel)) (
  And.intro (sd_VI mg_225 (by decide +kernel) wm_8_126 wn_225 wv_225 rfl rfl (by decide +kernel)) (
  And.intro (sd_ieq (off := 150) (by decide +kernel) (by decide +kernel) (by decide +kernel)) (
  And.intro (sd_iconst (n := 0) (by decide) (by decide +kernel) (by decide +kernel)) (
  And.intro (sd_zret (by decide +kernel) rfl) (
  And.intro (sd_aload_n (k := 1) rfl (by decide +kernel) (by decide +kernel)) (
  And.intro (sd_aload_n (k := 0) rfl (by decide +kernel) (by decide +kernel)) (
  And.intro (sd_iload_n (k := 3) rfl (by decide +kernel) (by decide +kernel)) (
  And.intro (sd_iconst (n := 1) (by decide) (by decide +kernel) (by decide +kernel)) (
  And.intro (sd_iadd (by decide +kernel) (by decide +kernel)) (
  And.intro (sd_sld rfl (by decide +kernel) (by decide +kernel)) (
  And.intro (sd_VI mg_110 (by decide +kernel) wm_8_127 wn_110 wv_110 rfl rfl (by decide +kernel)) (
  And.intro (sd_aload_n (k := 2) rfl (by decide +kernel) (by decide +kernel)) (
  And.intro (sd_aload_n (k := 0) rfl (by decide +kernel) (by decide +kernel)) (
  And.intro (sd_iload_n (k := 3) rfl (by decide +kernel) (by decide +kernel)) (
  And.intro (sd_iconst (n := 1) (by decide) (by decide +kernel) (by decide +kernel)) (
  And.intro (sd_iadd (by decide +kernel) (by decide +kernel)) (
  And.intro (sd_sld rfl (by decide +kernel) (by decide +kernel)) (
  And.intro (sd_VI mg_226 (by decide +kernel) wm_8_130 wn_226 wv_226 rfl rfl (by decide +kernel)) (
  And.intro (sd_ieq (off := 127) (by decide +kernel) (by decide +kernel) (by decide +kernel)) (
  And.intro (sd_iconst (n := 0) (by decide) (by decide +kernel) (by decide +kernel)) (
  And.intro (sd_zret (by decide +kernel) rfl) (
  And.intro (sd_aload_n (k := 1) rfl (by decide +kernel) (by decide +kernel)) (
  And.intro (sd_aload_n (k := 0) rfl (by decide +kernel) (by decide +kernel)) (
  And.intro (sd_iload_n (k := 3) rfl (by decide +kernel) (by decide +kernel)) (
  And.intro (sd_iconst (n := 1) (by decide) (by decide +kernel) (by decide +kernel)) (
  And.intro (sd_iadd (by decide +kernel) (by decide +kernel)) (
  And.intro (sd_sld rfl (by decide +kernel) (by decide +kernel)) (
  And.intro (sd_aload_n (k := 0) rfl (by decide +kernel) (by decide +kernel)) (
  And.intro (sd_iload_n (k := 3) rfl (by decide +kernel) (by decide +kernel)) (
  And.intro (sd_iconst (n := 2) (by decide) (by decide +kernel) (by decide +kernel)) (
  And.intro (sd_iadd (by decide +kernel) (by decide +kernel)) (
  And.intro (sd_sld rfl (by decide +kernel) (by decide +kernel)) (
  And.intro (sd_aload_n (k := 0) rfl (by decide +kernel) (by decide +kernel)) (
  And.intro (sd_iload_n (k := 3) rfl (by decide +kernel) (by decide +kernel)) (
  And.intro (sd_iconst (n := 3) (by decide) (by decide +kernel) (by decide +kernel)) (
  And.intro (sd_iadd (by decide +kernel) (by decide +kernel)) (
  And.intro (sd_sld rfl (by decide +kernel) (by decide +kernel)) (
  And.intro (sd_aload_n (k := 0) rfl (by decide +kernel) (by decide +kernel)) (
  And.intro (sd_iload_n (k := 3) rfl (by decide +kernel) (by decide +kernel)) (
  And.intro (sd_iconst (n := 4) (by decide) (by decide +kernel) (by decide +kernel)) (
  And.intro (sd_iadd (by decide +kernel) (by decide +kernel)) (
  And.intro (sd_sld rfl (by decide +kernel) (by decide +kernel)) (
  And.intro (sd_VI mg_111 (by decide +kernel) wm_8_131 wn_111 wv_111 rfl rfl (by decide +kernel)) (
  And.intro (sd_aload_n (k := 2) rfl (by decide +kernel) (by decide +kernel)) (
  And.intro (sd_aload_n (k := 0) rfl (by decide +kernel) (by decide +kernel)) (
  And.intro (sd_iload_n (k := 3) rfl (by decide +kernel) (by decide +kernel)) (
  And.intro (sd_iconst (n := 1) (by decide) (by decide +kernel) (by decide +kernel)) (
  And.intro (sd_iadd (by decide +kernel) (by decide +kernel)) (
  And.intro (sd_sld rfl (by decide +kernel) (by decide +kernel)) (
  And.intro (sd_aload_n (k := 0) rfl (by decide +kernel) (by decide +kernel)) (
  And.intro (sd_iload_n (k := 3) rfl (by decide +kernel) (by decide +kernel)) (
  And.intro (sd_iconst (n := 2) (by decide) (by decide +kernel) (by decide +kernel)) (
  And.intro (sd_iadd (by decide +kernel) (by decide +kernel)) (
  And.intro (sd_sld rfl (by decide +kernel) (by decide +kernel)) (
  And.intro (sd_aload_n (k := 0) rfl (by decide +kernel) (by decide +kernel)) (
  And.intro (sd_iload_n (k := 3) rfl (by decide +kernel) (by decide +kernel)) (
  And.intro (sd_iconst (n := 3) (by decide) (by decide +kernel) (by decide +kernel)) (
  And.intro (sd_iadd (by decide +kernel) (by decide +kernel)) (
  And.intro (sd_sld rfl (by decide +kernel) (by decide +kernel)) (
  And.intro (sd_aload_n (k := 0) rfl (by decide +kernel) (by decide +kernel)) (
  And.intro (sd_iload_n (k := 3) rfl (by decide +kernel) (by decide +kernel)) (
  And.intro (sd_iconst (n := 4) (by decide) (by decide +kernel) (by decide +kernel)) (
  And.intro (sd_iadd (by decide +kernel) (by decide +kernel)) (
  And.intro (sd_sld rfl (by decide +kernel) (by decide +kernel)) (
  And.intro (sd_VI mg_229 (by decide +kernel) wm_8_135 wn_229 wv_229 rfl rfl (by decide +kernel)) (
  And.intro (sd_ieq (off := 74) (by decide +kernel) (by decide +kernel) (by decide +kernel)) (
  And.intro (sd_iconst (n := 0) (by decide) (by decide +kernel) (by decide +kernel)) (
  And.intro (sd_zret (by decide +kernel) rfl) (
  And.intro (sd_aload_n (k := 1) rfl (by decide +kernel) (by decide +kernel)) (
  And.intro (sd_aload_n (k := 0) rfl (by decide +kernel) (by decide +kernel)) (
  And.intro (sd_iload_n (k := 3) rfl (by decide +kernel) (by decide +kernel)) (
  And.intro (sd_iconst (n := 1) (by decide) (by decide +kernel) (by decide +kernel)) (
  And.intro (sd_iadd (by decide +kernel) (by decide +kernel)) (
  And.intro (sd_sld rfl (by decide +kernel) (by decide +kernel)) (
  And.intro (sd_VI mg_90 (by decide +kernel) wm_8_136 wn_90 wv_90 rfl rfl (by decide +kernel)) (
  And.intro (sd_aload_n (k := 2) rfl (by decide +kernel) (by decide +kernel)) (
  And.intro (sd_aload_n (k := 0) rfl (by decide +kernel) (by decide +kernel)) (
  And.intro (sd_iload_n (k := 3) rfl (by decide +kernel) (by decide +kernel)) (
  And.intro (sd_iconst (n := 1) (by decide) (by decide +kernel) (by decide +kernel)) (
  And.intro (sd_iadd (by decide +kernel) (by decide +kernel)) (
  And.intro (sd_sld rfl (by decide +kernel) (by decide +kernel)) (
  And.intro (sd_VI mg_231 (by decide +kernel) wm_8_139 wn_231 wv_231 rfl rfl (by decide +kernel)) (
  And.intro (sd_ieq (off := 51) (by decide +kernel) (by decide +kernel) (by decide +kernel)) (
  And.intro (sd_iconst (n := 0) (by decide) (by decide +kernel) (by decide +kernel)) (
  And.intro (sd_zret (by decide +kernel) rfl) (
  And.intro (sd_aload_n (k := 1) rfl (by decide +kernel) (by decide +kernel)) (
  And.intro (sd_aload_n (k := 0) rfl (by decide +kernel) (by decide +kernel)) (
  And.intro (sd_iload_n (k := 3) rfl (by decide +kernel) (by decide +kernel)) (
  And.intro (sd_iconst (n := 1) (by decide) (by decide +kernel) (by decide +kernel)) (
  And.intro (sd_iadd (by decide +kernel) (by decide +kernel)) (
  And.intro (sd_sld rfl (by decide +kernel) (by decide +kernel)) (
  And.intro (sd_VI mg_112 (by decide +kernel) wm_8_140 wn_112 wv_112 rfl rfl (by decide +kernel)) (
  And.intro (sd_aload_n (k := 2) rfl (by decide +kernel) (by decide +kernel)) (
  And.intro (sd_aload_n (k := 0) rfl (by decide +kernel) (by decide +kernel)) (
  And.intro (sd_iload_n (k := 3) rfl (by decide +kernel) (by decide +kernel)) (
  And.intro (sd_iconst (n := 1) (by decide) (by decide +kernel) (by decide +kernel)) (
  And.intro (sd_iadd (by decide +kernel) (by decide +kernel)) (
  And.intro (sd_sld rfl (by decide +kernel) (by decide +kernel)) (
  And.intro (sd_VI mg_234 (by decide +kernel) wm_8_143 wn_234 wv_234 rfl rfl (by decide +kernel)) (
  And.intro (sd_ieq (off := 28) (by decide +kernel) (by decide +kernel) (by decide +kernel)) (
  And.intro (sd_iconst (n := 0) (by decide) (by decide +kernel) (by decide +kernel)) (
  And.intro (sd_zret (by decide +kernel) rfl) (
  And.intro (sd_aload_n (k := 1) rfl (by decide +kernel) (by decide +kernel)) (
  And.intro (sd_aload_n (k := 0) rfl (by decide +kernel) (by decide +kernel)) (
  And.intro (sd_iload_n (k := 3) rfl (by decide +kernel) (by decide +kernel)) (
  And.intro (sd_iconst (n := 1) (by decide) (by decide +kernel) (by decide +kernel)) (
  And.intro (sd_iadd (by decide +kernel) (by decide +kernel)) (
  And.intro (sd_sld rfl (by decide +kernel) (by decide +kernel)) (
  And.intro (sd_VI mg_113 (by decide +kernel) wm_8_144 wn_113 wv_113 rfl rfl (by decide +kernel)) (
  And.intro (sd_aload_n (k := 2) rfl (by decide +kernel) (by decide +kernel)) (
  And.intro (sd_aload_n (k := 0) rfl (by decide +kernel) (by decide +kernel)) (
  And.intro (sd_iload_n (k := 3) rfl (by decide +kernel) (by decide +kernel)) (
  And.intro (sd_iconst (n := 1) (by decide) (by decide +kernel) (by decide +kernel)) (
  And.intro (sd_iadd (by decide +kernel) (by decide +kernel)) (
  And.intro (sd_sld rfl (by decide +kernel) (by decide +kernel)) (
  And.intro (sd_VI mg_235 (by decide +kernel) wm_8_147 wn_235 wv_235 rfl rfl (by decide +kernel)) (
  And.intro (sd_ieq (off := 5) (by decide +kernel) (by decide +kernel) (by decide +kernel)) (
  And.intro (sd_iconst (n := 0) (by decide) (by decide +kernel) (by decide +kernel)) (
  And.intro (sd_zret (by decide +kernel) rfl) (
  And.intro (sd_ms _ (sd_iinc (n := 6) (by decide) (by decide) (by decide +kernel) (by decide +kernel))) (
  And.intro (sd_go (off := (-1117)) (by decide +kernel) (by decide +kernel)) (
  And.intro (sd_iconst (n := 1) (by decide) (by decide +kernel) (by decide +kernel)) (
  And.intro (sd_zret (by decide +kernel) rfl) (
  trivial))))))))))))))))))))))))))))))))))))))))))))))))))))))))))))))))))))))))))))))))))))))))))))))))))))))))))))))))))))))))))))))))))))))))))))))))))))))))))))))))))))))))))))))))))))))))))))))))))))))))))))))))))))))))))))))))))))))))))))))))))))))))))))))))))))))))))))))))))))))))))))))))))))))))))))))))))))))))))))))))))))))))))))))))))))))))))))))))))))))))))))))))))))))))))))))))))))))))))))))))))))))))))))))))))))))))))))))))))))))))))))))))))))))))))))))))))))))))))))))))))))))))))))))))))))))))))))))))))))))))))))))))))))))))))))))))))))))))))))))))))))))))))))))))))))))))))))))))))))))))))))))))))))))))))))))))))))))))))))))))))))))))))))))))))))))))))))))))))))))))))))))))))))))))))))))))))))))))))))))))))))))))))))))))))))))))))))))))))))))))))))))))))))))))))))))))))))))
set_option maxRecDepth 100000 in
set_option maxHeartbeats 8000000 in
theorem sn_1 : Sns 1 0 tRo_init := And.intro (sd_aload_n (k := 0) rfl (by decide +kernel) (by decide +kernel)) (
  And.intro (sd_obj wm_0_3 wo_1 wo_2 (by decide +kernel) (by decide +kernel)) (
  And.intro (sd_aload_n (k := 0) rfl (by decide +kernel) (by decide +kernel)) (
  And.intro (sd_iconst (n := 0) (by decide) (by decide +kernel) (by decide +kernel)) (
  And.intro (sd_putZ cf0 (by decide) (by decide) rfl rfl wf_0_9 (by decide +kernel) (by decide +kernel)) (
  And.intro (sd_aload_n (k := 0) rfl (by decide +kernel) (by decide +kernel)) (
  And.intro (sd_iconst (n := 0) (by decide) (by decide +kernel) (by decide +kernel)) (
  And.intro (sd_putI cf0 (by decide) (by decide) rfl rfl wf_0_15 (by decide +kernel) (by decide +kernel)) (
  And.intro (sd_aload_n (k := 0) rfl (by decide +kernel) (by decide +kernel)) (
  And.intro (sd_iconst (n := 0) (by decide) (by decide +kernel) (by decide +kernel)) (
  And.intro (sd_putI cf0 (by decide) (by decide) rfl rfl wf_0_19 (by decide +kernel) (by decide +kernel)) (
  And.intro (sd_aload_n (k := 0) rfl (by decide +kernel) (by decide +kernel)) (
  And.intro (sd_iconst (n := 0) (by decide) (by decide +kernel) (by decide +kernel)) (
  And.intro (sd_putI cf0 (by decide) (by decide) rfl rfl wf_0_22 (by decide +kernel) (by decide +kernel)) (
  And.intro (sd_aload_n (k := 0) rfl (by decide +kernel) (by decide +kernel)) (
  And.intro (sd_iconst (n := 0) (by decide) (by decide +kernel) (by decide +kernel)) (
  And.intro (sd_putI cf0 (by decide) (by decide) rfl rfl wf_0_25 (by decide +kernel) (by decide +kernel)) (
  And.intro (sd_aload_n (k := 0) rfl (by decide +kernel) (by decide +kernel)) (
  And.intro (sd_bipush (n := 8) (by decide) (by decide +kernel) (by decide +kernel)) (
  And.intro (sd_newa1 (by decide +kernel) wa_1 (by decide +kernel)) (
  And.intro (sd_putR cf0 (by decide) (by decide) (Or.inl ⟨_, rfl⟩) rfl (by decide +kernel) (by decide +kernel) wf_0_28 (by decide +kernel) (by decide +kernel)) (
  And.intro (sd_aload_n (k := 0) rfl (by decide +kernel) (by decide +kernel)) (
  And.intro (sd_bipush (n := 64) (by decide) (by decide +kernel) (by decide +kernel)) (
  And.intro (sd_newa1 (by decide +kernel) wa_1 (by decide +kernel)) (
  And.intro (sd_putR cf0 (by decide) (by decide) (Or.inl ⟨_, rfl⟩) rfl (by decide +kernel) (by decide +kernel) wf_0_32 (by decide +kernel) (by decide +kernel)) (
  And.intro (sd_aload_n (k := 0) rfl (by decide +kernel) (by decide +kernel)) (
  And.intro (sd_bipush (n := 64) (by decide) (by decide +kernel) (by decide +kernel)) (
  And.intro (sd_newa1 (by decide +kernel) wa_1 (by decide +kernel)) (
  And.intro (sd_putR cf0 (by decide) (by decide) (Or.inl ⟨_, rfl⟩) rfl (by decide +kernel) (by decide +kernel) wf_0_35 (by decide +kernel) (by decide +kernel)) (
  And.intro (sd_aload_n (k := 0) rfl (by decide +kernel) (by decide +kernel)) (
  And.intro (sd_bipush (n := 8) (by decide) (by decide +kernel) (by decide +kernel)) (
  And.intro (sd_newa1 (by decide +kernel) wa_1 (by decide +kernel)) (
  And.intro (sd_putR cf0 (by decide) (by decide) (Or.inl ⟨_, rfl⟩) rfl (by decide +kernel) (by decide +kernel) wf_0_38 (by decide +kernel) (by decide +kernel)) (
  And.intro (sd_aload_n (k := 0) rfl (by decide +kernel) (by decide +kernel)) (
  And.intro (sd_bipush (n := 6) (by decide) (by decide +kernel) (by decide +kernel)) (
  And.intro (sd_newa1 (by decide +kernel) wa_1 (by decide +kernel)) (
  And.intro (sd_putR cf0 (by decide) (by decide) (Or.inl ⟨_, rfl⟩) rfl (by decide +kernel) (by decide +kernel) wf_0_41 (by decide +kernel) (by decide +kernel)) (
  And.intro (sd_aload_n (k := 0) rfl (by decide +kernel) (by decide +kernel)) (
  And.intro (sd_bipush (n := 6) (by decide) (by decide +kernel) (by decide +kernel)) (
  And.intro (sd_newa1 (by decide +kernel) wa_1 (by decide +kernel)) (
  And.intro (sd_putR cf0 (by decide) (by decide) (Or.inl ⟨_, rfl⟩) rfl (by decide +kernel) (by decide +kernel) wf_0_44 (by decide +kernel) (by decide +kernel)) (
  And.intro (sd_aload_n (k := 0) rfl (by decide +kernel) (by decide +kernel)) (
  And.intro (sd_bipush (n := 6) (by decide) (by decide +kernel) (by decide +kernel)) (
  And.intro (sd_newa1 (by decide +kernel) wa_1 (by decide +kernel)) (
  And.intro (sd_putR cf0 (by decide) (by decide) (Or.inl ⟨_, rfl⟩) rfl (by decide +kernel) (by decide +kernel) wf_0_47 (by decide +kernel) (by decide +kernel)) (
  And.intro (sd_aload_n (k := 0) rfl (by decide +kernel) (by decide +kernel)) (
  And.intro (sd_iconst (n := 3) (by decide) (by decide +kernel) (by decide +kernel)) (
  And.intro (sd_newa1 (by decide +kernel) wa_1 (by decide +kernel)) (
  And.intro (sd_putR cf0 (by decide) (by decide) (Or.inl ⟨_, rfl⟩) rfl (by decide +kernel) (by decide +kernel) wf_0_50 (by decide +kernel) (by decide +kernel)) (
  And.intro (sd_vret (by decide +kernel) rfl) (
  trivial))))))))))))))))))))))))))))))))))))))))))))))))))
set_option maxRecDepth 100000 in
set_option maxHeartbeats 8000000 in
theorem sn_2 : Sns 2 0 tRo_copyFrom := And.intro (sd_aload_n (k := 0) rfl (by decide +kernel) (by decide +kernel)) (
  And.intro (sd_aload_n (k := 1) rfl (by decide +kernel) (by decide +kernel)) (
  And.intro (sd_getI cf0 (by decide) (by decide) wf_0_9 (by decide +kernel) (by decide +kernel)) (
  And.intro (sd_putZ cf0 (by decide) (by decide) rfl rfl wf_0_9 (by decide +kernel) (by decide +kernel)) (
  And.intro (sd_aload_n (k := 0) rfl (by decide +kernel) (by decide +kernel)) (
  And.intro (sd_aload_n (k := 1) rfl (by decide +kernel) (by decide +kernel)) (
  And.intro (sd_getI cf0 (by decide) (by decide) wf_0_15 (by decide +kernel) (by decide +kernel)) (
  And.intro (sd_putI cf0 (by decide) (by decide) rfl rfl wf_0_15 (by decide +kernel) (by decide +kernel)) (
  And.intro (sd_aload_n (k := 0) rfl (by decide +kernel) (by decide +kernel)) (
  And.intro (sd_aload_n (k := 1) rfl (by decide +kernel) (by decide +kernel)) (
  And.intro (sd_getI cf0 (by decide) (by decide) wf_0_19 (by decide +kernel) (by decide +kernel)) (
  And.intro (sd_putI cf0 (by decide) (by decide) rfl rfl wf_0_19 (by decide +kernel) (by decide +kernel)) (
  And.intro (sd_aload_n (k := 0) rfl (by decide +kernel) (by decide +kernel)) (
  And.intro (sd_aload_n (k := 1) rfl (by decide +kernel) (by decide +kernel)) (
  And.intro (sd_getI cf0 (by decide) (by decide) wf_0_22 (by decide +kernel) (by decide +kernel)) (
  And.intro (sd_putI cf0 (by decide) (by decide) rfl rfl wf_0_22 (by decide +kernel) (by decide +kernel)) (
  And.intro (sd_aload_n (k := 0) rfl (by decide +kernel) (by decide +kernel)) (
  And.intro (sd_aload_n (k := 1) rfl (by decide +kernel) (by decide +kernel)) (
  And.intro (sd_getI cf0 (by decide) (by decide) wf_0_25 (by decide +kernel) (by decide +kernel)) (
  And.intro (sd_putI cf0 (by decide) (by decide) rfl rfl wf_0_25 (by decide +kernel) (by decide +kernel)) (
  And.intro (sd_aload_n (k := 1) rfl (by decide +kernel) (by decide +kernel)) (
  And.intro (sd_getR cf0 (by decide) (by decide) wf_0_28 (by decide +kernel) (by decide +kernel)) (
  And.intro (sd_iconst (n := 0) (by decide) (by decide +kernel) (by decide +kernel)) (
  And.intro (sd_aload_n (k := 0) rfl (by decide +kernel) (by decide +kernel)) (
  And.intro (sd_getR cf0 (by decide) (by decide) wf_0_28 (by decide +kernel) (by decide +kernel)) (
  And.intro (sd_iconst (n := 0) (by decide) (by decide +kernel) (by decide +kernel)) (
  And.intro (sd_bipush (n := 8) (by decide) (by decide +kernel) (by decide +kernel)) (
  And.intro (sd_copy wm_0_53 wo_3 wo_4 wo_5 (by decide +kernel) (by decide +kernel)) (
  And.intro (sd_aload_n (k := 1) rfl (by decide +kernel) (by decide +kernel)) (
  And.intro (sd_getR cf0 (by decide) (by decide) wf_0_32 (by decide +kernel) (by decide +kernel)) (
  And.intro (sd_iconst (n := 0) (by decide) (by decide +kernel) (by decide +kernel)) (
  And.intro (sd_aload_n (k := 0) rfl (by decide +kernel) (by decide +kernel)) (
  And.intro (sd_getR cf0 (by decide) (by decide) wf_0_32 (by decide +kernel) (by decide +kernel)) (
  And.intro (sd_iconst (n := 0) (by decide) (by decide +kernel) (by decide +kernel)) (
  And.intro (sd_bipush (n := 64) (by decide) (by decide +kernel) (by decide +kernel)) (
  And.intro (sd_copy wm_0_53 wo_3 wo_4 wo_5 (by decide +kernel) (by decide +kernel)) (
  And.intro (sd_aload_n (k := 1) rfl (by decide +kernel) (by decide +kernel)) (
  And.intro (sd_getR cf0 (by decide) (by decide) wf_0_35 (by decide +kernel) (by decide +kernel)) (
  And.intro (sd_iconst (n := 0) (by decide) (by decide +kernel) (by decide +kernel)) (
  And.intro (sd_aload_n (k := 0) rfl (by decide +kernel) (by decide +kernel)) (
  And.intro (sd_getR cf0 (by decide) (by decide) wf_0_35 (by decide +kernel) (by decide +kernel)) (
  And.intro (sd_iconst (n := 0) (by decide) (by decide +kernel) (by decide +kernel)) (
  And.intro (sd_bipush (n := 64) (by decide) (by decide +kernel) (by decide +kernel)) (
  And.intro (sd_copy wm_0_53 wo_3 wo_4 wo_5 (by decide +kernel) (by decide +kernel)) (
  And.intro (sd_aload_n (k := 1) rfl (by decide +kernel) (by decide +kernel)) (
  And.intro (sd_getR cf0 (by decide) (by decide) wf_0_38 (by decide +kernel) (by decide +kernel)) (
  And.intro (sd_iconst (n := 0) (by decide) (by decide +kernel) (by decide +kernel)) (
  And.intro (sd_aload_n (k := 0) rfl (by decide +kernel) (by decide +kernel)) (
  And.intro (sd_getR cf0 (by decide) (by decide) wf_0_38 (by decide +kernel) (by decide +kernel)) (
  And.intro (sd_iconst (n := 0) (by decide) (by decide +kernel) (by decide +kernel)) (
  And.intro (sd_bipush (n := 8) (by decide) (by decide +kernel) (by decide +kernel)) (
  And.intro (sd_copy wm_0_53 wo_3 wo_4 wo_5 (by decide +kernel) (by decide +kernel)) (
  And.intro (sd_aload_n (k := 1) rfl (by decide +kernel) (by decide +kernel)) (
  And.intro (sd_getR cf0 (by decide) (by decide) wf_0_41 (by decide +kernel) (by decide +kernel)) (
  And.intro (sd_iconst (n := 0) (by decide) (by decide +kernel) (by decide +kernel)) (
  And.intro (sd_aload_n (k := 0) rfl (by decide +kernel) (by decide +kernel)) (
  And.intro (sd_getR cf0 (by decide) (by decide) wf_0_41 (by decide +kernel) (by decide +kernel)) (
  And.intro (sd_iconst (n := 0) (by decide) (by decide +kernel) (by decide +kernel)) (
  And.intro (sd_bipush (n := 6) (by decide) (by decide +kernel) (by decide +kernel)) (
  And.intro (sd_copy wm_0_53 wo_3 wo_4 wo_5 (by decide +kernel) (by decide +kernel)) (
  And.intro (sd_aload_n (k := 1) rfl (by decide +kernel) (by decide +kernel)) (
  And.intro (sd_getR cf0 (by decide) (by decide) wf_0_44 (by decide +kernel) (by decide +kernel)) (
  And.intro (sd_iconst (n := 0) (by decide) (by decide +kernel) (by decide +kernel)) (
  And.intro (sd_aload_n (k := 0) rfl (by decide +kernel) (by decide +kernel)) (
  And.intro (sd_getR cf0 (by decide) (by decide) wf_0_44 (by decide +kernel) (by decide +kernel)) (
  And.intro (sd_iconst (n := 0) (by decide) (by decide +kernel) (by decide +kernel)) (
  And.intro (sd_bipush (n := 6) (by decide) (by decide +kernel) (by decide +kernel)) (
  And.intro (sd_copy wm_0_53 wo_3 wo_4 wo_5 (by decide +kernel) (by decide +kernel)) (
  And.intro (sd_aload_n (k := 1) rfl (by decide +kernel) (by decide +kernel)) (
  And.intro (sd_getR cf0 (by decide) (by decide) wf_0_47 (by decide +kernel) (by decide +kernel)) (
  And.intro (sd_iconst (n := 0) (by decide) (by decide +kernel) (by decide +kernel)) (
  And.intro (sd_aload_n (k := 0) rfl (by decide +kernel) (by decide +kernel)) (
  And.intro (sd_getR cf0 (by decide) (by decide) wf_0_47 (by decide +kernel) (by decide +kernel)) (
  And.intro (sd_iconst (n := 0) (by decide) (by decide +kernel) (by decide +kernel)) (
  And.intro (sd_bipush (n := 6) (by decide) (by decide +kernel) (by decide +kernel)) (
  And.intro (sd_copy wm_0_53 wo_3 wo_4 wo_5 (by decide +kernel) (by decide +kernel)) (
  And.intro (sd_aload_n (k := 1) rfl (by decide +kernel) (by decide +kernel)) (
  And.intro (sd_getR cf0 (by decide) (by decide) wf_0_50 (by decide +kernel) (by decide +kernel)) (
  And.intro (sd_iconst (n := 0) (by decide) (by decide +kernel) (by decide +kernel)) (
  And.intro (sd_aload_n (k := 0) rfl (by decide +kernel) (by decide +kernel)) (
  And.intro (sd_getR cf0 (by decide) (by decide) wf_0_50 (by decide +kernel) (by decide +kernel)) (
  And.intro (sd_iconst (n := 0) (by decide) (by decide +kernel) (by decide +kernel)) (
  And.intro (sd_iconst (n := 3) (by decide) (by decide +kernel) (by decide +kernel)) (
  And.intro (sd_copy wm_0_53 wo_3 wo_4 wo_5 (by decide +kernel) (by decide +kernel)) (
  And.intro (sd_vret (by decide +kernel) rfl) (
  trivial)))))))))))))))))))))))))))))))))))))))))))))))))))))))))))))))))))))))))))))))))))))
set_option maxRecDepth 100000 in
set_option maxHeartbeats 8000000 in
theorem sn_3 : Sns 3 0 tRo_clear := And.intro (sd_aload_n (k := 0) rfl (by decide +kernel) (by decide +kernel)) (
  And.intro (sd_iconst (n := 0) (by decide) (by decide +kernel) (by decide +kernel)) (
  And.intro (sd_putI cf0 (by decide) (by decide) rfl rfl wf_0_15 (by decide +kernel) (by decide +kernel)) (
  And.intro (sd_aload_n (k := 0) rfl (by decide +kernel) (by decide +kernel)) (
  And.intro (sd_iconst (n := 0) (by decide) (by decide +kernel) (by decide +kernel)) (
  And.intro (sd_putI cf0 (by decide) (by decide) rfl rfl wf_0_19 (by decide +kernel) (by decide +kernel)) (
  And.intro (sd_aload_n (k := 0) rfl (by decide +kernel) (by decide +kernel)) (
  And.intro (sd_iconst (n := 0) (by decide) (by decide +kernel) (by decide +kernel)) (
  And.intro (sd_putI cf0 (by decide) (by decide) rfl rfl wf_0_22 (by decide +kernel) (by decide +kernel)) (
  And.intro (sd_aload_n (k := 0) rfl (by decide +kernel) (by decide +kernel)) (
  And.intro (sd_iconst (n := 0) (by decide) (by decide +kernel) (by decide +kernel)) (
  And.intro (sd_putI cf0 (by decide) (by decide) rfl rfl wf_0_25 (by decide +kernel) (by decide +kernel)) (
  And.intro (sd_aload_n (k := 0) rfl (by decide +kernel) (by decide +kernel)) (
  And.intro (sd_getR cf0 (by decide) (by decide) wf_0_28 (by decide +kernel) (by decide +kernel)) (
  And.intro (sd_iconst (n := 0) (by decide) (by decide +kernel) (by decide +kernel)) (
  And.intro (sd_SV mg_236 (by decide +kernel) wm_0_59 wt_236 (by decide +kernel)) (
  And.intro (sd_aload_n (k := 0) rfl (by decide +kernel) (by decide +kernel)) (
  And.intro (sd_getR cf0 (by decide) (by decide) wf_0_32 (by decide +kernel) (by decide +kernel)) (
  And.intro (sd_iconst (n := 0) (by decide) (by decide +kernel) (by decide +kernel)) (
  And.intro (sd_SV mg_236 (by decide +kernel) wm_0_59 wt_236 (by decide +kernel)) (
  And.intro (sd_aload_n (k := 0) rfl (by decide +kernel) (by decide +kernel)) (
  And.intro (sd_getR cf0 (by decide) (by decide) wf_0_38 (by decide +kernel) (by decide +kernel)) (
  And.intro (sd_iconst (n := 0) (by decide) (by decide +kernel) (by decide +kernel)) (
  And.intro (sd_SV mg_236 (by decide +kernel) wm_0_59 wt_236 (by decide +kernel)) (
  And.intro (sd_vret (by decide +kernel) rfl) (
  trivial)))))))))))))))))))))))))
set_option maxRecDepth 100000 in
set_option maxHeartbeats 8000000 in
theorem sn_4 : Sns 4 0 tRo_read := And.intro (sd_aload_n (k := 0) rfl (by decide +kernel) (by decide +kernel)) (
  And.intro (sd_VV mg_3 (by decide +kernel) wm_0_65 wn_3 wv_3 rfl rfl (by decide +kernel)) (
  And.intro (sd_aload_n (k := 1) rfl (by decide +kernel) (by decide +kernel)) (
  And.intro (sd_ldcS (idx := 68) (by decide +kernel) (by decide +kernel) (by decide +kernel)) (
  And.intro (sd_VV mg_49 (by decide +kernel) wm_0_70 wn_49 wv_49 rfl rfl (by decide +kernel)) (
  And.intro (sd_iconst (n := 1) (by decide) (by decide +kernel) (by decide +kernel)) (
  And.intro (sd_istore_n (k := 2) rfl (by decide) (by decide +kernel) (by decide +kernel)) (
  And.intro (sd_iconst (n := 0) (by decide) (by decide +kernel) (by decide +kernel)) (
  And.intro (sd_istore_n (k := 3) rfl (by decide) (by decide +kernel) (by decide +kernel)) (
  And.intro (sd_ms _ (sd_iload_n (k := 3) rfl (by decide +kernel) (by decide +kernel))) (
  And.intro (sd_bipush (n := 40) (by decide) (by decide +kernel) (by decide +kernel)) (
  And.intro (sd_igt (off := 24) (by decide +kernel) (by decide +kernel) (by decide +kernel)) (
  And.intro (sd_iload_n (k := 2) rfl (by decide +kernel) (by decide +kernel)) (
  And.intro (sd_zeq (off := 20) (by decide +kernel) (by decide +kernel) (by decide +kernel)) (
  And.intro (sd_aload_n (k := 0) rfl (by decide +kernel) (by decide +kernel)) (
  And.intro (sd_aload_n (k := 1) rfl (by decide +kernel) (by decide +kernel)) (
  And.intro (sd_iload_n (k := 3) rfl (by decide +kernel) (by decide +kernel)) (
  And.intro (sd_VV mg_5 (by decide +kernel) wm_0_76 wn_5 wv_5 rfl rfl (by decide +kernel)) (
  And.intro (sd_aload_n (k := 1) rfl (by decide +kernel) (by decide +kernel)) (
  And.intro (sd_VI mg_65 (by decide +kernel) wm_0_80 wn_65 wv_65 rfl rfl (by decide +kernel)) (
  And.intro (sd_istore_n (k := 2) rfl (by decide) (by decide +kernel) (by decide +kernel)) (
  And.intro (sd_iinc (n := 1) (by decide) (by decide) (by decide +kernel) (by decide +kernel)) (
  And.intro (sd_go (off := (-24)) (by decide +kernel) (by decide +kernel)) (
  And.intro (sd_aload_n (k := 0) rfl (by decide +kernel) (by decide +kernel)) (
  And.intro (sd_aload_n (k := 1) rfl (by decide +kernel) (by decide +kernel)) (
  And.intro (sd_getI cf4 (by decide) (by decide) wf_0_84 (by decide +kernel) (by decide +kernel)) (
  And.intro (sd_zne (off := 7) (by decide +kernel) (by decide +kernel) (by decide +kernel)) (
  And.intro (sd_iconst (n := 1) (by decide) (by decide +kernel) (by decide +kernel)) (
  And.intro (sd_go (off := 4) (by decide +kernel) (by decide +kernel)) (
  And.intro (sd_iconst (n := 0) (by decide) (by decide +kernel) (by decide +kernel)) (
  And.intro (sd_putZ cf0 (by decide) (by decide) rfl rfl wf_0_9 (by decide +kernel) (by decide +kernel)) (
  And.intro (sd_aload_n (k := 0) rfl (by decide +kernel) (by decide +kernel)) (
  And.intro (sd_VV mg_12 (by decide +kernel) wm_0_87 wn_12 wv_12 rfl rfl (by decide +kernel)) (
  And.intro (sd_aload_n (k := 0) rfl (by decide +kernel) (by decide +kernel)) (
  And.intro (sd_getI cf0 (by decide) (by decide) wf_0_9 (by decide +kernel) (by decide +kernel)) (
  And.intro (sd_zret (by decide +kernel) rfl) (
  trivial))))))))))))))))))))))))))))))))))))
set_option maxRecDepth 100000 in
set_option maxHeartbeats 8000000 in
theorem sn_5 : Sns 5 0 tRo_readClause := And.intro (sd_aload_n (k := 1) rfl (by decide +kernel) (by decide +kernel)) (
  And.intro (sd_VI mg_59 (by decide +kernel) wm_0_90 wn_59 wv_59 rfl rfl (by decide +kernel)) (
  And.intro (sd_istore_n (k := 3) rfl (by decide) (by decide +kernel) (by decide +kernel)) (
  And.intro (sd_iload_n (k := 3) rfl (by decide +kernel) (by decide +kernel)) (
  And.intro (sd_iconst (n := (-1)) (by decide) (by decide +kernel) (by decide +kernel)) (
  And.intro (sd_ine (off := 11) (by decide +kernel) (by decide +kernel) (by decide +kernel)) (
  And.intro (sd_aload_n (k := 1) rfl (by decide +kernel) (by decide +kernel)) (
  And.intro (sd_iconst (n := 0) (by decide) (by decide +kernel) (by decide +kernel)) (
  And.intro (sd_VV mg_63 (by decide +kernel) wm_0_94 wn_63 wv_63 rfl rfl (by decide +kernel)) (
  And.intro (sd_go (off := 56) (by decide +kernel) (by decide +kernel)) (
  And.intro (sd_iload_n (k := 2) rfl (by decide +kernel) (by decide +kernel)) (
  And.intro (sd_bipush (n := 40) (by decide) (by decide +kernel) (by decide +kernel)) (
  And.intro (sd_ige (off := 32) (by decide +kernel) (by decide +kernel) (by decide +kernel)) (
  And.intro (sd_iload_n (k := 3) rfl (by decide +kernel) (by decide +kernel)) (
  And.intro (sd_zne (off := 7) (by decide +kernel) (by decide +kernel) (by decide +kernel)) (
  And.intro (sd_iconst (n := 1) (by decide) (by decide +kernel) (by decide +kernel)) (
  And.intro (sd_go (off := 4) (by decide +kernel) (by decide +kernel)) (
  And.intro (sd_iconst (n := 0) (by decide) (by decide +kernel) (by decide +kernel)) (
  And.intro (sd_iload_n (k := 2) rfl (by decide +kernel) (by decide +kernel)) (
  And.intro (sd_zne (off := 7) (by decide +kernel) (by decide +kernel) (by decide +kernel)) (
  And.intro (sd_iconst (n := 1) (by decide) (by decide +kernel) (by decide +kernel)) (
  And.intro (sd_go (off := 4) (by decide +kernel) (by decide +kernel)) (
  And.intro (sd_iconst (n := 0) (by decide) (by decide +kernel) (by decide +kernel)) (
  And.intro (sd_ine (off := 11) (by decide +kernel) (by decide +kernel) (by decide +kernel)) (
  And.intro (sd_aload_n (k := 0) rfl (by decide +kernel) (by decide +kernel)) (
  And.intro (sd_iload_n (k := 3) rfl (by decide +kernel) (by decide +kernel)) (
  And.intro (sd_VI mg_6 (by decide +kernel) wm_0_98 wn_6 wv_6 rfl rfl (by decide +kernel)) (
  And.intro (sd_zeq (off := 11) (by decide +kernel) (by decide +kernel) (by decide +kernel)) (
  And.intro (sd_aload_n (k := 1) rfl (by decide +kernel) (by decide +kernel)) (
  And.intro (sd_iconst (n := 4) (by decide) (by decide +kernel) (by decide +kernel)) (
  And.intro (sd_VV mg_63 (by decide +kernel) wm_0_94 wn_63 wv_63 rfl rfl (by decide +kernel)) (
  And.intro (sd_go (off := 13) (by decide +kernel) (by decide +kernel)) (
  And.intro (sd_aload_n (k := 1) rfl (by decide +kernel) (by decide +kernel)) (
  And.intro (sd_VV mg_62 (by decide +kernel) wm_0_102 wn_62 wv_62 rfl rfl (by decide +kernel)) (
  And.intro (sd_aload_n (k := 0) rfl (by decide +kernel) (by decide +kernel)) (
  And.intro (sd_aload_n (k := 1) rfl (by decide +kernel) (by decide +kernel)) (
  And.intro (sd_iload_n (k := 3) rfl (by decide +kernel) (by decide +kernel)) (
  And.intro (sd_VV mg_7 (by decide +kernel) wm_0_105 wn_7 wv_7 rfl rfl (by decide +kernel)) (
  And.intro (sd_vret (by decide +kernel) rfl) (
  trivial)))))))))))))))))))))))))))))))))))))))
set_option maxRecDepth 100000 in
set_option maxHeartbeats 8000000 in
theorem sn_6 : Sns 6 0 tRo_hasNoRoom := And.intro (sd_iload_n (k := 1) rfl (by decide +kernel) (by decide +kernel)) (
  And.intro (sd_tab (len := 35) (dflt := 86) (lo := 1) (hi := 5) (offs := #[35, 86, 86, 50, 65]) (by decide +kernel) (by decide +kernel) (by decide +kernel) (by decide +kernel)) (
  And.intro (sd_aload_n (k := 0) rfl (by decide +kernel) (by decide +kernel)) (
  And.intro (sd_getI cf0 (by decide) (by decide) wf_0_19 (by decide +kernel) (by decide +kernel)) (
  And.intro (sd_bipush (n := 8) (by decide) (by decide +kernel) (by decide +kernel)) (
  And.intro (sd_ilt (off := 7) (by decide +kernel) (by decide +kernel) (by decide +kernel)) (
  And.intro (sd_iconst (n := 1) (by decide) (by decide +kernel) (by decide +kernel)) (
  And.intro (sd_go (off := 4) (by decide +kernel) (by decide +kernel)) (
  And.intro (sd_iconst (n := 0) (by decide) (by decide +kernel) (by decide +kernel)) (
  And.intro (sd_zret (by decide +kernel) rfl) (
  And.intro (sd_aload_n (k := 0) rfl (by decide +kernel) (by decide +kernel)) (
  And.intro (sd_getI cf0 (by decide) (by decide) wf_0_22 (by decide +kernel) (by decide +kernel)) (
  And.intro (sd_bipush (n := 6) (by decide) (by decide +kernel) (by decide +kernel)) (
  And.intro (sd_ilt (off := 7) (by decide +kernel) (by decide +kernel) (by decide +kernel)) (
  And.intro (sd_iconst (n := 1) (by decide) (by decide +kernel) (by decide +kernel)) (
  And.intro (sd_go (off := 4) (by decide +kernel) (by decide +kernel)) (
  And.intro (sd_iconst (n := 0) (by decide) (by decide +kernel) (by decide +kernel)) (
  And.intro (sd_zret (by decide +kernel) rfl) (
  And.intro (sd_aload_n (k := 0) rfl (by decide +kernel) (by decide +kernel)) (
  And.intro (sd_getI cf0 (by decide) (by decide) wf_0_25 (by decide +kernel) (by decide +kernel)) (
  And.intro (sd_iconst (n := 3) (by decide) (by decide +kernel) (by decide +kernel)) (
  And.intro (sd_ige (off := 10) (by decide +kernel) (by decide +kernel) (by decide +kernel)) (
  And.intro (sd_aload_n (k := 0) rfl (by decide +kernel) (by decide +kernel)) (
  And.intro (sd_getI cf0 (by decide) (by decide) wf_0_19 (by decide +kernel) (by decide +kernel)) (
  And.intro (sd_zne (off := 7) (by decide +kernel) (by decide +kernel) (by decide +kernel)) (
  And.intro (sd_iconst (n := 1) (by decide) (by decide +kernel) (by decide +kernel)) (
  And.intro (sd_go (off := 4) (by decide +kernel) (by decide +kernel)) (
  And.intro (sd_iconst (n := 0) (by decide) (by decide +kernel) (by decide +kernel)) (
  And.intro (sd_zret (by decide +kernel) rfl) (
  And.intro (sd_iconst (n := 0) (by decide) (by decide +kernel) (by decide +kernel)) (
  And.intro (sd_zret (by decide +kernel) rfl) (
  trivial)))))))))))))))))))))))))))))))
set_option maxRecDepth 100000 in
set_option maxHeartbeats 8000000 in
theorem sn_7 : Sns 7 0 tRo_readNumbers := And.intro (sd_iload_n (k := 2) rfl (by decide +kernel) (by decide +kernel)) (
  And.intro (sd_tab (len := 35) (dflt := 86) (lo := 0) (hi := 4) (offs := #[35, 49, 62, 70, 78]) (by decide +kernel) (by decide +kernel) (by decide +kernel) (by decide +kernel)) (
  And.intro (sd_aload_n (k := 0) rfl (by decide +kernel) (by decide +kernel)) (
  And.intro (sd_aload_n (k := 1) rfl (by decide +kernel) (by decide +kernel)) (
  And.intro (sd_iconst (n := 0) (by decide) (by decide +kernel) (by decide +kernel)) (
  And.intro (sd_bipush (n := 99) (by decide) (by decide +kernel) (by decide +kernel)) (
  And.intro (sd_VI mg_64 (by decide +kernel) wm_0_108 wn_64 wv_64 rfl rfl (by decide +kernel)) (
  And.intro (sd_putI cf0 (by decide) (by decide) rfl rfl wf_0_15 (by decide +kernel) (by decide +kernel)) (
  And.intro (sd_go (off := 45) (by decide +kernel) (by decide +kernel)) (
  And.intro (sd_aload_n (k := 0) rfl (by decide +kernel) (by decide +kernel)) (
  And.intro (sd_dup (by decide +kernel) (by decide +kernel)) (
  And.intro (sd_getI cf0 (by decide) (by decide) wf_0_19 (by decide +kernel) (by decide +kernel)) (
  And.intro (sd_iconst (n := 1) (by decide) (by decide +kernel) (by decide +kernel)) (
  And.intro (sd_iadd (by decide +kernel) (by decide +kernel)) (
  And.intro (sd_putI cf0 (by decide) (by decide) rfl rfl wf_0_19 (by decide +kernel) (by decide +kernel)) (
  And.intro (sd_go (off := 32) (by decide +kernel) (by decide +kernel)) (
  And.intro (sd_aload_n (k := 0) rfl (by decide +kernel) (by decide +kernel)) (
  And.intro (sd_aload_n (k := 1) rfl (by decide +kernel) (by decide +kernel)) (
  And.intro (sd_VV mg_8 (by decide +kernel) wm_0_112 wn_8 wv_8 rfl rfl (by decide +kernel)) (
  And.intro (sd_go (off := 24) (by decide +kernel) (by decide +kernel)) (
  And.intro (sd_aload_n (k := 0) rfl (by decide +kernel) (by decide +kernel)) (
  And.intro (sd_aload_n (k := 1) rfl (by decide +kernel) (by decide +kernel)) (
  And.intro (sd_VV mg_9 (by decide +kernel) wm_0_116 wn_9 wv_9 rfl rfl (by decide +kernel)) (
  And.intro (sd_go (off := 16) (by decide +kernel) (by decide +kernel)) (
  And.intro (sd_aload_n (k := 0) rfl (by decide +kernel) (by decide +kernel)) (
  And.intro (sd_aload_n (k := 1) rfl (by decide +kernel) (by decide +kernel)) (
  And.intro (sd_VV mg_10 (by decide +kernel) wm_0_119 wn_10 wv_10 rfl rfl (by decide +kernel)) (
  And.intro (sd_go (off := 8) (by decide +kernel) (by decide +kernel)) (
  And.intro (sd_aload_n (k := 0) rfl (by decide +kernel) (by decide +kernel)) (
  And.intro (sd_aload_n (k := 1) rfl (by decide +kernel) (by decide +kernel)) (
  And.intro (sd_VV mg_11 (by decide +kernel) wm_0_122 wn_11 wv_11 rfl rfl (by decide +kernel)) (
  And.intro (sd_vret (by decide +kernel) rfl) (
  trivial))))))))))))))))))))))))))))))))
set_option maxRecDepth 100000 in
set_option maxHeartbeats 8000000 in
theorem sn_8 : Sns 8 0 tRo_readShop := And.intro (sd_aload_n (k := 1) rfl (by decide +kernel) (by decide +kernel)) (
  And.intro (sd_iconst (n := 0) (by decide) (by decide +kernel) (by decide +kernel)) (
  And.intro (sd_aload_n (k := 0) rfl (by decide +kernel) (by decide +kernel)) (
  And.intro (sd_getI cf0 (by decide) (by decide) wf_0_19 (by decide +kernel) (by decide +kernel)) (
  And.intro (sd_iconst (n := 1) (by decide) (by decide +kernel) (by decide +kernel)) (
  And.intro (sd_isub (by decide +kernel) (by decide +kernel)) (
  And.intro (sd_VI mg_64 (by decide +kernel) wm_0_108 wn_64 wv_64 rfl rfl (by decide +kernel)) (
  And.intro (sd_istore_n (k := 2) rfl (by decide) (by decide +kernel) (by decide +kernel)) (
  And.intro (sd_aload_n (k := 1) rfl (by decide +kernel) (by decide +kernel)) (
  And.intro (sd_iconst (n := 1) (by decide) (by decide +kernel) (by decide +kernel)) (
  And.intro (sd_bipush (n := 99) (by decide) (by decide +kernel) (by decide +kernel)) (
  And.intro (sd_VI mg_64 (by decide +kernel) wm_0_108 wn_64 wv_64 rfl rfl (by decide +kernel)) (
  And.intro (sd_istore_n (k := 3) rfl (by decide) (by decide +kernel) (by decide +kernel)) (
  And.intro (sd_aload_n (k := 1) rfl (by decide +kernel) (by decide +kernel)) (
  And.intro (sd_getI cf4 (by decide) (by decide) wf_0_84 (by decide +kernel) (by decide +kernel)) (
  And.intro (sd_zne (off := 10) (by decide +kernel) (by decide +kernel) (by decide +kernel)) (
  And.intro (sd_aload_n (k := 0) rfl (by decide +kernel) (by decide +kernel)) (
  And.intro (sd_getR cf0 (by decide) (by decide) wf_0_28 (by decide +kernel) (by decide +kernel)) (
  And.intro (sd_iload_n (k := 2) rfl (by decide +kernel) (by decide +kernel)) (
  And.intro (sd_iload_n (k := 3) rfl (by decide +kernel) (by decide +kernel)) (
  And.intro (sd_iast (by decide +kernel) (by decide +kernel)) (
  And.intro (sd_vret (by decide +kernel) rfl) (
  trivial))))))))))))))))))))))
set_option maxRecDepth 100000 in
set_option maxHeartbeats 8000000 in
theorem sn_9 : Sns 9 0 tRo_readWay := And.intro (sd_aload_n (k := 1) rfl (by decide +kernel) (by decide +kernel)) (
  And.intro (sd_iconst (n := 0) (by decide) (by decide +kernel) (by decide +kernel)) (
  And.intro (sd_aload_n (k := 0) rfl (by decide +kernel) (by decide +kernel)) (
  And.intro (sd_getI cf0 (by decide) (by decide) wf_0_19 (by decide +kernel) (by decide +kernel)) (
  And.intro (sd_iconst (n := 1) (by decide) (by decide +kernel) (by decide +kernel)) (
  And.intro (sd_isub (by decide +kernel) (by decide +kernel)) (
  And.intro (sd_VI mg_64 (by decide +kernel) wm_0_108 wn_64 wv_64 rfl rfl (by decide +kernel)) (
  And.intro (sd_istore_n (k := 2) rfl (by decide) (by decide +kernel) (by decide +kernel)) (
  And.intro (sd_aload_n (k := 1) rfl (by decide +kernel) (by decide +kernel)) (
  And.intro (sd_VI mg_56 (by decide +kernel) wm_0_125 wn_56 wv_56 rfl rfl (by decide +kernel)) (
  And.intro (sd_zeq (off := 16) (by decide +kernel) (by decide +kernel) (by decide +kernel)) (
  And.intro (sd_aload_n (k := 1) rfl (by decide +kernel) (by decide +kernel)) (
  And.intro (sd_VI mg_61 (by decide +kernel) wm_0_128 wn_61 wv_61 rfl rfl (by decide +kernel)) (
  And.intro (sd_iload_n (k := 2) rfl (by decide +kernel) (by decide +kernel)) (
  And.intro (sd_ine (off := 8) (by decide +kernel) (by decide +kernel) (by decide +kernel)) (
  And.intro (sd_aload_n (k := 1) rfl (by decide +kernel) (by decide +kernel)) (
  And.intro (sd_iconst (n := 1) (by decide) (by decide +kernel) (by decide +kernel)) (
  And.intro (sd_VV mg_63 (by decide +kernel) wm_0_94 wn_63 wv_63 rfl rfl (by decide +kernel)) (
  And.intro (sd_aload_n (k := 1) rfl (by decide +kernel) (by decide +kernel)) (
  And.intro (sd_iconst (n := 0) (by decide) (by decide +kernel) (by decide +kernel)) (
  And.intro (sd_aload_n (k := 0) rfl (by decide +kernel) (by decide +kernel)) (
  And.intro (sd_getI cf0 (by decide) (by decide) wf_0_19 (by decide +kernel) (by decide +kernel)) (
  And.intro (sd_iconst (n := 1) (by decide) (by decide +kernel) (by decide +kernel)) (
  And.intro (sd_isub (by decide +kernel) (by decide +kernel)) (
  And.intro (sd_VI mg_64 (by decide +kernel) wm_0_108 wn_64 wv_64 rfl rfl (by decide +kernel)) (
  And.intro (sd_istore_n (k := 3) rfl (by decide) (by decide +kernel) (by decide +kernel)) (
  And.intro (sd_aload_n (k := 1) rfl (by decide +kernel) (by decide +kernel)) (
  And.intro (sd_iconst (n := 1) (by decide) (by decide +kernel) (by decide +kernel)) (
  And.intro (sd_bipush (n := 9) (by decide) (by decide +kernel) (by decide +kernel)) (
  And.intro (sd_VI mg_64 (by decide +kernel) wm_0_108 wn_64 wv_64 rfl rfl (by decide +kernel)) (
  And.intro (sd_istore (by decide) (by decide +kernel) (by decide +kernel)) (
  And.intro (sd_aload_n (k := 1) rfl (by decide +kernel) (by decide +kernel)) (
  And.intro (sd_getI cf4 (by decide) (by decide) wf_0_84 (by decide +kernel) (by decide +kernel)) (
  And.intro (sd_zne (off := 53) (by decide +kernel) (by decide +kernel) (by decide +kernel)) (
  And.intro (sd_aload_n (k := 0) rfl (by decide +kernel) (by decide +kernel)) (
  And.intro (sd_getR cf0 (by decide) (by decide) wf_0_32 (by decide +kernel) (by decide +kernel)) (
  And.intro (sd_iload_n (k := 2) rfl (by decide +kernel) (by decide +kernel)) (
  And.intro (sd_bipush (n := 8) (by decide) (by decide +kernel) (by decide +kernel)) (
  And.intro (sd_imul (by decide +kernel) (by decide +kernel)) (
  And.intro (sd_iload_n (k := 3) rfl (by decide +kernel) (by decide +kernel)) (
  And.intro (sd_iadd (by decide +kernel) (by decide +kernel)) (
  And.intro (sd_iload (by decide +kernel) (by decide +kernel)) (
  And.intro (sd_iast (by decide +kernel) (by decide +kernel)) (
  And.intro (sd_aload_n (k := 0) rfl (by decide +kernel) (by decide +kernel)) (
  And.intro (sd_getR cf0 (by decide) (by decide) wf_0_32 (by decide +kernel) (by decide +kernel)) (
  And.intro (sd_iload_n (k := 3) rfl (by decide +kernel) (by decide +kernel)) (
  And.intro (sd_bipush (n := 8) (by decide) (by decide +kernel) (by decide +kernel)) (
  And.intro (sd_imul (by decide +kernel) (by decide +kernel)) (
  And.intro (sd_iload_n (k := 2) rfl (by decide +kernel) (by decide +kernel)) (
  And.intro (sd_iadd (by decide +kernel) (by decide +kernel)) (
  And.intro (sd_iload (by decide +kernel) (by decide +kernel)) (
  And.intro (sd_iast (by decide +kernel) (by decide +kernel)) (
  And.intro (sd_aload_n (k := 0) rfl (by decide +kernel) (by decide +kernel)) (
  And.intro (sd_getR cf0 (by decide) (by decide) wf_0_38 (by decide +kernel) (by decide +kernel)) (
  And.intro (sd_iload_n (k := 2) rfl (by decide +kernel) (by decide +kernel)) (
  And.intro (sd_dup2 (by decide +kernel) (by decide +kernel)) (
  And.intro (sd_iald (by decide +kernel) (by decide +kernel)) (
  And.intro (sd_iconst (n := 1) (by decide) (by decide +kernel) (by decide +kernel)) (
  And.intro (sd_iload_n (k := 3) rfl (by decide +kernel) (by decide +kernel)) (
  And.intro (sd_ishl (by decide +kernel) (by decide +kernel)) (
  And.intro (sd_ior (by decide +kernel) (by decide +kernel)) (
  And.intro (sd_iast (by decide +kernel) (by decide +kernel)) (
  And.intro (sd_aload_n (k := 0) rfl (by decide +kernel) (by decide +kernel)) (
  And.intro (sd_getR cf0 (by decide) (by decide) wf_0_38 (by decide +kernel) (by decide +kernel)) (
  And.intro (sd_iload_n (k := 3) rfl (by decide +kernel) (by decide +kernel)) (
  And.intro (sd_dup2 (by decide +kernel) (by decide +kernel)) (
  And.intro (sd_iald (by decide +kernel) (by decide +kernel)) (
  And.intro (sd_iconst (n := 1) (by decide) (by decide +kernel) (by decide +kernel)) (
  And.intro (sd_iload_n (k := 2) rfl (by decide +kernel) (by decide +kernel)) (
  And.intro (sd_ishl (by decide +kernel) (by decide +kernel)) (
  And.intro (sd_ior (by decide +kernel) (by decide +kernel)) (
  And.intro (sd_iast (by decide +kernel) (by decide +kernel)) (
  And.intro (sd_vret (by decide +kernel) rfl) (
  trivial)))))))))))))))))))))))))))))))))))))))))))))))))))))))))))))))))))))))))
set_option maxRecDepth 100000 in
set_option maxHeartbeats 8000000 in
theorem sn_10 : Sns 10 0 tRo_readSentence := And.intro (sd_aload_n (k := 1) rfl (by decide +kernel) (by decide +kernel)) (
  And.intro (sd_iconst (n := 0) (by decide) (by decide +kernel) (by decide +kernel)) (
  And.intro (sd_aload_n (k := 0) rfl (by decide +kernel) (by decide +kernel)) (
  And.intro (sd_getI cf0 (by decide) (by decide) wf_0_19 (by decide +kernel) (by decide +kernel)) (
  And.intro (sd_iconst (n := 1) (by decide) (by decide +kernel) (by decide +kernel)) (
  And.intro (sd_isub (by decide +kernel) (by decide +kernel)) (
  And.intro (sd_VI mg_64 (by decide +kernel) wm_0_108 wn_64 wv_64 rfl rfl (by decide +kernel)) (
  And.intro (sd_istore_n (k := 2) rfl (by decide) (by decide +kernel) (by decide +kernel)) (
  And.intro (sd_aload_n (k := 1) rfl (by decide +kernel) (by decide +kernel)) (
  And.intro (sd_iconst (n := 0) (by decide) (by decide +kernel) (by decide +kernel)) (
  And.intro (sd_sipush (n := 299) (by decide) (by decide +kernel) (by decide +kernel)) (
  And.intro (sd_VI mg_64 (by decide +kernel) wm_0_108 wn_64 wv_64 rfl rfl (by decide +kernel)) (
  And.intro (sd_istore_n (k := 3) rfl (by decide) (by decide +kernel) (by decide +kernel)) (
  And.intro (sd_aload_n (k := 1) rfl (by decide +kernel) (by decide +kernel)) (
  And.intro (sd_iconst (n := 0) (by decide) (by decide +kernel) (by decide +kernel)) (
  And.intro (sd_bipush (n := 99) (by decide) (by decide +kernel) (by decide +kernel)) (
  And.intro (sd_VI mg_64 (by decide +kernel) wm_0_108 wn_64 wv_64 rfl rfl (by decide +kernel)) (
  And.intro (sd_istore (by decide) (by decide +kernel) (by decide +kernel)) (
  And.intro (sd_aload_n (k := 1) rfl (by decide +kernel) (by decide +kernel)) (
  And.intro (sd_getI cf4 (by decide) (by decide) wf_0_84 (by decide +kernel) (by decide +kernel)) (
  And.intro (sd_zne (off := 44) (by decide +kernel) (by decide +kernel) (by decide +kernel)) (
  And.intro (sd_aload_n (k := 0) rfl (by decide +kernel) (by decide +kernel)) (
  And.intro (sd_getR cf0 (by decide) (by decide) wf_0_41 (by decide +kernel) (by decide +kernel)) (
  And.intro (sd_aload_n (k := 0) rfl (by decide +kernel) (by decide +kernel)) (
  And.intro (sd_getI cf0 (by decide) (by decide) wf_0_22 (by decide +kernel) (by decide +kernel)) (
  And.intro (sd_iload_n (k := 2) rfl (by decide +kernel) (by decide +kernel)) (
  And.intro (sd_iast (by decide +kernel) (by decide +kernel)) (
  And.intro (sd_aload_n (k := 0) rfl (by decide +kernel) (by decide +kernel)) (
  And.intro (sd_getR cf0 (by decide) (by decide) wf_0_44 (by decide +kernel) (by decide +kernel)) (
  And.intro (sd_aload_n (k := 0) rfl (by decide +kernel) (by decide +kernel)) (
  And.intro (sd_getI cf0 (by decide) (by decide) wf_0_22 (by decide +kernel) (by decide +kernel)) (
  And.intro (sd_iload_n (k := 3) rfl (by decide +kernel) (by decide +kernel)) (
  And.intro (sd_iast (by decide +kernel) (by decide +kernel)) (
  And.intro (sd_aload_n (k := 0) rfl (by decide +kernel) (by decide +kernel)) (
  And.intro (sd_getR cf0 (by decide) (by decide) wf_0_47 (by decide +kernel) (by decide +kernel)) (
  And.intro (sd_aload_n (k := 0) rfl (by decide +kernel) (by decide +kernel)) (
  And.intro (sd_getI cf0 (by decide) (by decide) wf_0_22 (by decide +kernel) (by decide +kernel)) (
  And.intro (sd_iload (by decide +kernel) (by decide +kernel)) (
  And.intro (sd_iast (by decide +kernel) (by decide +kernel)) (
  And.intro (sd_aload_n (k := 0) rfl (by decide +kernel) (by decide +kernel)) (
  And.intro (sd_dup (by decide +kernel) (by decide +kernel)) (
  And.intro (sd_getI cf0 (by decide) (by decide) wf_0_22 (by decide +kernel) (by decide +kernel)) (
  And.intro (sd_iconst (n := 1) (by decide) (by decide +kernel) (by decide +kernel)) (
  And.intro (sd_iadd (by decide +kernel) (by decide +kernel)) (
  And.intro (sd_putI cf0 (by decide) (by decide) rfl rfl wf_0_22 (by decide +kernel) (by decide +kernel)) (
  And.intro (sd_vret (by decide +kernel) rfl) (
  trivial))))))))))))))))))))))))))))))))))))))))))))))
set_option maxRecDepth 100000 in
set_option maxHeartbeats 8000000 in
theorem sn_11 : Sns 11 0 tRo_readWalker := And.intro (sd_aload_n (k := 1) rfl (by decide +kernel) (by decide +kernel)) (
  And.intro (sd_iconst (n := 0) (by decide) (by decide +kernel) (by decide +kernel)) (
  And.intro (sd_bipush (n := 99) (by decide) (by decide +kernel) (by decide +kernel)) (
  And.intro (sd_VI mg_64 (by decide +kernel) wm_0_108 wn_64 wv_64 rfl rfl (by decide +kernel)) (
  And.intro (sd_istore_n (k := 2) rfl (by decide) (by decide +kernel) (by decide +kernel)) (
  And.intro (sd_aload_n (k := 1) rfl (by decide +kernel) (by decide +kernel)) (
  And.intro (sd_getI cf4 (by decide) (by decide) wf_0_84 (by decide +kernel) (by decide +kernel)) (
  And.intro (sd_zne (off := 23) (by decide +kernel) (by decide +kernel) (by decide +kernel)) (
  And.intro (sd_aload_n (k := 0) rfl (by decide +kernel) (by decide +kernel)) (
  And.intro (sd_getR cf0 (by decide) (by decide) wf_0_50 (by decide +kernel) (by decide +kernel)) (
  And.intro (sd_aload_n (k := 0) rfl (by decide +kernel) (by decide +kernel)) (
  And.intro (sd_getI cf0 (by decide) (by decide) wf_0_25 (by decide +kernel) (by decide +kernel)) (
  And.intro (sd_iload_n (k := 2) rfl (by decide +kernel) (by decide +kernel)) (
  And.intro (sd_iast (by decide +kernel) (by decide +kernel)) (
  And.intro (sd_aload_n (k := 0) rfl (by decide +kernel) (by decide +kernel)) (
  And.intro (sd_dup (by decide +kernel) (by decide +kernel)) (
  And.intro (sd_getI cf0 (by decide) (by decide) wf_0_25 (by decide +kernel) (by decide +kernel)) (
  And.intro (sd_iconst (n := 1) (by decide) (by decide +kernel) (by decide +kernel)) (
  And.intro (sd_iadd (by decide +kernel) (by decide +kernel)) (
  And.intro (sd_putI cf0 (by decide) (by decide) rfl rfl wf_0_25 (by decide +kernel) (by decide +kernel)) (
  And.intro (sd_vret (by decide +kernel) rfl) (
  trivial)))))))))))))))))))))
set_option maxRecDepth 100000 in
set_option maxHeartbeats 8000000 in
theorem sn_12 : Sns 12 0 tRo_measure := And.intro (sd_iconst (n := 0) (by decide) (by decide +kernel) (by decide +kernel)) (
  And.intro (sd_istore_n (k := 1) rfl (by decide) (by decide +kernel) (by decide +kernel)) (
  And.intro (sd_ms _ (sd_iload_n (k := 1) rfl (by decide +kernel) (by decide +kernel))) (
  And.intro (sd_bipush (n := 64) (by decide) (by decide +kernel) (by decide +kernel)) (
  And.intro (sd_ige (off := 35) (by decide +kernel) (by decide +kernel) (by decide +kernel)) (
  And.intro (sd_aload_n (k := 0) rfl (by decide +kernel) (by decide +kernel)) (
  And.intro (sd_getR cf0 (by decide) (by decide) wf_0_35 (by decide +kernel) (by decide +kernel)) (
  And.intro (sd_iload_n (k := 1) rfl (by decide +kernel) (by decide +kernel)) (
  And.intro (sd_aload_n (k := 0) rfl (by decide +kernel) (by decide +kernel)) (
  And.intro (sd_getR cf0 (by decide) (by decide) wf_0_32 (by decide +kernel) (by decide +kernel)) (
  And.intro (sd_iload_n (k := 1) rfl (by decide +kernel) (by decide +kernel)) (
  And.intro (sd_iald (by decide +kernel) (by decide +kernel)) (
  And.intro (sd_zne (off := 8) (by decide +kernel) (by decide +kernel) (by decide +kernel)) (
  And.intro (sd_ldc wk_0_131 (by decide +kernel) (by decide +kernel)) (
  And.intro (sd_go (off := 9) (by decide +kernel) (by decide +kernel)) (
  And.intro (sd_aload_n (k := 0) rfl (by decide +kernel) (by decide +kernel)) (
  And.intro (sd_getR cf0 (by decide) (by decide) wf_0_32 (by decide +kernel) (by decide +kernel)) (
  And.intro (sd_iload_n (k := 1) rfl (by decide +kernel) (by decide +kernel)) (
  And.intro (sd_iald (by decide +kernel) (by decide +kernel)) (
  And.intro (sd_iast (by decide +kernel) (by decide +kernel)) (
  And.intro (sd_iinc (n := 1) (by decide) (by decide) (by decide +kernel) (by decide +kernel)) (
  And.intro (sd_go (off := (-35)) (by decide +kernel) (by decide +kernel)) (
  And.intro (sd_iconst (n := 0) (by decide) (by decide +kernel) (by decide +kernel)) (
  And.intro (sd_istore_n (k := 1) rfl (by decide) (by decide +kernel) (by decide +kernel)) (
  And.intro (sd_ms _ (sd_iload_n (k := 1) rfl (by decide +kernel) (by decide +kernel))) (
  And.intro (sd_bipush (n := 8) (by decide) (by decide +kernel) (by decide +kernel)) (
  And.intro (sd_ige (off := 21) (by decide +kernel) (by decide +kernel) (by decide +kernel)) (
  And.intro (sd_aload_n (k := 0) rfl (by decide +kernel) (by decide +kernel)) (
  And.intro (sd_getR cf0 (by decide) (by decide) wf_0_35 (by decide +kernel) (by decide +kernel)) (
  And.intro (sd_iload_n (k := 1) rfl (by decide +kernel) (by decide +kernel)) (
  And.intro (sd_bipush (n := 8) (by decide) (by decide +kernel) (by decide +kernel)) (
  And.intro (sd_imul (by decide +kernel) (by decide +kernel)) (
  And.intro (sd_iload_n (k := 1) rfl (by decide +kernel) (by decide +kernel)) (
  And.intro (sd_iadd (by decide +kernel) (by decide +kernel)) (
  And.intro (sd_iconst (n := 0) (by decide) (by decide +kernel) (by decide +kernel)) (
  And.intro (sd_iast (by decide +kernel) (by decide +kernel)) (
  And.intro (sd_iinc (n := 1) (by decide) (by decide) (by decide +kernel) (by decide +kernel)) (
  And.intro (sd_go (off := (-21)) (by decide +kernel) (by decide +kernel)) (
  And.intro (sd_iconst (n := 0) (by decide) (by decide +kernel) (by decide +kernel)) (
  And.intro (sd_istore_n (k := 1) rfl (by decide) (by decide +kernel) (by decide +kernel)) (
  And.intro (sd_ms _ (sd_iload_n (k := 1) rfl (by decide +kernel) (by decide +kernel))) (
  And.intro (sd_aload_n (k := 0) rfl (by decide +kernel) (by decide +kernel)) (
  And.intro (sd_getI cf0 (by decide) (by decide) wf_0_19 (by decide +kernel) (by decide +kernel)) (
  And.intro (sd_ige (off := 95) (by decide +kernel) (by decide +kernel) (by decide +kernel)) (
  And.intro (sd_iconst (n := 0) (by decide) (by decide +kernel) (by decide +kernel)) (
  And.intro (sd_istore_n (k := 2) rfl (by decide) (by decide +kernel) (by decide +kernel)) (
  And.intro (sd_ms _ (sd_iload_n (k := 2) rfl (by decide +kernel) (by decide +kernel))) (
  And.intro (sd_aload_n (k := 0) rfl (by decide +kernel) (by decide +kernel)) (
  And.intro (sd_getI cf0 (by decide) (by decide) wf_0_19 (by decide +kernel) (by decide +kernel)) (
  And.intro (sd_ige (off := 79) (by decide +kernel) (by decide +kernel) (by decide +kernel)) (
  And.intro (sd_iconst (n := 0) (by decide) (by decide +kernel) (by decide +kernel)) (
  And.intro (sd_istore_n (k := 3) rfl (by decide) (by decide +kernel) (by decide +kernel)) (
  And.intro (sd_ms _ (sd_iload_n (k := 3) rfl (by decide +kernel) (by decide +kernel))) (
  And.intro (sd_aload_n (k := 0) rfl (by decide +kernel) (by decide +kernel)) (
  And.intro (sd_getI cf0 (by decide) (by decide) wf_0_19 (by decide +kernel) (by decide +kernel)) (
  And.intro (sd_ige (off := 63) (by decide +kernel) (by decide +kernel) (by decide +kernel)) (
  And.intro (sd_aload_n (k := 0) rfl (by decide +kernel) (by decide +kernel)) (
  And.intro (sd_getR cf0 (by decide) (by decide) wf_0_35 (by decide +kernel) (by decide +kernel)) (
  And.intro (sd_iload_n (k := 2) rfl (by decide +kernel) (by decide +kernel)) (
  And.intro (sd_bipush (n := 8) (by decide) (by decide +kernel) (by decide +kernel)) (
  And.intro (sd_imul (by decide +kernel) (by decide +kernel)) (
  And.intro (sd_iload_n (k := 1) rfl (by decide +kernel) (by decide +kernel)) (
  And.intro (sd_iadd (by decide +kernel) (by decide +kernel)) (
  And.intro (sd_iald (by decide +kernel) (by decide +kernel)) (
  And.intro (sd_aload_n (k := 0) rfl (by decide +kernel) (by decide +kernel)) (
  And.intro (sd_getR cf0 (by decide) (by decide) wf_0_35 (by decide +kernel) (by decide +kernel)) (
  And.intro (sd_iload_n (k := 1) rfl (by decide +kernel) (by decide +kernel)) (
  And.intro (sd_bipush (n := 8) (by decide) (by decide +kernel) (by decide +kernel)) (
  And.intro (sd_imul (by decide +kernel) (by decide +kernel)) (
  And.intro (sd_iload_n (k := 3) rfl (by decide +kernel) (by decide +kernel)) (
  And.intro (sd_iadd (by decide +kernel) (by decide +kernel)) (
  And.intro (sd_iald (by decide +kernel) (by decide +kernel)) (
  And.intro (sd_iadd (by decide +kernel) (by decide +kernel)) (
  And.intro (sd_istore (by decide) (by decide +kernel) (by decide +kernel)) (
  And.intro (sd_iload (by decide +kernel) (by decide +kernel)) (
  And.intro (sd_aload_n (k := 0) rfl (by decide +kernel) (by decide +kernel)) (
  And.intro (sd_getR cf0 (by decide) (by decide) wf_0_35 (by decide +kernel) (by decide +kernel)) (
  And.intro (sd_iload_n (k := 2) rfl (by decide +kernel) (by decide +kernel)) (
  And.intro (sd_bipush (n := 8) (by decide) (by decide +kernel) (by decide +kernel)) (
  And.intro (sd_imul (by decide +kernel) (by decide +kernel)) (
  And.intro (sd_iload_n (k := 3) rfl (by decide +kernel) (by decide +kernel)) (
  And.intro (sd_iadd (by decide +kernel) (by decide +kernel)) (
  And.intro (sd_iald (by decide +kernel) (by decide +kernel)) (
  And.intro (sd_ige (off := 16) (by decide +kernel) (by decide +kernel) (by decide +kernel)) (
  And.intro (sd_aload_n (k := 0) rfl (by decide +kernel) (by decide +kernel)) (
  And.intro (sd_getR cf0 (by decide) (by decide) wf_0_35 (by decide +kernel) (by decide +kernel)) (
  And.intro (sd_iload_n (k := 2) rfl (by decide +kernel) (by decide +kernel)) (
  And.intro (sd_bipush (n := 8) (by decide) (by decide +kernel) (by decide +kernel)) (
  And.intro (sd_imul (by decide +kernel) (by decide +kernel)) (
  And.intro (sd_iload_n (k := 3) rfl (by decide +kernel) (by decide +kernel)) (
  And.intro (sd_iadd (by decide +kernel) (by decide +kernel)) (
  And.intro (sd_iload (by decide +kernel) (by decide +kernel)) (
  And.intro (sd_iast (by decide +kernel) (by decide +kernel)) (
  And.intro (sd_iinc (n := 1) (by decide) (by decide) (by decide +kernel) (by decide +kernel)) (
  And.intro (sd_go (off := (-65)) (by decide +kernel) (by decide +kernel)) (
  And.intro (sd_iinc (n := 1) (by decide) (by decide) (by decide +kernel) (by decide +kernel)) (
  And.intro (sd_go (off := (-81)) (by decide +kernel) (by decide +kernel)) (
  And.intro (sd_iinc (n := 1) (by decide) (by decide) (by decide +kernel) (by decide +kernel)) (
  And.intro (sd_go (off := (-97)) (by decide +kernel) (by decide +kernel)) (
  And.intro (sd_vret (by decide +kernel) rfl) (
  trivial))))))))))))))))))))))))))))))))))))))))))))))))))))))))))))))))))))))))))))))))))))))))))))))))))))
set_option maxRecDepth 100000 in
set_option maxHeartbeats 8000000 in
theorem sn_13 : Sns 13 0 tRo_between := And.intro (sd_aload_n (k := 0) rfl (by decide +kernel) (by decide +kernel)) (
  And.intro (sd_getR cf0 (by decide) (by decide) wf_0_35 (by decide +kernel) (by decide +kernel)) (
  And.intro (sd_iload_n (k := 1) rfl (by decide +kernel) (by decide +kernel)) (
  And.intro (sd_bipush (n := 8) (by decide) (by decide +kernel) (by decide +kernel)) (
  And.intro (sd_imul (by decide +kernel) (by decide +kernel)) (
  And.intro (sd_iload_n (k := 2) rfl (by decide +kernel) (by decide +kernel)) (
  And.intro (sd_iadd (by decide +kernel) (by decide +kernel)) (
  And.intro (sd_iald (by decide +kernel) (by decide +kernel)) (
  And.intro (sd_iret (by decide +kernel) rfl) (
  trivial)))))))))
set_option maxRecDepth 100000 in
set_option maxHeartbeats 8000000 in
theorem sn_14 : Sns 14 0 tRo_wayDays := And.intro (sd_aload_n (k := 0) rfl (by decide +kernel) (by decide +kernel)) (
  And.intro (sd_getR cf0 (by decide) (by decide) wf_0_32 (by decide +kernel) (by decide +kernel)) (
  And.intro (sd_iload_n (k := 1) rfl (by decide +kernel) (by decide +kernel)) (
  And.intro (sd_bipush (n := 8) (by decide) (by decide +kernel) (by decide +kernel)) (
  And.intro (sd_imul (by decide +kernel) (by decide +kernel)) (
  And.intro (sd_iload_n (k := 2) rfl (by decide +kernel) (by decide +kernel)) (
  And.intro (sd_iadd (by decide +kernel) (by decide +kernel)) (
  And.intro (sd_iald (by decide +kernel) (by decide +kernel)) (
  And.intro (sd_iret (by decide +kernel) rfl) (
  trivial)))))))))
set_option maxRecDepth 100000 in
set_option maxHeartbeats 8000000 in
theorem sn_15 : Sns 15 0 tRo_wayCount := And.intro (sd_iconst (n := 0) (by decide) (by decide +kernel) (by decide +kernel)) (
  And.intro (sd_istore_n (k := 1) rfl (by decide) (by decide +kernel) (by decide +kernel)) (
  And.intro (sd_iconst (n := 0) (by decide) (by decide +kernel) (by decide +kernel)) (
  And.intro (sd_istore_n (k := 2) rfl (by decide) (by decide +kernel) (by decide +kernel)) (
  And.intro (sd_ms _ (sd_iload_n (k := 2) rfl (by decide +kernel) (by decide +kernel))) (
  And.intro (sd_aload_n (k := 0) rfl (by decide +kernel) (by decide +kernel)) (
  And.intro (sd_getI cf0 (by decide) (by decide) wf_0_19 (by decide +kernel) (by decide +kernel)) (
  And.intro (sd_ige (off := 21) (by decide +kernel) (by decide +kernel) (by decide +kernel)) (
  And.intro (sd_iload_n (k := 1) rfl (by decide +kernel) (by decide +kernel)) (
  And.intro (sd_aload_n (k := 0) rfl (by decide +kernel) (by decide +kernel)) (
  And.intro (sd_getR cf0 (by decide) (by decide) wf_0_38 (by decide +kernel) (by decide +kernel)) (
  And.intro (sd_iload_n (k := 2) rfl (by decide +kernel) (by decide +kernel)) (
  And.intro (sd_iald (by decide +kernel) (by decide +kernel)) (
  And.intro (sd_SI mg_237 (by decide +kernel) wm_0_132 wt_237 (by decide +kernel)) (
  And.intro (sd_iadd (by decide +kernel) (by decide +kernel)) (
  And.intro (sd_istore_n (k := 1) rfl (by decide) (by decide +kernel) (by decide +kernel)) (
  And.intro (sd_iinc (n := 1) (by decide) (by decide) (by decide +kernel) (by decide +kernel)) (
  And.intro (sd_go (off := (-23)) (by decide +kernel) (by decide +kernel)) (
  And.intro (sd_iload_n (k := 1) rfl (by decide +kernel) (by decide +kernel)) (
  And.intro (sd_iconst (n := 2) (by decide) (by decide +kernel) (by decide +kernel)) (
  And.intro (sd_idiv (by decide +kernel) (by decide +kernel)) (
  And.intro (sd_iret (by decide +kernel) rfl) (
  trivial))))))))))))))))))))))
set_option maxRecDepth 100000 in
set_option maxHeartbeats 8000000 in
theorem sn_16 : Sns 16 0 tRo_nextTown := And.intro (sd_iconst (n := 0) (by decide) (by decide +kernel) (by decide +kernel)) (
  And.intro (sd_istore_n (k := 3) rfl (by decide) (by decide +kernel) (by decide +kernel)) (
  And.intro (sd_ms _ (sd_iload_n (k := 3) rfl (by decide +kernel) (by decide +kernel))) (
  And.intro (sd_aload_n (k := 0) rfl (by decide +kernel) (by decide +kernel)) (
  And.intro (sd_getI cf0 (by decide) (by decide) wf_0_19 (by decide +kernel) (by decide +kernel)) (
  And.intro (sd_ige (off := 47) (by decide +kernel) (by decide +kernel) (by decide +kernel)) (
  And.intro (sd_iload_n (k := 1) rfl (by decide +kernel) (by decide +kernel)) (
  And.intro (sd_iload_n (k := 2) rfl (by decide +kernel) (by decide +kernel)) (
  And.intro (sd_ieq (off := 42) (by decide +kernel) (by decide +kernel) (by decide +kernel)) (
  And.intro (sd_aload_n (k := 0) rfl (by decide +kernel) (by decide +kernel)) (
  And.intro (sd_iload_n (k := 1) rfl (by decide +kernel) (by decide +kernel)) (
  And.intro (sd_iload_n (k := 3) rfl (by decide +kernel) (by decide +kernel)) (
  And.intro (sd_VI mg_14 (by decide +kernel) wm_0_138 wn_14 wv_14 rfl rfl (by decide +kernel)) (
  And.intro (sd_istore (by decide) (by decide +kernel) (by decide +kernel)) (
  And.intro (sd_iload (by decide +kernel) (by decide +kernel)) (
  And.intro (sd_zeq (off := 23) (by decide +kernel) (by decide +kernel) (by decide +kernel)) (
  And.intro (sd_iload (by decide +kernel) (by decide +kernel)) (
  And.intro (sd_aload_n (k := 0) rfl (by decide +kernel) (by decide +kernel)) (
  And.intro (sd_iload_n (k := 3) rfl (by decide +kernel) (by decide +kernel)) (
  And.intro (sd_iload_n (k := 2) rfl (by decide +kernel) (by decide +kernel)) (
  And.intro (sd_VI mg_13 (by decide +kernel) wm_0_141 wn_13 wv_13 rfl rfl (by decide +kernel)) (
  And.intro (sd_iadd (by decide +kernel) (by decide +kernel)) (
  And.intro (sd_aload_n (k := 0) rfl (by decide +kernel) (by decide +kernel)) (
  And.intro (sd_iload_n (k := 1) rfl (by decide +kernel) (by decide +kernel)) (
  And.intro (sd_iload_n (k := 2) rfl (by decide +kernel) (by decide +kernel)) (
  And.intro (sd_VI mg_13 (by decide +kernel) wm_0_141 wn_13 wv_13 rfl rfl (by decide +kernel)) (
  And.intro (sd_ine (off := 5) (by decide +kernel) (by decide +kernel) (by decide +kernel)) (
  And.intro (sd_iload_n (k := 3) rfl (by decide +kernel) (by decide +kernel)) (
  And.intro (sd_iret (by decide +kernel) rfl) (
  And.intro (sd_iinc (n := 1) (by decide) (by decide) (by decide +kernel) (by decide +kernel)) (
  And.intro (sd_go (off := (-49)) (by decide +kernel) (by decide +kernel)) (
  And.intro (sd_iconst (n := (-1)) (by decide) (by decide +kernel) (by decide +kernel)) (
  And.intro (sd_iret (by decide +kernel) rfl) (
  trivial)))))))))))))))))))))))))))))))))
set_option maxRecDepth 100000 in
set_option maxHeartbeats 8000000 in
theorem sn_17 : Sns 17 0 tRo_nearestShop := And.intro (sd_ldc wk_0_131 (by decide +kernel) (by decide +kernel)) (
  And.intro (sd_istore_n (k := 1) rfl (by decide) (by decide +kernel) (by decide +kernel)) (
  And.intro (sd_iconst (n := 0) (by decide) (by decide +kernel) (by decide +kernel)) (
  And.intro (sd_istore_n (k := 2) rfl (by decide) (by decide +kernel) (by decide +kernel)) (
  And.intro (sd_ms _ (sd_iload_n (k := 2) rfl (by decide +kernel) (by decide +kernel))) (
  And.intro (sd_aload_n (k := 0) rfl (by decide +kernel) (by decide +kernel)) (
  And.intro (sd_getI cf0 (by decide) (by decide) wf_0_19 (by decide +kernel) (by decide +kernel)) (
  And.intro (sd_ige (off := 29) (by decide +kernel) (by decide +kernel) (by decide +kernel)) (
  And.intro (sd_aload_n (k := 0) rfl (by decide +kernel) (by decide +kernel)) (
  And.intro (sd_getR cf0 (by decide) (by decide) wf_0_28 (by decide +kernel) (by decide +kernel)) (
  And.intro (sd_iload_n (k := 2) rfl (by decide +kernel) (by decide +kernel)) (
  And.intro (sd_iald (by decide +kernel) (by decide +kernel)) (
  And.intro (sd_zeq (off := 14) (by decide +kernel) (by decide +kernel) (by decide +kernel)) (
  And.intro (sd_iload_n (k := 1) rfl (by decide +kernel) (by decide +kernel)) (
  And.intro (sd_aload_n (k := 0) rfl (by decide +kernel) (by decide +kernel)) (
  And.intro (sd_iconst (n := 0) (by decide) (by decide +kernel) (by decide +kernel)) (
  And.intro (sd_iload_n (k := 2) rfl (by decide +kernel) (by decide +kernel)) (
  And.intro (sd_VI mg_13 (by decide +kernel) wm_0_141 wn_13 wv_13 rfl rfl (by decide +kernel)) (
  And.intro (sd_mmin wm_0_144 wo_6min wo_7 wo_8min (by decide +kernel) (by decide +kernel)) (
  And.intro (sd_istore_n (k := 1) rfl (by decide) (by decide +kernel) (by decide +kernel)) (
  And.intro (sd_iinc (n := 1) (by decide) (by decide) (by decide +kernel) (by decide +kernel)) (
  And.intro (sd_go (off := (-31)) (by decide +kernel) (by decide +kernel)) (
  And.intro (sd_iload_n (k := 1) rfl (by decide +kernel) (by decide +kernel)) (
  And.intro (sd_iret (by decide +kernel) rfl) (
  trivial))))))))))))))))))))))))
set_option maxRecDepth 100000 in
set_option maxHeartbeats 8000000 in
theorem sn_18 : Sns 18 0 tRo_feesOf := And.intro (sd_iconst (n := 0) (by decide) (by decide +kernel) (by decide +kernel)) (
  And.intro (sd_istore_n (k := 2) rfl (by decide) (by decide +kernel) (by decide +kernel)) (
  And.intro (sd_iconst (n := 0) (by decide) (by decide +kernel) (by decide +kernel)) (
  And.intro (sd_istore_n (k := 3) rfl (by decide) (by decide +kernel) (by decide +kernel)) (
  And.intro (sd_ms _ (sd_iload_n (k := 3) rfl (by decide +kernel) (by decide +kernel))) (
  And.intro (sd_aload_n (k := 0) rfl (by decide +kernel) (by decide +kernel)) (
  And.intro (sd_getI cf0 (by decide) (by decide) wf_0_22 (by decide +kernel) (by decide +kernel)) (
  And.intro (sd_ige (off := 30) (by decide +kernel) (by decide +kernel) (by decide +kernel)) (
  And.intro (sd_iload_n (k := 2) rfl (by decide +kernel) (by decide +kernel)) (
  And.intro (sd_iload_n (k := 1) rfl (by decide +kernel) (by decide +kernel)) (
  And.intro (sd_iload_n (k := 3) rfl (by decide +kernel) (by decide +kernel)) (
  And.intro (sd_ishr (by decide +kernel) (by decide +kernel)) (
  And.intro (sd_iconst (n := 1) (by decide) (by decide +kernel) (by decide +kernel)) (
  And.intro (sd_iand (by decide +kernel) (by decide +kernel)) (
  And.intro (sd_zne (off := 7) (by decide +kernel) (by decide +kernel) (by decide +kernel)) (
  And.intro (sd_iconst (n := 0) (by decide) (by decide +kernel) (by decide +kernel)) (
  And.intro (sd_go (off := 9) (by decide +kernel) (by decide +kernel)) (
  And.intro (sd_aload_n (k := 0) rfl (by decide +kernel) (by decide +kernel)) (
  And.intro (sd_getR cf0 (by decide) (by decide) wf_0_47 (by decide +kernel) (by decide +kernel)) (
  And.intro (sd_iload_n (k := 3) rfl (by decide +kernel) (by decide +kernel)) (
  And.intro (sd_iald (by decide +kernel) (by decide +kernel)) (
  And.intro (sd_iadd (by decide +kernel) (by decide +kernel)) (
  And.intro (sd_istore_n (k := 2) rfl (by decide) (by decide +kernel) (by decide +kernel)) (
  And.intro (sd_iinc (n := 1) (by decide) (by decide) (by decide +kernel) (by decide +kernel)) (
  And.intro (sd_go (off := (-32)) (by decide +kernel) (by decide +kernel)) (
  And.intro (sd_iload_n (k := 2) rfl (by decide +kernel) (by decide +kernel)) (
  And.intro (sd_iret (by decide +kernel) rfl) (
  trivial)))))))))))))))))))))))))))
set_option maxRecDepth 100000 in
set_option maxHeartbeats 8000000 in
theorem sn_19 : Sns 19 0 tRo_leastCut := And.intro (sd_iconst (n := 1) (by decide) (by decide +kernel) (by decide +kernel)) (
  And.intro (sd_istore_n (k := 2) rfl (by decide) (by decide +kernel) (by decide +kernel)) (
  And.intro (sd_iconst (n := 1) (by decide) (by decide +kernel) (by decide +kernel)) (
  And.intro (sd_istore_n (k := 3) rfl (by decide) (by decide +kernel) (by decide +kernel)) (
  And.intro (sd_ms _ (sd_iload_n (k := 3) rfl (by decide +kernel) (by decide +kernel))) (
  And.intro (sd_aload_n (k := 0) rfl (by decide +kernel) (by decide +kernel)) (
  And.intro (sd_getI cf0 (by decide) (by decide) wf_0_19 (by decide +kernel) (by decide +kernel)) (
  And.intro (sd_ige (off := 28) (by decide +kernel) (by decide +kernel) (by decide +kernel)) (
  And.intro (sd_iload_n (k := 2) rfl (by decide +kernel) (by decide +kernel)) (
  And.intro (sd_aload_n (k := 0) rfl (by decide +kernel) (by decide +kernel)) (
  And.intro (sd_getR cf0 (by decide) (by decide) wf_0_28 (by decide +kernel) (by decide +kernel)) (
  And.intro (sd_iload_n (k := 3) rfl (by decide +kernel) (by decide +kernel)) (
  And.intro (sd_iald (by decide +kernel) (by decide +kernel)) (
  And.intro (sd_zeq (off := 9) (by decide +kernel) (by decide +kernel) (by decide +kernel)) (
  And.intro (sd_iconst (n := 1) (by decide) (by decide +kernel) (by decide +kernel)) (
  And.intro (sd_iload_n (k := 3) rfl (by decide +kernel) (by decide +kernel)) (
  And.intro (sd_ishl (by decide +kernel) (by decide +kernel)) (
  And.intro (sd_go (off := 4) (by decide +kernel) (by decide +kernel)) (
  And.intro (sd_iconst (n := 0) (by decide) (by decide +kernel) (by decide +kernel)) (
  And.intro (sd_ior (by decide +kernel) (by decide +kernel)) (
  And.intro (sd_istore_n (k := 2) rfl (by decide) (by decide +kernel) (by decide +kernel)) (
  And.intro (sd_iinc (n := 1) (by decide) (by decide) (by decide +kernel) (by decide +kernel)) (
  And.intro (sd_go (off := (-30)) (by decide +kernel) (by decide +kernel)) (
  And.intro (sd_iconst (n := (-1)) (by decide) (by decide +kernel) (by decide +kernel)) (
  And.intro (sd_istore_n (k := 3) rfl (by decide) (by decide +kernel) (by decide +kernel)) (
  And.intro (sd_bipush (n := 9) (by decide) (by decide +kernel) (by decide +kernel)) (
  And.intro (sd_istore (by decide) (by decide +kernel) (by decide +kernel)) (
  And.intro (sd_iconst (n := 0) (by decide) (by decide +kernel) (by decide +kernel)) (
  And.intro (sd_istore (by decide) (by decide +kernel) (by decide +kernel)) (
  And.intro (sd_ms _ (sd_iload (by decide +kernel) (by decide +kernel))) (
  And.intro (sd_iconst (n := 1) (by decide) (by decide +kernel) (by decide +kernel)) (
  And.intro (sd_aload_n (k := 0) rfl (by decide +kernel) (by decide +kernel)) (
  And.intro (sd_getI cf0 (by decide) (by decide) wf_0_19 (by decide +kernel) (by decide +kernel)) (
  And.intro (sd_ishl (by decide +kernel) (by decide +kernel)) (
  And.intro (sd_ige (off := 47) (by decide +kernel) (by decide +kernel) (by decide +kernel)) (
  And.intro (sd_iload (by decide +kernel) (by decide +kernel)) (
  And.intro (sd_SI mg_237 (by decide +kernel) wm_0_132 wt_237 (by decide +kernel)) (
  And.intro (sd_istore (by decide) (by decide +kernel) (by decide +kernel)) (
  And.intro (sd_iload (by decide +kernel) (by decide +kernel)) (
  And.intro (sd_iload_n (k := 2) rfl (by decide +kernel) (by decide +kernel)) (
  And.intro (sd_iand (by decide +kernel) (by decide +kernel)) (
  And.intro (sd_zne (off := 27) (by decide +kernel) (by decide +kernel) (by decide +kernel)) (
  And.intro (sd_iload (by decide +kernel) (by decide +kernel)) (
  And.intro (sd_iload (by decide +kernel) (by decide +kernel)) (
  And.intro (sd_ige (off := 20) (by decide +kernel) (by decide +kernel) (by decide +kernel)) (
  And.intro (sd_aload_n (k := 0) rfl (by decide +kernel) (by decide +kernel)) (
  And.intro (sd_iload_n (k := 1) rfl (by decide +kernel) (by decide +kernel)) (
  And.intro (sd_iload (by decide +kernel) (by decide +kernel)) (
  And.intro (sd_VI mg_20 (by decide +kernel) wm_0_149 wn_20 wv_20 rfl rfl (by decide +kernel)) (
  And.intro (sd_zne (off := 10) (by decide +kernel) (by decide +kernel) (by decide +kernel)) (
  And.intro (sd_iload (by decide +kernel) (by decide +kernel)) (
  And.intro (sd_istore_n (k := 3) rfl (by decide) (by decide +kernel) (by decide +kernel)) (
  And.intro (sd_iload (by decide +kernel) (by decide +kernel)) (
  And.intro (sd_istore (by decide) (by decide +kernel) (by decide +kernel)) (
  And.intro (sd_iinc (n := 1) (by decide) (by decide) (by decide +kernel) (by decide +kernel)) (
  And.intro (sd_go (off := (-52)) (by decide +kernel) (by decide +kernel)) (
  And.intro (sd_iload_n (k := 3) rfl (by decide +kernel) (by decide +kernel)) (
  And.intro (sd_iret (by decide +kernel) rfl) (
  trivial))))))))))))))))))))))))))))))))))))))))))))))))))))))))))

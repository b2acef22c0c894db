theorem kl_RL_19 : Cond.constantLong RL 19 (4294967295) ∈ tG := inG (i := 2063) (by decide +kernel) (by decide +kernel)
theorem lk_RL_101 : Cond.methodLink RL 101 yX12_crowd ∈ tG := inG (i := 1908) (by decide +kernel) (by decide +kernel)
theorem lk_RL_102 : Cond.methodLink RL 102 yX11_shave ∈ tG := inG (i := 1104) (by decide +kernel) (by decide +kernel)
theorem lk_RL_105 : Cond.methodLink RL 105 yX12_shave ∈ tG := inG (i := 1912) (by decide +kernel) (by decide +kernel)
theorem lk_RL_106 : Cond.methodLink RL 106 yX11_trim ∈ tG := inG (i := 1117) (by decide +kernel) (by decide +kernel)
theorem lk_RL_109 : Cond.methodLink RL 109 yX12_trim ∈ tG := inG (i := 1916) (by decide +kernel) (by decide +kernel)
theorem lk_RL_110 : Cond.methodLink RL 110 yX11_swap ∈ tG := inG (i := 1134) (by decide +kernel) (by decide +kernel)
theorem lk_RL_113 : Cond.methodLink RL 113 yX12_swap ∈ tG := inG (i := 1929) (by decide +kernel) (by decide +kernel)
theorem lk_RL_114 : Cond.methodLink RL 114 yX11_back ∈ tG := inG (i := 1147) (by decide +kernel) (by decide +kernel)
theorem lk_RL_117 : Cond.methodLink RL 117 yX12_back ∈ tG := inG (i := 1941) (by decide +kernel) (by decide +kernel)
theorem lk_RL_118 : Cond.methodLink RL 118 yX11_trip ∈ tG := inG (i := 1156) (by decide +kernel) (by decide +kernel)
theorem lk_RL_121 : Cond.methodLink RL 121 yX12_trip ∈ tG := inG (i := 1949) (by decide +kernel) (by decide +kernel)
theorem lk_RL_122 : Cond.methodLink RL 122 yX11_rest ∈ tG := inG (i := 1160) (by decide +kernel) (by decide +kernel)
theorem lk_RL_125 : Cond.methodLink RL 125 yX12_rest ∈ tG := inG (i := 1953) (by decide +kernel) (by decide +kernel)
theorem lk_RL_126 : Cond.methodLink RL 126 yX11_row ∈ tG := inG (i := 1165) (by decide +kernel) (by decide +kernel)
theorem lk_RL_129 : Cond.methodLink RL 129 yX12_row ∈ tG := inG (i := 1957) (by decide +kernel) (by decide +kernel)
theorem lk_RL_130 : Cond.methodLink RL 130 yX11_last ∈ tG := inG (i := 1169) (by decide +kernel) (by decide +kernel)
theorem lk_RL_133 : Cond.methodLink RL 133 yX12_last ∈ tG := inG (i := 1961) (by decide +kernel) (by decide +kernel)
theorem lk_RL_134 : Cond.methodLink RL 134 yX11_later ∈ tG := inG (i := 1173) (by decide +kernel) (by decide +kernel)
theorem lk_RL_137 : Cond.methodLink RL 137 yX12_later ∈ tG := inG (i := 1965) (by decide +kernel) (by decide +kernel)
theorem lk_RL_138 : Cond.methodLink RL 138 yX11_stray ∈ tG := inG (i := 1187) (by decide +kernel) (by decide +kernel)
theorem lk_RL_141 : Cond.methodLink RL 141 yX12_stray ∈ tG := inG (i := 1969) (by decide +kernel) (by decide +kernel)
theorem lk_RL_142 : Cond.methodLink RL 142 yX11_first ∈ tG := inG (i := 1201) (by decide +kernel) (by decide +kernel)
theorem lk_RL_145 : Cond.methodLink RL 145 yX12_first ∈ tG := inG (i := 1981) (by decide +kernel) (by decide +kernel)
theorem lk_RL_146 : Cond.methodLink RL 146 yX11_safe ∈ tG := inG (i := 1205) (by decide +kernel) (by decide +kernel)
theorem lk_RL_149 : Cond.methodLink RL 149 yX12_safe ∈ tG := inG (i := 1985) (by decide +kernel) (by decide +kernel)
theorem lk_RL_150 : Cond.methodLink RL 150 yX11_wide ∈ tG := inG (i := 1209) (by decide +kernel) (by decide +kernel)
theorem lk_RL_153 : Cond.methodLink RL 153 yX12_wide ∈ tG := inG (i := 1989) (by decide +kernel) (by decide +kernel)
theorem lk_RL_154 : Cond.methodLink RL 154 yX11_over ∈ tG := inG (i := 1213) (by decide +kernel) (by decide +kernel)
theorem lk_RL_157 : Cond.methodLink RL 157 yX12_over ∈ tG := inG (i := 1993) (by decide +kernel) (by decide +kernel)
theorem lk_RL_158 : Cond.methodLink RL 158 yX11_see ∈ tG := inG (i := 1221) (by decide +kernel) (by decide +kernel)
theorem lk_RL_162 : Cond.methodLink RL 162 yX12_see ∈ tG := inG (i := 1997) (by decide +kernel) (by decide +kernel)
theorem lk_RL_163 : Cond.methodLink RL 163 yX11_who ∈ tG := inG (i := 1229) (by decide +kernel) (by decide +kernel)
theorem lk_RL_166 : Cond.methodLink RL 166 yX12_who ∈ tG := inG (i := 2001) (by decide +kernel) (by decide +kernel)
theorem lk_RL_167 : Cond.methodLink RL 167 yX11_ask ∈ tG := inG (i := 1243) (by decide +kernel) (by decide +kernel)
theorem lk_RL_170 : Cond.methodLink RL 170 yX12_ask ∈ tG := inG (i := 2013) (by decide +kernel) (by decide +kernel)
theorem lk_RL_171 : Cond.methodLink RL 171 yX11_chance ∈ tG := inG (i := 1257) (by decide +kernel) (by decide +kernel)
theorem lk_RL_175 : Cond.methodLink RL 175 yX12_chance ∈ tG := inG (i := 2018) (by decide +kernel) (by decide +kernel)
theorem lk_RL_181 : Cond.methodLink RL 181 yX12_rests ∈ tG := inG (i := 2024) (by decide +kernel) (by decide +kernel)
theorem lk_RL_182 : Cond.methodLink RL 182 yX12_thrown ∈ tG := inG (i := 1578) (by decide +kernel) (by decide +kernel)
theorem lk_RL_185 : Cond.methodLink RL 185 yX11_weeks ∈ tG := inG (i := 1269) (by decide +kernel) (by decide +kernel)
theorem lk_RL_188 : Cond.methodLink RL 188 yX12_weeks ∈ tG := inG (i := 2031) (by decide +kernel) (by decide +kernel)
theorem lk_RL_189 : Cond.methodLink RL 189 yX11_mark ∈ tG := inG (i := 1291) (by decide +kernel) (by decide +kernel)
theorem lk_RL_193 : Cond.methodLink RL 193 yX12_mark ∈ tG := inG (i := 2047) (by decide +kernel) (by decide +kernel)
theorem lk_RL_194 : Cond.methodLink RL 194 yX11_count ∈ tG := inG (i := 1309) (by decide +kernel) (by decide +kernel)
theorem lk_RL_197 : Cond.methodLink RL 197 yX12_count ∈ tG := inG (i := 2055) (by decide +kernel) (by decide +kernel)
theorem lk_RL_21 : Cond.methodLink RL 21 yX11_feed ∈ tG := inG (i := 514) (by decide +kernel) (by decide +kernel)
theorem lk_RL_25 : Cond.methodLink RL 25 yX12_feed ∈ tG := inG (i := 1582) (by decide +kernel) (by decide +kernel)
theorem lk_RL_26 : Cond.methodLink RL 26 yX11_shop ∈ tG := inG (i := 525) (by decide +kernel) (by decide +kernel)
theorem lk_RL_30 : Cond.methodLink RL 30 yX12_shop ∈ tG := inG (i := 1587) (by decide +kernel) (by decide +kernel)
theorem lk_RL_31 : Cond.methodLink RL 31 yX11_run ∈ tG := inG (i := 853) (by decide +kernel) (by decide +kernel)
theorem lk_RL_34 : Cond.methodLink RL 34 yX12_run ∈ tG := inG (i := 1731) (by decide +kernel) (by decide +kernel)
theorem lk_RL_35 : Cond.methodLink RL 35 yX11_counter ∈ tG := inG (i := 883) (by decide +kernel) (by decide +kernel)
theorem lk_RL_39 : Cond.methodLink RL 39 yX12_counter ∈ tG := inG (i := 1743) (by decide +kernel) (by decide +kernel)
theorem lk_RL_40 : Cond.methodLink RL 40 yX11_ball ∈ tG := inG (i := 895) (by decide +kernel) (by decide +kernel)
theorem lk_RL_43 : Cond.methodLink RL 43 yX12_ball ∈ tG := inG (i := 1751) (by decide +kernel) (by decide +kernel)
theorem lk_RL_44 : Cond.methodLink RL 44 yX11_send ∈ tG := inG (i := 903) (by decide +kernel) (by decide +kernel)
theorem lk_RL_48 : Cond.methodLink RL 48 yX12_send ∈ tG := inG (i := 1759) (by decide +kernel) (by decide +kernel)
theorem lk_RL_49 : Cond.methodLink RL 49 yX11_beat ∈ tG := inG (i := 931) (by decide +kernel) (by decide +kernel)
theorem lk_RL_52 : Cond.methodLink RL 52 yX12_beat ∈ tG := inG (i := 1786) (by decide +kernel) (by decide +kernel)
theorem lk_RL_53 : Cond.methodLink RL 53 yX11_set ∈ tG := inG (i := 959) (by decide +kernel) (by decide +kernel)
theorem lk_RL_56 : Cond.methodLink RL 56 yX12_set ∈ tG := inG (i := 1806) (by decide +kernel) (by decide +kernel)
theorem lk_RL_57 : Cond.methodLink RL 57 yX11_carry ∈ tG := inG (i := 974) (by decide +kernel) (by decide +kernel)
theorem lk_RL_60 : Cond.methodLink RL 60 yX12_carry ∈ tG := inG (i := 1810) (by decide +kernel) (by decide +kernel)
theorem lk_RL_61 : Cond.methodLink RL 61 yX11_day ∈ tG := inG (i := 987) (by decide +kernel) (by decide +kernel)
theorem lk_RL_64 : Cond.methodLink RL 64 yX12_day ∈ tG := inG (i := 1818) (by decide +kernel) (by decide +kernel)
theorem lk_RL_65 : Cond.methodLink RL 65 yX11_undo ∈ tG := inG (i := 1028) (by decide +kernel) (by decide +kernel)
theorem lk_RL_69 : Cond.methodLink RL 69 yX12_undo ∈ tG := inG (i := 1868) (by decide +kernel) (by decide +kernel)
theorem lk_RL_70 : Cond.methodLink RL 70 yX11_judged ∈ tG := inG (i := 1036) (by decide +kernel) (by decide +kernel)
theorem lk_RL_73 : Cond.methodLink RL 73 yX12_judged ∈ tG := inG (i := 1872) (by decide +kernel) (by decide +kernel)
theorem lk_RL_74 : Cond.methodLink RL 74 yX11_falls ∈ tG := inG (i := 1060) (by decide +kernel) (by decide +kernel)
theorem lk_RL_77 : Cond.methodLink RL 77 yX12_falls ∈ tG := inG (i := 1884) (by decide +kernel) (by decide +kernel)
theorem lk_RL_78 : Cond.methodLink RL 78 yX11_catches ∈ tG := inG (i := 1065) (by decide +kernel) (by decide +kernel)
theorem lk_RL_81 : Cond.methodLink RL 81 yX12_catches ∈ tG := inG (i := 1888) (by decide +kernel) (by decide +kernel)
theorem lk_RL_82 : Cond.methodLink RL 82 yX11_span ∈ tG := inG (i := 1070) (by decide +kernel) (by decide +kernel)
theorem lk_RL_85 : Cond.methodLink RL 85 yX12_span ∈ tG := inG (i := 1892) (by decide +kernel) (by decide +kernel)
theorem lk_RL_86 : Cond.methodLink RL 86 yX11_idle ∈ tG := inG (i := 1083) (by decide +kernel) (by decide +kernel)
theorem lk_RL_89 : Cond.methodLink RL 89 yX12_idle ∈ tG := inG (i := 1896) (by decide +kernel) (by decide +kernel)
theorem lk_RL_90 : Cond.methodLink RL 90 yX11_lost ∈ tG := inG (i := 1087) (by decide +kernel) (by decide +kernel)
theorem lk_RL_93 : Cond.methodLink RL 93 yX12_lost ∈ tG := inG (i := 1900) (by decide +kernel) (by decide +kernel)
theorem lk_RL_94 : Cond.methodLink RL 94 yX11_twins ∈ tG := inG (i := 1096) (by decide +kernel) (by decide +kernel)
theorem lk_RL_97 : Cond.methodLink RL 97 yX12_twins ∈ tG := inG (i := 1904) (by decide +kernel) (by decide +kernel)
theorem lk_RL_98 : Cond.methodLink RL 98 yX11_crowd ∈ tG := inG (i := 1100) (by decide +kernel) (by decide +kernel)
theorem m_X11_ask : MV Y_X11_ask 0 11 := ⟨⟨inG (i := 1246) (by decide +kernel) (by decide +kernel), inG (i := 98) (by decide +kernel) (by decide +kernel), by decide, by decide, by decide, by decide +kernel⟩, inG (i := 1244) (by decide +kernel) (by decide +kernel), inG (i := 1245) (by decide +kernel) (by decide +kernel), by decide⟩
theorem m_X11_back : MV Y_X11_back 1 11 := ⟨⟨inG (i := 1150) (by decide +kernel) (by decide +kernel), inG (i := 98) (by decide +kernel) (by decide +kernel), by decide, by decide, by decide, by decide +kernel⟩, inG (i := 1148) (by decide +kernel) (by decide +kernel), inG (i := 1149) (by decide +kernel) (by decide +kernel), by decide⟩
theorem m_X11_ball : MV Y_X11_ball 2 11 := ⟨⟨inG (i := 898) (by decide +kernel) (by decide +kernel), inG (i := 98) (by decide +kernel) (by decide +kernel), by decide, by decide, by decide, by decide +kernel⟩, inG (i := 896) (by decide +kernel) (by decide +kernel), inG (i := 897) (by decide +kernel) (by decide +kernel), by decide⟩
theorem m_X11_beat : MV Y_X11_beat 0 11 := ⟨⟨inG (i := 934) (by decide +kernel) (by decide +kernel), inG (i := 98) (by decide +kernel) (by decide +kernel), by decide, by decide, by decide, by decide +kernel⟩, inG (i := 932) (by decide +kernel) (by decide +kernel), inG (i := 933) (by decide +kernel) (by decide +kernel), by decide⟩
theorem m_X11_carry : MV Y_X11_carry 2 11 := ⟨⟨inG (i := 977) (by decide +kernel) (by decide +kernel), inG (i := 98) (by decide +kernel) (by decide +kernel), by decide, by decide, by decide, by decide +kernel⟩, inG (i := 975) (by decide +kernel) (by decide +kernel), inG (i := 976) (by decide +kernel) (by decide +kernel), by decide⟩
theorem m_X11_catches : MV Y_X11_catches 1 11 := ⟨⟨inG (i := 1068) (by decide +kernel) (by decide +kernel), inG (i := 98) (by decide +kernel) (by decide +kernel), by decide, by decide, by decide, by decide +kernel⟩, inG (i := 1066) (by decide +kernel) (by decide +kernel), inG (i := 1067) (by decide +kernel) (by decide +kernel), by decide⟩
theorem m_X11_chance : MV Y_X11_chance 3 11 := ⟨⟨inG (i := 1260) (by decide +kernel) (by decide +kernel), inG (i := 98) (by decide +kernel) (by decide +kernel), by decide, by decide, by decide, by decide +kernel⟩, inG (i := 1258) (by decide +kernel) (by decide +kernel), inG (i := 1259) (by decide +kernel) (by decide +kernel), by decide⟩
theorem m_X11_count : MV Y_X11_count 1 11 := ⟨⟨inG (i := 1312) (by decide +kernel) (by decide +kernel), inG (i := 98) (by decide +kernel) (by decide +kernel), by decide, by decide, by decide, by decide +kernel⟩, inG (i := 1310) (by decide +kernel) (by decide +kernel), inG (i := 1311) (by decide +kernel) (by decide +kernel), by decide⟩
theorem m_X11_counter : MV Y_X11_counter 2 11 := ⟨⟨inG (i := 886) (by decide +kernel) (by decide +kernel), inG (i := 98) (by decide +kernel) (by decide +kernel), by decide, by decide, by decide, by decide +kernel⟩, inG (i := 884) (by decide +kernel) (by decide +kernel), inG (i := 885) (by decide +kernel) (by decide +kernel), by decide⟩
theorem m_X11_crowd : MV Y_X11_crowd 0 11 := ⟨⟨inG (i := 1103) (by decide +kernel) (by decide +kernel), inG (i := 98) (by decide +kernel) (by decide +kernel), by decide, by decide, by decide, by decide +kernel⟩, inG (i := 1101) (by decide +kernel) (by decide +kernel), inG (i := 1102) (by decide +kernel) (by decide +kernel), by decide⟩
theorem m_X11_day : MV Y_X11_day 0 11 := ⟨⟨inG (i := 990) (by decide +kernel) (by decide +kernel), inG (i := 98) (by decide +kernel) (by decide +kernel), by decide, by decide, by decide, by decide +kernel⟩, inG (i := 988) (by decide +kernel) (by decide +kernel), inG (i := 989) (by decide +kernel) (by decide +kernel), by decide⟩
theorem m_X11_falls : MV Y_X11_falls 1 11 := ⟨⟨inG (i := 1063) (by decide +kernel) (by decide +kernel), inG (i := 98) (by decide +kernel) (by decide +kernel), by decide, by decide, by decide, by decide +kernel⟩, inG (i := 1061) (by decide +kernel) (by decide +kernel), inG (i := 1062) (by decide +kernel) (by decide +kernel), by decide⟩
theorem m_X11_feed : MV Y_X11_feed 3 11 := ⟨⟨inG (i := 517) (by decide +kernel) (by decide +kernel), inG (i := 98) (by decide +kernel) (by decide +kernel), by decide, by decide, by decide, by decide +kernel⟩, inG (i := 515) (by decide +kernel) (by decide +kernel), inG (i := 516) (by decide +kernel) (by decide +kernel), by decide⟩
theorem m_X11_first : MV Y_X11_first 0 11 := ⟨⟨inG (i := 1204) (by decide +kernel) (by decide +kernel), inG (i := 98) (by decide +kernel) (by decide +kernel), by decide, by decide, by decide, by decide +kernel⟩, inG (i := 1202) (by decide +kernel) (by decide +kernel), inG (i := 1203) (by decide +kernel) (by decide +kernel), by decide⟩
theorem m_X11_idle : MV Y_X11_idle 0 11 := ⟨⟨inG (i := 1086) (by decide +kernel) (by decide +kernel), inG (i := 98) (by decide +kernel) (by decide +kernel), by decide, by decide, by decide, by decide +kernel⟩, inG (i := 1084) (by decide +kernel) (by decide +kernel), inG (i := 1085) (by decide +kernel) (by decide +kernel), by decide⟩
theorem m_X11_judged : MV Y_X11_judged 1 11 := ⟨⟨inG (i := 1039) (by decide +kernel) (by decide +kernel), inG (i := 98) (by decide +kernel) (by decide +kernel), by decide, by decide, by decide, by decide +kernel⟩, inG (i := 1037) (by decide +kernel) (by decide +kernel), inG (i := 1038) (by decide +kernel) (by decide +kernel), by decide⟩
theorem m_X11_last : MV Y_X11_last 0 11 := ⟨⟨inG (i := 1172) (by decide +kernel) (by decide +kernel), inG (i := 98) (by decide +kernel) (by decide +kernel), by decide, by decide, by decide, by decide +kernel⟩, inG (i := 1170) (by decide +kernel) (by decide +kernel), inG (i := 1171) (by decide +kernel) (by decide +kernel), by decide⟩
theorem m_X11_later : MV Y_X11_later 2 11 := ⟨⟨inG (i := 1176) (by decide +kernel) (by decide +kernel), inG (i := 98) (by decide +kernel) (by decide +kernel), by decide, by decide, by decide, by decide +kernel⟩, inG (i := 1174) (by decide +kernel) (by decide +kernel), inG (i := 1175) (by decide +kernel) (by decide +kernel), by decide⟩
theorem m_X11_lost : MV Y_X11_lost 0 11 := ⟨⟨inG (i := 1090) (by decide +kernel) (by decide +kernel), inG (i := 98) (by decide +kernel) (by decide +kernel), by decide, by decide, by decide, by decide +kernel⟩, inG (i := 1088) (by decide +kernel) (by decide +kernel), inG (i := 1089) (by decide +kernel) (by decide +kernel), by decide⟩
theorem m_X11_mark : MV Y_X11_mark 2 11 := ⟨⟨inG (i := 1294) (by decide +kernel) (by decide +kernel), inG (i := 98) (by decide +kernel) (by decide +kernel), by decide, by decide, by decide, by decide +kernel⟩, inG (i := 1292) (by decide +kernel) (by decide +kernel), inG (i := 1293) (by decide +kernel) (by decide +kernel), by decide⟩
theorem m_X11_over : MV Y_X11_over 2 11 := ⟨⟨inG (i := 1216) (by decide +kernel) (by decide +kernel), inG (i := 98) (by decide +kernel) (by decide +kernel), by decide, by decide, by decide, by decide +kernel⟩, inG (i := 1214) (by decide +kernel) (by decide +kernel), inG (i := 1215) (by decide +kernel) (by decide +kernel), by decide⟩
theorem m_X11_rest : MV Y_X11_rest 0 11 := ⟨⟨inG (i := 1163) (by decide +kernel) (by decide +kernel), inG (i := 98) (by decide +kernel) (by decide +kernel), by decide, by decide, by decide, by decide +kernel⟩, inG (i := 1161) (by decide +kernel) (by decide +kernel), inG (i := 1162) (by decide +kernel) (by decide +kernel), by decide⟩
theorem m_X11_row : MV Y_X11_row 1 11 := ⟨⟨inG (i := 1168) (by decide +kernel) (by decide +kernel), inG (i := 98) (by decide +kernel) (by decide +kernel), by decide, by decide, by decide, by decide +kernel⟩, inG (i := 1166) (by decide +kernel) (by decide +kernel), inG (i := 1167) (by decide +kernel) (by decide +kernel), by decide⟩
theorem m_X11_run : MV Y_X11_run 0 11 := ⟨⟨inG (i := 856) (by decide +kernel) (by decide +kernel), inG (i := 98) (by decide +kernel) (by decide +kernel), by decide, by decide, by decide, by decide +kernel⟩, inG (i := 854) (by decide +kernel) (by decide +kernel), inG (i := 855) (by decide +kernel) (by decide +kernel), by decide⟩
theorem m_X11_safe : MV Y_X11_safe 1 11 := ⟨⟨inG (i := 1208) (by decide +kernel) (by decide +kernel), inG (i := 98) (by decide +kernel) (by decide +kernel), by decide, by decide, by decide, by decide +kernel⟩, inG (i := 1206) (by decide +kernel) (by decide +kernel), inG (i := 1207) (by decide +kernel) (by decide +kernel), by decide⟩
theorem m_X11_see : MV Y_X11_see 3 11 := ⟨⟨inG (i := 1224) (by decide +kernel) (by decide +kernel), inG (i := 98) (by decide +kernel) (by decide +kernel), by decide, by decide, by decide, by decide +kernel⟩, inG (i := 1222) (by decide +kernel) (by decide +kernel), inG (i := 1223) (by decide +kernel) (by decide +kernel), by decide⟩
theorem m_X11_send : MV Y_X11_send 1 11 := ⟨⟨inG (i := 906) (by decide +kernel) (by decide +kernel), inG (i := 98) (by decide +kernel) (by decide +kernel), by decide, by decide, by decide, by decide +kernel⟩, inG (i := 904) (by decide +kernel) (by decide +kernel), inG (i := 905) (by decide +kernel) (by decide +kernel), by decide⟩
theorem m_X11_set : MV Y_X11_set 2 11 := ⟨⟨inG (i := 962) (by decide +kernel) (by decide +kernel), inG (i := 98) (by decide +kernel) (by decide +kernel), by decide, by decide, by decide, by decide +kernel⟩, inG (i := 960) (by decide +kernel) (by decide +kernel), inG (i := 961) (by decide +kernel) (by decide +kernel), by decide⟩
theorem m_X11_shave : MV Y_X11_shave 1 11 := ⟨⟨inG (i := 1107) (by decide +kernel) (by decide +kernel), inG (i := 98) (by decide +kernel) (by decide +kernel), by decide, by decide, by decide, by decide +kernel⟩, inG (i := 1105) (by decide +kernel) (by decide +kernel), inG (i := 1106) (by decide +kernel) (by decide +kernel), by decide⟩
theorem m_X11_shop : MV Y_X11_shop 0 11 := ⟨⟨inG (i := 528) (by decide +kernel) (by decide +kernel), inG (i := 98) (by decide +kernel) (by decide +kernel), by decide, by decide, by decide, by decide +kernel⟩, inG (i := 526) (by decide +kernel) (by decide +kernel), inG (i := 527) (by decide +kernel) (by decide +kernel), by decide⟩
theorem m_X11_span : MV Y_X11_span 2 11 := ⟨⟨inG (i := 1073) (by decide +kernel) (by decide +kernel), inG (i := 98) (by decide +kernel) (by decide +kernel), by decide, by decide, by decide, by decide +kernel⟩, inG (i := 1071) (by decide +kernel) (by decide +kernel), inG (i := 1072) (by decide +kernel) (by decide +kernel), by decide⟩
theorem m_X11_stray : MV Y_X11_stray 1 11 := ⟨⟨inG (i := 1190) (by decide +kernel) (by decide +kernel), inG (i := 98) (by decide +kernel) (by decide +kernel), by decide, by decide, by decide, by decide +kernel⟩, inG (i := 1188) (by decide +kernel) (by decide +kernel), inG (i := 1189) (by decide +kernel) (by decide +kernel), by decide⟩
theorem m_X11_swap : MV Y_X11_swap 0 11 := ⟨⟨inG (i := 1137) (by decide +kernel) (by decide +kernel), inG (i := 98) (by decide +kernel) (by decide +kernel), by decide, by decide, by decide, by decide +kernel⟩, inG (i := 1135) (by decide +kernel) (by decide +kernel), inG (i := 1136) (by decide +kernel) (by decide +kernel), by decide⟩
theorem m_X11_trim : MV Y_X11_trim 1 11 := ⟨⟨inG (i := 1120) (by decide +kernel) (by decide +kernel), inG (i := 98) (by decide +kernel) (by decide +kernel), by decide, by decide, by decide, by decide +kernel⟩, inG (i := 1118) (by decide +kernel) (by decide +kernel), inG (i := 1119) (by decide +kernel) (by decide +kernel), by decide⟩
theorem m_X11_trip : MV Y_X11_trip 1 11 := ⟨⟨inG (i := 1159) (by decide +kernel) (by decide +kernel), inG (i := 98) (by decide +kernel) (by decide +kernel), by decide, by decide, by decide, by decide +kernel⟩, inG (i := 1157) (by decide +kernel) (by decide +kernel), inG (i := 1158) (by decide +kernel) (by decide +kernel), by decide⟩
theorem m_X11_twins : MV Y_X11_twins 0 11 := ⟨⟨inG (i := 1099) (by decide +kernel) (by decide +kernel), inG (i := 98) (by decide +kernel) (by decide +kernel), by decide, by decide, by decide, by decide +kernel⟩, inG (i := 1097) (by decide +kernel) (by decide +kernel), inG (i := 1098) (by decide +kernel) (by decide +kernel), by decide⟩
theorem m_X11_undo : MV Y_X11_undo 0 11 := ⟨⟨inG (i := 1031) (by decide +kernel) (by decide +kernel), inG (i := 98) (by decide +kernel) (by decide +kernel), by decide, by decide, by decide, by decide +kernel⟩, inG (i := 1029) (by decide +kernel) (by decide +kernel), inG (i := 1030) (by decide +kernel) (by decide +kernel), by decide⟩
theorem m_X11_weeks : MV Y_X11_weeks 3 11 := ⟨⟨inG (i := 1272) (by decide +kernel) (by decide +kernel), inG (i := 98) (by decide +kernel) (by decide +kernel), by decide, by decide, by decide, by decide +kernel⟩, inG (i := 1270) (by decide +kernel) (by decide +kernel), inG (i := 1271) (by decide +kernel) (by decide +kernel), by decide⟩
theorem m_X11_who : MV Y_X11_who 0 11 := ⟨⟨inG (i := 1232) (by decide +kernel) (by decide +kernel), inG (i := 98) (by decide +kernel) (by decide +kernel), by decide, by decide, by decide, by decide +kernel⟩, inG (i := 1230) (by decide +kernel) (by decide +kernel), inG (i := 1231) (by decide +kernel) (by decide +kernel), by decide⟩
theorem m_X11_wide : MV Y_X11_wide 1 11 := ⟨⟨inG (i := 1212) (by decide +kernel) (by decide +kernel), inG (i := 98) (by decide +kernel) (by decide +kernel), by decide, by decide, by decide, by decide +kernel⟩, inG (i := 1210) (by decide +kernel) (by decide +kernel), inG (i := 1211) (by decide +kernel) (by decide +kernel), by decide⟩
theorem m_X12_ask : MV Y_X12_ask 0 12 := ⟨⟨inG (i := 2016) (by decide +kernel) (by decide +kernel), inG (i := 110) (by decide +kernel) (by decide +kernel), by decide, by decide, by decide, by decide +kernel⟩, inG (i := 2014) (by decide +kernel) (by decide +kernel), inG (i := 2015) (by decide +kernel) (by decide +kernel), by decide⟩
theorem m_X12_back : MV Y_X12_back 1 12 := ⟨⟨inG (i := 1944) (by decide +kernel) (by decide +kernel), inG (i := 110) (by decide +kernel) (by decide +kernel), by decide, by decide, by decide, by decide +kernel⟩, inG (i := 1942) (by decide +kernel) (by decide +kernel), inG (i := 1943) (by decide +kernel) (by decide +kernel), by decide⟩
theorem m_X12_ball : MV Y_X12_ball 2 12 := ⟨⟨inG (i := 1754) (by decide +kernel) (by decide +kernel), inG (i := 110) (by decide +kernel) (by decide +kernel), by decide, by decide, by decide, by decide +kernel⟩, inG (i := 1752) (by decide +kernel) (by decide +kernel), inG (i := 1753) (by decide +kernel) (by decide +kernel), by decide⟩
theorem m_X12_beat : MV Y_X12_beat 0 12 := ⟨⟨inG (i := 1789) (by decide +kernel) (by decide +kernel), inG (i := 110) (by decide +kernel) (by decide +kernel), by decide, by decide, by decide, by decide +kernel⟩, inG (i := 1787) (by decide +kernel) (by decide +kernel), inG (i := 1788) (by decide +kernel) (by decide +kernel), by decide⟩
theorem m_X12_carry : MV Y_X12_carry 2 12 := ⟨⟨inG (i := 1813) (by decide +kernel) (by decide +kernel), inG (i := 110) (by decide +kernel) (by decide +kernel), by decide, by decide, by decide, by decide +kernel⟩, inG (i := 1811) (by decide +kernel) (by decide +kernel), inG (i := 1812) (by decide +kernel) (by decide +kernel), by decide⟩
theorem m_X12_catches : MV Y_X12_catches 1 12 := ⟨⟨inG (i := 1891) (by decide +kernel) (by decide +kernel), inG (i := 110) (by decide +kernel) (by decide +kernel), by decide, by decide, by decide, by decide +kernel⟩, inG (i := 1889) (by decide +kernel) (by decide +kernel), inG (i := 1890) (by decide +kernel) (by decide +kernel), by decide⟩
theorem m_X12_chance : MV Y_X12_chance 3 12 := ⟨⟨inG (i := 2021) (by decide +kernel) (by decide +kernel), inG (i := 110) (by decide +kernel) (by decide +kernel), by decide, by decide, by decide, by decide +kernel⟩, inG (i := 2019) (by decide +kernel) (by decide +kernel), inG (i := 2020) (by decide +kernel) (by decide +kernel), by decide⟩
theorem m_X12_count : MV Y_X12_count 1 12 := ⟨⟨inG (i := 2058) (by decide +kernel) (by decide +kernel), inG (i := 110) (by decide +kernel) (by decide +kernel), by decide, by decide, by decide, by decide +kernel⟩, inG (i := 2056) (by decide +kernel) (by decide +kernel), inG (i := 2057) (by decide +kernel) (by decide +kernel), by decide⟩
theorem m_X12_counter : MV Y_X12_counter 2 12 := ⟨⟨inG (i := 1746) (by decide +kernel) (by decide +kernel), inG (i := 110) (by decide +kernel) (by decide +kernel), by decide, by decide, by decide, by decide +kernel⟩, inG (i := 1744) (by decide +kernel) (by decide +kernel), inG (i := 1745) (by decide +kernel) (by decide +kernel), by decide⟩
theorem m_X12_crowd : MV Y_X12_crowd 0 12 := ⟨⟨inG (i := 1911) (by decide +kernel) (by decide +kernel), inG (i := 110) (by decide +kernel) (by decide +kernel), by decide, by decide, by decide, by decide +kernel⟩, inG (i := 1909) (by decide +kernel) (by decide +kernel), inG (i := 1910) (by decide +kernel) (by decide +kernel), by decide⟩
theorem m_X12_day : MV Y_X12_day 0 12 := ⟨⟨inG (i := 1821) (by decide +kernel) (by decide +kernel), inG (i := 110) (by decide +kernel) (by decide +kernel), by decide, by decide, by decide, by decide +kernel⟩, inG (i := 1819) (by decide +kernel) (by decide +kernel), inG (i := 1820) (by decide +kernel) (by decide +kernel), by decide⟩
theorem m_X12_falls : MV Y_X12_falls 1 12 := ⟨⟨inG (i := 1887) (by decide +kernel) (by decide +kernel), inG (i := 110) (by decide +kernel) (by decide +kernel), by decide, by decide, by decide, by decide +kernel⟩, inG (i := 1885) (by decide +kernel) (by decide +kernel), inG (i := 1886) (by decide +kernel) (by decide +kernel), by decide⟩
theorem m_X12_feed : MV Y_X12_feed 3 12 := ⟨⟨inG (i := 1585) (by decide +kernel) (by decide +kernel), inG (i := 110) (by decide +kernel) (by decide +kernel), by decide, by decide, by decide, by decide +kernel⟩, inG (i := 1583) (by decide +kernel) (by decide +kernel), inG (i := 1584) (by decide +kernel) (by decide +kernel), by decide⟩
theorem m_X12_first : MV Y_X12_first 0 12 := ⟨⟨inG (i := 1984) (by decide +kernel) (by decide +kernel), inG (i := 110) (by decide +kernel) (by decide +kernel), by decide, by decide, by decide, by decide +kernel⟩, inG (i := 1982) (by decide +kernel) (by decide +kernel), inG (i := 1983) (by decide +kernel) (by decide +kernel), by decide⟩
theorem m_X12_idle : MV Y_X12_idle 0 12 := ⟨⟨inG (i := 1899) (by decide +kernel) (by decide +kernel), inG (i := 110) (by decide +kernel) (by decide +kernel), by decide, by decide, by decide, by decide +kernel⟩, inG (i := 1897) (by decide +kernel) (by decide +kernel), inG (i := 1898) (by decide +kernel) (by decide +kernel), by decide⟩
theorem m_X12_judged : MV Y_X12_judged 1 12 := ⟨⟨inG (i := 1875) (by decide +kernel) (by decide +kernel), inG (i := 110) (by decide +kernel) (by decide +kernel), by decide, by decide, by decide, by decide +kernel⟩, inG (i := 1873) (by decide +kernel) (by decide +kernel), inG (i := 1874) (by decide +kernel) (by decide +kernel), by decide⟩
theorem m_X12_last : MV Y_X12_last 0 12 := ⟨⟨inG (i := 1964) (by decide +kernel) (by decide +kernel), inG (i := 110) (by decide +kernel) (by decide +kernel), by decide, by decide, by decide, by decide +kernel⟩, inG (i := 1962) (by decide +kernel) (by decide +kernel), inG (i := 1963) (by decide +kernel) (by decide +kernel), by decide⟩
theorem m_X12_later : MV Y_X12_later 2 12 := ⟨⟨inG (i := 1968) (by decide +kernel) (by decide +kernel), inG (i := 110) (by decide +kernel) (by decide +kernel), by decide, by decide, by decide, by decide +kernel⟩, inG (i := 1966) (by decide +kernel) (by decide +kernel), inG (i := 1967) (by decide +kernel) (by decide +kernel), by decide⟩
theorem m_X12_lost : MV Y_X12_lost 0 12 := ⟨⟨inG (i := 1903) (by decide +kernel) (by decide +kernel), inG (i := 110) (by decide +kernel) (by decide +kernel), by decide, by decide, by decide, by decide +kernel⟩, inG (i := 1901) (by decide +kernel) (by decide +kernel), inG (i := 1902) (by decide +kernel) (by decide +kernel), by decide⟩
theorem m_X12_mark : MV Y_X12_mark 2 12 := ⟨⟨inG (i := 2050) (by decide +kernel) (by decide +kernel), inG (i := 110) (by decide +kernel) (by decide +kernel), by decide, by decide, by decide, by decide +kernel⟩, inG (i := 2048) (by decide +kernel) (by decide +kernel), inG (i := 2049) (by decide +kernel) (by decide +kernel), by decide⟩
theorem m_X12_over : MV Y_X12_over 2 12 := ⟨⟨inG (i := 1996) (by decide +kernel) (by decide +kernel), inG (i := 110) (by decide +kernel) (by decide +kernel), by decide, by decide, by decide, by decide +kernel⟩, inG (i := 1994) (by decide +kernel) (by decide +kernel), inG (i := 1995) (by decide +kernel) (by decide +kernel), by decide⟩
theorem m_X12_rest : MV Y_X12_rest 0 12 := ⟨⟨inG (i := 1956) (by decide +kernel) (by decide +kernel), inG (i := 110) (by decide +kernel) (by decide +kernel), by decide, by decide, by decide, by decide +kernel⟩, inG (i := 1954) (by decide +kernel) (by decide +kernel), inG (i := 1955) (by decide +kernel) (by decide +kernel), by decide⟩
theorem m_X12_rests : MV Y_X12_rests 4 12 := ⟨⟨inG (i := 2027) (by decide +kernel) (by decide +kernel), inG (i := 110) (by decide +kernel) (by decide +kernel), by decide, by decide, by decide, by decide +kernel⟩, inG (i := 2025) (by decide +kernel) (by decide +kernel), inG (i := 2026) (by decide +kernel) (by decide +kernel), by decide⟩
theorem m_X12_row : MV Y_X12_row 1 12 := ⟨⟨inG (i := 1960) (by decide +kernel) (by decide +kernel), inG (i := 110) (by decide +kernel) (by decide +kernel), by decide, by decide, by decide, by decide +kernel⟩, inG (i := 1958) (by decide +kernel) (by decide +kernel), inG (i := 1959) (by decide +kernel) (by decide +kernel), by decide⟩
theorem m_X12_run : MV Y_X12_run 0 12 := ⟨⟨inG (i := 1734) (by decide +kernel) (by decide +kernel), inG (i := 110) (by decide +kernel) (by decide +kernel), by decide, by decide, by decide, by decide +kernel⟩, inG (i := 1732) (by decide +kernel) (by decide +kernel), inG (i := 1733) (by decide +kernel) (by decide +kernel), by decide⟩
theorem m_X12_safe : MV Y_X12_safe 1 12 := ⟨⟨inG (i := 1988) (by decide +kernel) (by decide +kernel), inG (i := 110) (by decide +kernel) (by decide +kernel), by decide, by decide, by decide, by decide +kernel⟩, inG (i := 1986) (by decide +kernel) (by decide +kernel), inG (i := 1987) (by decide +kernel) (by decide +kernel), by decide⟩
theorem m_X12_see : MV Y_X12_see 3 12 := ⟨⟨inG (i := 2000) (by decide +kernel) (by decide +kernel), inG (i := 110) (by decide +kernel) (by decide +kernel), by decide, by decide, by decide, by decide +kernel⟩, inG (i := 1998) (by decide +kernel) (by decide +kernel), inG (i := 1999) (by decide +kernel) (by decide +kernel), by decide⟩
theorem m_X12_send : MV Y_X12_send 1 12 := ⟨⟨inG (i := 1762) (by decide +kernel) (by decide +kernel), inG (i := 110) (by decide +kernel) (by decide +kernel), by decide, by decide, by decide, by decide +kernel⟩, inG (i := 1760) (by decide +kernel) (by decide +kernel), inG (i := 1761) (by decide +kernel) (by decide +kernel), by decide⟩
theorem m_X12_set : MV Y_X12_set 2 12 := ⟨⟨inG (i := 1809) (by decide +kernel) (by decide +kernel), inG (i := 110) (by decide +kernel) (by decide +kernel), by decide, by decide, by decide, by decide +kernel⟩, inG (i := 1807) (by decide +kernel) (by decide +kernel), inG (i := 1808) (by decide +kernel) (by decide +kernel), by decide⟩
theorem m_X12_shave : MV Y_X12_shave 1 12 := ⟨⟨inG (i := 1915) (by decide +kernel) (by decide +kernel), inG (i := 110) (by decide +kernel) (by decide +kernel), by decide, by decide, by decide, by decide +kernel⟩, inG (i := 1913) (by decide +kernel) (by decide +kernel), inG (i := 1914) (by decide +kernel) (by decide +kernel), by decide⟩
theorem m_X12_shop : MV Y_X12_shop 0 12 := ⟨⟨inG (i := 1590) (by decide +kernel) (by decide +kernel), inG (i := 110) (by decide +kernel) (by decide +kernel), by decide, by decide, by decide, by decide +kernel⟩, inG (i := 1588) (by decide +kernel) (by decide +kernel), inG (i := 1589) (by decide +kernel) (by decide +kernel), by decide⟩
theorem m_X12_span : MV Y_X12_span 2 12 := ⟨⟨inG (i := 1895) (by decide +kernel) (by decide +kernel), inG (i := 110) (by decide +kernel) (by decide +kernel), by decide, by decide, by decide, by decide +kernel⟩, inG (i := 1893) (by decide +kernel) (by decide +kernel), inG (i := 1894) (by decide +kernel) (by decide +kernel), by decide⟩
theorem m_X12_stray : MV Y_X12_stray 1 12 := ⟨⟨inG (i := 1972) (by decide +kernel) (by decide +kernel), inG (i := 110) (by decide +kernel) (by decide +kernel), by decide, by decide, by decide, by decide +kernel⟩, inG (i := 1970) (by decide +kernel) (by decide +kernel), inG (i := 1971) (by decide +kernel) (by decide +kernel), by decide⟩
theorem m_X12_swap : MV Y_X12_swap 0 12 := ⟨⟨inG (i := 1932) (by decide +kernel) (by decide +kernel), inG (i := 110) (by decide +kernel) (by decide +kernel), by decide, by decide, by decide, by decide +kernel⟩, inG (i := 1930) (by decide +kernel) (by decide +kernel), inG (i := 1931) (by decide +kernel) (by decide +kernel), by decide⟩
theorem m_X12_thrown : MV Y_X12_thrown 0 12 := ⟨⟨inG (i := 1581) (by decide +kernel) (by decide +kernel), inG (i := 110) (by decide +kernel) (by decide +kernel), by decide, by decide, by decide, by decide +kernel⟩, inG (i := 1579) (by decide +kernel) (by decide +kernel), inG (i := 1580) (by decide +kernel) (by decide +kernel), by decide⟩
theorem m_X12_trim : MV Y_X12_trim 1 12 := ⟨⟨inG (i := 1919) (by decide +kernel) (by decide +kernel), inG (i := 110) (by decide +kernel) (by decide +kernel), by decide, by decide, by decide, by decide +kernel⟩, inG (i := 1917) (by decide +kernel) (by decide +kernel), inG (i := 1918) (by decide +kernel) (by decide +kernel), by decide⟩
theorem m_X12_trip : MV Y_X12_trip 1 12 := ⟨⟨inG (i := 1952) (by decide +kernel) (by decide +kernel), inG (i := 110) (by decide +kernel) (by decide +kernel), by decide, by decide, by decide, by decide +kernel⟩, inG (i := 1950) (by decide +kernel) (by decide +kernel), inG (i := 1951) (by decide +kernel) (by decide +kernel), by decide⟩
theorem m_X12_twins : MV Y_X12_twins 0 12 := ⟨⟨inG (i := 1907) (by decide +kernel) (by decide +kernel), inG (i := 110) (by decide +kernel) (by decide +kernel), by decide, by decide, by decide, by decide +kernel⟩, inG (i := 1905) (by decide +kernel) (by decide +kernel), inG (i := 1906) (by decide +kernel) (by decide +kernel), by decide⟩
theorem m_X12_undo : MV Y_X12_undo 0 12 := ⟨⟨inG (i := 1871) (by decide +kernel) (by decide +kernel), inG (i := 110) (by decide +kernel) (by decide +kernel), by decide, by decide, by decide, by decide +kernel⟩, inG (i := 1869) (by decide +kernel) (by decide +kernel), inG (i := 1870) (by decide +kernel) (by decide +kernel), by decide⟩
theorem m_X12_weeks : MV Y_X12_weeks 3 12 := ⟨⟨inG (i := 2034) (by decide +kernel) (by decide +kernel), inG (i := 110) (by decide +kernel) (by decide +kernel), by decide, by decide, by decide, by decide +kernel⟩, inG (i := 2032) (by decide +kernel) (by decide +kernel), inG (i := 2033) (by decide +kernel) (by decide +kernel), by decide⟩
theorem m_X12_wide : MV Y_X12_wide 1 12 := ⟨⟨inG (i := 1992) (by decide +kernel) (by decide +kernel), inG (i := 110) (by decide +kernel) (by decide +kernel), by decide, by decide, by decide, by decide +kernel⟩, inG (i := 1990) (by decide +kernel) (by decide +kernel), inG (i := 1991) (by decide +kernel) (by decide +kernel), by decide⟩
theorem lk_RL_176 : Cond.methodLink RL 176 yL_rests ∈ tG := inG (i := 1315) (by decide +kernel) (by decide +kernel)
theorem lw_1 : Cond.codeWith yL_rests cL_rests 7 (some .int) [(0, 14, 17, 13)] ∈ tG := inG (i := 1317) (by decide +kernel) (by decide +kernel)
theorem lw_2 : Cond.initialized yL_rests.cls ∈ tG := inG (i := 97) (by decide +kernel) (by decide +kernel)
theorem lw_4 : yL_rests.cls ≠ "java/lang/invoke/MethodHandle" ∧ yL_rests.cls ≠ "java/lang/invoke/VarHandle" ∧ (parseMethodDescriptor yL_rests.desc).map (fun d => d.parameters.length) = some 6 := by decide +kernel
theorem lw_5 : Cond.static yL_rests ∈ tG := inG (i := 1316) (by decide +kernel) (by decide +kernel)
abbrev Y_L_law : My := (yL_law, cL_law, 7, some .boolean)
theorem dL_law_0 : decode cL_law 0 = .ok (.new 8, 3) := by decide +kernel
theorem dL_law_3 : decode cL_law 3 = .ok (.dup, 1) := by decide +kernel
theorem dL_law_4 : decode cL_law 4 = .ok (.invokespecial 15, 3) := by decide +kernel
theorem dL_law_7 : decode cL_law 7 = .ok (.astore_n 1, 1) := by decide +kernel
theorem dL_law_8 : decode cL_law 8 = .ok (.new 16, 3) := by decide +kernel
theorem dL_law_11 : decode cL_law 11 = .ok (.dup, 1) := by decide +kernel
theorem dL_law_12 : decode cL_law 12 = .ok (.invokespecial 18, 3) := by decide +kernel
theorem dL_law_15 : decode cL_law 15 = .ok (.astore_n 2, 1) := by decide +kernel
theorem dL_law_16 : decode cL_law 16 = .ok (.iconst 1, 1) := by decide +kernel
theorem dL_law_17 : decode cL_law 17 = .ok (.newarray .long, 2) := by decide +kernel
theorem dL_law_19 : decode cL_law 19 = .ok (.astore_n 3, 1) := by decide +kernel
theorem dL_law_20 : decode cL_law 20 = .ok (.iconst 0, 1) := by decide +kernel
theorem dL_law_21 : decode cL_law 21 = .ok (.istore 4, 2) := by decide +kernel
theorem dL_law_23 : decode cL_law 23 = .ok (.iload 4, 2) := by decide +kernel
theorem dL_law_25 : decode cL_law 25 = .ok (.aload_n 0, 1) := by decide +kernel
theorem dL_law_26 : decode cL_law 26 = .ok (.arraylength, 1) := by decide +kernel
theorem dL_law_27 : decode cL_law 27 = .ok (.bipush 7, 2) := by decide +kernel
theorem dL_law_29 : decode cL_law 29 = .ok (.isub, 1) := by decide +kernel
theorem dL_law_30 : decode cL_law 30 = .ok (.if_icmp .gt 1430, 3) := by decide +kernel
theorem dL_law_33 : decode cL_law 33 = .ok (.aload_n 0, 1) := by decide +kernel
theorem dL_law_34 : decode cL_law 34 = .ok (.iload 4, 2) := by decide +kernel
theorem dL_law_36 : decode cL_law 36 = .ok (.iaload, 1) := by decide +kernel
theorem dL_law_37 : decode cL_law 37 = .ok (.bipush 63, 2) := by decide +kernel
theorem dL_law_39 : decode cL_law 39 = .ok (.iand, 1) := by decide +kernel
theorem dL_law_40 : decode cL_law 40 = .ok (.tableswitch 1414 0 40 #[180, 327, 340, 353, 390, 427, 452, 465, 502, 539, 552, 565, 590, 615, 640, 677, 690, 703, 716, 729, 754, 779, 792, 817, 842, 855, 880, 893, 930, 955, 968, 993, 1018, 1055, 1120, 1133, 1146, 1195, 1287, 1336, 1389], 180) := by decide +kernel
theorem dL_law_220 : decode cL_law 220 = .ok (.aload_n 1, 1) := by decide +kernel
theorem dL_law_221 : decode cL_law 221 = .ok (.aload_n 0, 1) := by decide +kernel
theorem dL_law_222 : decode cL_law 222 = .ok (.iload 4, 2) := by decide +kernel
theorem dL_law_224 : decode cL_law 224 = .ok (.iconst 1, 1) := by decide +kernel
theorem dL_law_225 : decode cL_law 225 = .ok (.iadd, 1) := by decide +kernel
theorem dL_law_226 : decode cL_law 226 = .ok (.iaload, 1) := by decide +kernel
theorem dL_law_227 : decode cL_law 227 = .ok (.i2l, 1) := by decide +kernel
theorem dL_law_228 : decode cL_law 228 = .ok (.bipush 32, 2) := by decide +kernel
theorem dL_law_230 : decode cL_law 230 = .ok (.lshl, 1) := by decide +kernel
theorem dL_law_231 : decode cL_law 231 = .ok (.aload_n 0, 1) := by decide +kernel
theorem dL_law_232 : decode cL_law 232 = .ok (.iload 4, 2) := by decide +kernel
theorem dL_law_234 : decode cL_law 234 = .ok (.iconst 2, 1) := by decide +kernel
theorem dL_law_235 : decode cL_law 235 = .ok (.iadd, 1) := by decide +kernel
theorem dL_law_236 : decode cL_law 236 = .ok (.iaload, 1) := by decide +kernel
theorem dL_law_237 : decode cL_law 237 = .ok (.i2l, 1) := by decide +kernel
theorem dL_law_238 : decode cL_law 238 = .ok (.ldc2_w 19, 3) := by decide +kernel
theorem dL_law_241 : decode cL_law 241 = .ok (.land, 1) := by decide +kernel
theorem dL_law_242 : decode cL_law 242 = .ok (.lor, 1) := by decide +kernel
theorem dL_law_243 : decode cL_law 243 = .ok (.aload_n 0, 1) := by decide +kernel
theorem dL_law_244 : decode cL_law 244 = .ok (.iload 4, 2) := by decide +kernel
theorem dL_law_246 : decode cL_law 246 = .ok (.iconst 3, 1) := by decide +kernel
theorem dL_law_247 : decode cL_law 247 = .ok (.iadd, 1) := by decide +kernel
theorem dL_law_248 : decode cL_law 248 = .ok (.iaload, 1) := by decide +kernel
theorem dL_law_249 : decode cL_law 249 = .ok (.i2l, 1) := by decide +kernel
theorem dL_law_250 : decode cL_law 250 = .ok (.bipush 32, 2) := by decide +kernel
theorem dL_law_252 : decode cL_law 252 = .ok (.lshl, 1) := by decide +kernel
theorem dL_law_253 : decode cL_law 253 = .ok (.aload_n 0, 1) := by decide +kernel
theorem dL_law_254 : decode cL_law 254 = .ok (.iload 4, 2) := by decide +kernel
theorem dL_law_256 : decode cL_law 256 = .ok (.iconst 4, 1) := by decide +kernel
theorem dL_law_257 : decode cL_law 257 = .ok (.iadd, 1) := by decide +kernel
theorem dL_law_258 : decode cL_law 258 = .ok (.iaload, 1) := by decide +kernel
theorem dL_law_259 : decode cL_law 259 = .ok (.i2l, 1) := by decide +kernel
theorem dL_law_260 : decode cL_law 260 = .ok (.ldc2_w 19, 3) := by decide +kernel
theorem dL_law_263 : decode cL_law 263 = .ok (.land, 1) := by decide +kernel
theorem dL_law_264 : decode cL_law 264 = .ok (.lor, 1) := by decide +kernel
theorem dL_law_265 : decode cL_law 265 = .ok (.aload_n 0, 1) := by decide +kernel
theorem dL_law_266 : decode cL_law 266 = .ok (.iload 4, 2) := by decide +kernel
theorem dL_law_268 : decode cL_law 268 = .ok (.iconst 5, 1) := by decide +kernel
theorem dL_law_269 : decode cL_law 269 = .ok (.iadd, 1) := by decide +kernel
theorem dL_law_270 : decode cL_law 270 = .ok (.iaload, 1) := by decide +kernel
theorem dL_law_271 : decode cL_law 271 = .ok (.i2l, 1) := by decide +kernel
theorem dL_law_272 : decode cL_law 272 = .ok (.bipush 32, 2) := by decide +kernel
theorem dL_law_274 : decode cL_law 274 = .ok (.lshl, 1) := by decide +kernel
theorem dL_law_275 : decode cL_law 275 = .ok (.aload_n 0, 1) := by decide +kernel
theorem dL_law_276 : decode cL_law 276 = .ok (.iload 4, 2) := by decide +kernel
theorem dL_law_278 : decode cL_law 278 = .ok (.bipush 6, 2) := by decide +kernel
theorem dL_law_280 : decode cL_law 280 = .ok (.iadd, 1) := by decide +kernel
theorem dL_law_281 : decode cL_law 281 = .ok (.iaload, 1) := by decide +kernel
theorem dL_law_282 : decode cL_law 282 = .ok (.i2l, 1) := by decide +kernel
theorem dL_law_283 : decode cL_law 283 = .ok (.ldc2_w 19, 3) := by decide +kernel
theorem dL_law_286 : decode cL_law 286 = .ok (.land, 1) := by decide +kernel
theorem dL_law_287 : decode cL_law 287 = .ok (.lor, 1) := by decide +kernel
theorem dL_law_288 : decode cL_law 288 = .ok (.invokevirtual 21, 3) := by decide +kernel
theorem dL_law_291 : decode cL_law 291 = .ok (.aload_n 2, 1) := by decide +kernel
theorem dL_law_292 : decode cL_law 292 = .ok (.aload_n 0, 1) := by decide +kernel
theorem dL_law_293 : decode cL_law 293 = .ok (.iload 4, 2) := by decide +kernel
theorem dL_law_295 : decode cL_law 295 = .ok (.iconst 1, 1) := by decide +kernel
theorem dL_law_296 : decode cL_law 296 = .ok (.iadd, 1) := by decide +kernel
theorem dL_law_297 : decode cL_law 297 = .ok (.iaload, 1) := by decide +kernel
theorem dL_law_298 : decode cL_law 298 = .ok (.i2l, 1) := by decide +kernel
theorem dL_law_299 : decode cL_law 299 = .ok (.bipush 32, 2) := by decide +kernel
theorem dL_law_301 : decode cL_law 301 = .ok (.lshl, 1) := by decide +kernel
theorem dL_law_302 : decode cL_law 302 = .ok (.aload_n 0, 1) := by decide +kernel
theorem dL_law_303 : decode cL_law 303 = .ok (.iload 4, 2) := by decide +kernel
theorem dL_law_305 : decode cL_law 305 = .ok (.iconst 2, 1) := by decide +kernel
theorem dL_law_306 : decode cL_law 306 = .ok (.iadd, 1) := by decide +kernel
theorem dL_law_307 : decode cL_law 307 = .ok (.iaload, 1) := by decide +kernel
theorem dL_law_308 : decode cL_law 308 = .ok (.i2l, 1) := by decide +kernel
theorem dL_law_309 : decode cL_law 309 = .ok (.ldc2_w 19, 3) := by decide +kernel
theorem dL_law_312 : decode cL_law 312 = .ok (.land, 1) := by decide +kernel
theorem dL_law_313 : decode cL_law 313 = .ok (.lor, 1) := by decide +kernel
theorem dL_law_314 : decode cL_law 314 = .ok (.aload_n 0, 1) := by decide +kernel
theorem dL_law_315 : decode cL_law 315 = .ok (.iload 4, 2) := by decide +kernel
theorem dL_law_317 : decode cL_law 317 = .ok (.iconst 3, 1) := by decide +kernel
theorem dL_law_318 : decode cL_law 318 = .ok (.iadd, 1) := by decide +kernel
theorem dL_law_319 : decode cL_law 319 = .ok (.iaload, 1) := by decide +kernel
theorem dL_law_320 : decode cL_law 320 = .ok (.i2l, 1) := by decide +kernel
theorem dL_law_321 : decode cL_law 321 = .ok (.bipush 32, 2) := by decide +kernel
theorem dL_law_323 : decode cL_law 323 = .ok (.lshl, 1) := by decide +kernel
theorem dL_law_324 : decode cL_law 324 = .ok (.aload_n 0, 1) := by decide +kernel
theorem dL_law_325 : decode cL_law 325 = .ok (.iload 4, 2) := by decide +kernel
theorem dL_law_327 : decode cL_law 327 = .ok (.iconst 4, 1) := by decide +kernel
theorem dL_law_328 : decode cL_law 328 = .ok (.iadd, 1) := by decide +kernel
theorem dL_law_329 : decode cL_law 329 = .ok (.iaload, 1) := by decide +kernel
theorem dL_law_330 : decode cL_law 330 = .ok (.i2l, 1) := by decide +kernel
theorem dL_law_331 : decode cL_law 331 = .ok (.ldc2_w 19, 3) := by decide +kernel
theorem dL_law_334 : decode cL_law 334 = .ok (.land, 1) := by decide +kernel
theorem dL_law_335 : decode cL_law 335 = .ok (.lor, 1) := by decide +kernel
theorem dL_law_336 : decode cL_law 336 = .ok (.aload_n 0, 1) := by decide +kernel
theorem dL_law_337 : decode cL_law 337 = .ok (.iload 4, 2) := by decide +kernel
theorem dL_law_339 : decode cL_law 339 = .ok (.iconst 5, 1) := by decide +kernel
theorem dL_law_340 : decode cL_law 340 = .ok (.iadd, 1) := by decide +kernel
theorem dL_law_341 : decode cL_law 341 = .ok (.iaload, 1) := by decide +kernel
theorem dL_law_342 : decode cL_law 342 = .ok (.i2l, 1) := by decide +kernel
theorem dL_law_343 : decode cL_law 343 = .ok (.bipush 32, 2) := by decide +kernel
theorem dL_law_345 : decode cL_law 345 = .ok (.lshl, 1) := by decide +kernel
theorem dL_law_346 : decode cL_law 346 = .ok (.aload_n 0, 1) := by decide +kernel
theorem dL_law_347 : decode cL_law 347 = .ok (.iload 4, 2) := by decide +kernel
theorem dL_law_349 : decode cL_law 349 = .ok (.bipush 6, 2) := by decide +kernel
theorem dL_law_351 : decode cL_law 351 = .ok (.iadd, 1) := by decide +kernel
theorem dL_law_352 : decode cL_law 352 = .ok (.iaload, 1) := by decide +kernel
theorem dL_law_353 : decode cL_law 353 = .ok (.i2l, 1) := by decide +kernel
theorem dL_law_354 : decode cL_law 354 = .ok (.ldc2_w 19, 3) := by decide +kernel
theorem dL_law_357 : decode cL_law 357 = .ok (.land, 1) := by decide +kernel
theorem dL_law_358 : decode cL_law 358 = .ok (.lor, 1) := by decide +kernel
theorem dL_law_359 : decode cL_law 359 = .ok (.invokevirtual 25, 3) := by decide +kernel
theorem dL_law_362 : decode cL_law 362 = .ok (.if_icmp .eq 1092, 3) := by decide +kernel
theorem dL_law_365 : decode cL_law 365 = .ok (.iconst 0, 1) := by decide +kernel
theorem dL_law_366 : decode cL_law 366 = .ok (.ireturn, 1) := by decide +kernel
theorem dL_law_367 : decode cL_law 367 = .ok (.aload_n 1, 1) := by decide +kernel
theorem dL_law_368 : decode cL_law 368 = .ok (.invokevirtual 26, 3) := by decide +kernel
theorem dL_law_371 : decode cL_law 371 = .ok (.aload_n 2, 1) := by decide +kernel
theorem dL_law_372 : decode cL_law 372 = .ok (.invokevirtual 30, 3) := by decide +kernel
theorem dL_law_375 : decode cL_law 375 = .ok (.if_icmp .eq 1079, 3) := by decide +kernel
theorem dL_law_378 : decode cL_law 378 = .ok (.iconst 0, 1) := by decide +kernel
theorem dL_law_379 : decode cL_law 379 = .ok (.ireturn, 1) := by decide +kernel
theorem dL_law_380 : decode cL_law 380 = .ok (.aload_n 1, 1) := by decide +kernel
theorem dL_law_381 : decode cL_law 381 = .ok (.invokevirtual 31, 3) := by decide +kernel
theorem dL_law_384 : decode cL_law 384 = .ok (.aload_n 2, 1) := by decide +kernel
theorem dL_law_385 : decode cL_law 385 = .ok (.invokevirtual 34, 3) := by decide +kernel
theorem dL_law_388 : decode cL_law 388 = .ok (.if_icmp .eq 1066, 3) := by decide +kernel
theorem dL_law_391 : decode cL_law 391 = .ok (.iconst 0, 1) := by decide +kernel
theorem dL_law_392 : decode cL_law 392 = .ok (.ireturn, 1) := by decide +kernel
theorem dL_law_393 : decode cL_law 393 = .ok (.aload_n 1, 1) := by decide +kernel
theorem dL_law_394 : decode cL_law 394 = .ok (.aload_n 0, 1) := by decide +kernel
theorem dL_law_395 : decode cL_law 395 = .ok (.iload 4, 2) := by decide +kernel
theorem dL_law_397 : decode cL_law 397 = .ok (.iconst 1, 1) := by decide +kernel
theorem dL_law_398 : decode cL_law 398 = .ok (.iadd, 1) := by decide +kernel
theorem dL_law_399 : decode cL_law 399 = .ok (.iaload, 1) := by decide +kernel
theorem dL_law_400 : decode cL_law 400 = .ok (.aload_n 0, 1) := by decide +kernel
theorem dL_law_401 : decode cL_law 401 = .ok (.iload 4, 2) := by decide +kernel
theorem dL_law_403 : decode cL_law 403 = .ok (.iconst 2, 1) := by decide +kernel
theorem dL_law_404 : decode cL_law 404 = .ok (.iadd, 1) := by decide +kernel
theorem dL_law_405 : decode cL_law 405 = .ok (.iaload, 1) := by decide +kernel
theorem dL_law_406 : decode cL_law 406 = .ok (.invokevirtual 35, 3) := by decide +kernel
theorem dL_law_409 : decode cL_law 409 = .ok (.aload_n 2, 1) := by decide +kernel
theorem dL_law_410 : decode cL_law 410 = .ok (.aload_n 0, 1) := by decide +kernel
theorem dL_law_411 : decode cL_law 411 = .ok (.iload 4, 2) := by decide +kernel
theorem dL_law_413 : decode cL_law 413 = .ok (.iconst 1, 1) := by decide +kernel
theorem dL_law_414 : decode cL_law 414 = .ok (.iadd, 1) := by decide +kernel
theorem dL_law_415 : decode cL_law 415 = .ok (.iaload, 1) := by decide +kernel
theorem dL_law_416 : decode cL_law 416 = .ok (.aload_n 0, 1) := by decide +kernel
theorem dL_law_417 : decode cL_law 417 = .ok (.iload 4, 2) := by decide +kernel
theorem dL_law_419 : decode cL_law 419 = .ok (.iconst 2, 1) := by decide +kernel
theorem dL_law_420 : decode cL_law 420 = .ok (.iadd, 1) := by decide +kernel
theorem dL_law_421 : decode cL_law 421 = .ok (.iaload, 1) := by decide +kernel
theorem dL_law_422 : decode cL_law 422 = .ok (.invokevirtual 39, 3) := by decide +kernel
theorem dL_law_425 : decode cL_law 425 = .ok (.if_icmp .eq 1029, 3) := by decide +kernel
theorem dL_law_428 : decode cL_law 428 = .ok (.iconst 0, 1) := by decide +kernel
theorem dL_law_429 : decode cL_law 429 = .ok (.ireturn, 1) := by decide +kernel
theorem dL_law_430 : decode cL_law 430 = .ok (.aload_n 1, 1) := by decide +kernel
theorem dL_law_431 : decode cL_law 431 = .ok (.aload_n 0, 1) := by decide +kernel
theorem dL_law_432 : decode cL_law 432 = .ok (.iload 4, 2) := by decide +kernel
theorem dL_law_434 : decode cL_law 434 = .ok (.iconst 1, 1) := by decide +kernel
theorem dL_law_435 : decode cL_law 435 = .ok (.iadd, 1) := by decide +kernel
theorem dL_law_436 : decode cL_law 436 = .ok (.iaload, 1) := by decide +kernel
theorem dL_law_437 : decode cL_law 437 = .ok (.aload_n 0, 1) := by decide +kernel
theorem dL_law_438 : decode cL_law 438 = .ok (.iload 4, 2) := by decide +kernel
theorem dL_law_440 : decode cL_law 440 = .ok (.iconst 2, 1) := by decide +kernel
theorem dL_law_441 : decode cL_law 441 = .ok (.iadd, 1) := by decide +kernel
theorem dL_law_442 : decode cL_law 442 = .ok (.iaload, 1) := by decide +kernel
theorem dL_law_443 : decode cL_law 443 = .ok (.invokevirtual 40, 3) := by decide +kernel
theorem dL_law_446 : decode cL_law 446 = .ok (.aload_n 2, 1) := by decide +kernel
theorem dL_law_447 : decode cL_law 447 = .ok (.aload_n 0, 1) := by decide +kernel
theorem dL_law_448 : decode cL_law 448 = .ok (.iload 4, 2) := by decide +kernel
theorem dL_law_450 : decode cL_law 450 = .ok (.iconst 1, 1) := by decide +kernel
theorem dL_law_451 : decode cL_law 451 = .ok (.iadd, 1) := by decide +kernel
theorem dL_law_452 : decode cL_law 452 = .ok (.iaload, 1) := by decide +kernel
theorem dL_law_453 : decode cL_law 453 = .ok (.aload_n 0, 1) := by decide +kernel
theorem dL_law_454 : decode cL_law 454 = .ok (.iload 4, 2) := by decide +kernel
theorem dL_law_456 : decode cL_law 456 = .ok (.iconst 2, 1) := by decide +kernel
theorem dL_law_457 : decode cL_law 457 = .ok (.iadd, 1) := by decide +kernel
theorem dL_law_458 : decode cL_law 458 = .ok (.iaload, 1) := by decide +kernel
theorem dL_law_459 : decode cL_law 459 = .ok (.invokevirtual 43, 3) := by decide +kernel
theorem dL_law_462 : decode cL_law 462 = .ok (.if_icmp .eq 992, 3) := by decide +kernel
theorem dL_law_465 : decode cL_law 465 = .ok (.iconst 0, 1) := by decide +kernel
theorem dL_law_466 : decode cL_law 466 = .ok (.ireturn, 1) := by decide +kernel
theorem dL_law_467 : decode cL_law 467 = .ok (.aload_n 1, 1) := by decide +kernel
theorem dL_law_468 : decode cL_law 468 = .ok (.aload_n 0, 1) := by decide +kernel
theorem dL_law_469 : decode cL_law 469 = .ok (.iload 4, 2) := by decide +kernel
theorem dL_law_471 : decode cL_law 471 = .ok (.iconst 1, 1) := by decide +kernel
theorem dL_law_472 : decode cL_law 472 = .ok (.iadd, 1) := by decide +kernel
theorem dL_law_473 : decode cL_law 473 = .ok (.iaload, 1) := by decide +kernel
theorem dL_law_474 : decode cL_law 474 = .ok (.invokevirtual 44, 3) := by decide +kernel
theorem dL_law_477 : decode cL_law 477 = .ok (.aload_n 2, 1) := by decide +kernel
theorem dL_law_478 : decode cL_law 478 = .ok (.aload_n 0, 1) := by decide +kernel
theorem dL_law_479 : decode cL_law 479 = .ok (.iload 4, 2) := by decide +kernel
theorem dL_law_481 : decode cL_law 481 = .ok (.iconst 1, 1) := by decide +kernel
theorem dL_law_482 : decode cL_law 482 = .ok (.iadd, 1) := by decide +kernel
theorem dL_law_483 : decode cL_law 483 = .ok (.iaload, 1) := by decide +kernel
theorem dL_law_484 : decode cL_law 484 = .ok (.invokevirtual 48, 3) := by decide +kernel
theorem dL_law_487 : decode cL_law 487 = .ok (.if_icmp .eq 967, 3) := by decide +kernel
theorem dL_law_490 : decode cL_law 490 = .ok (.iconst 0, 1) := by decide +kernel
theorem dL_law_491 : decode cL_law 491 = .ok (.ireturn, 1) := by decide +kernel
theorem dL_law_492 : decode cL_law 492 = .ok (.aload_n 1, 1) := by decide +kernel
theorem dL_law_493 : decode cL_law 493 = .ok (.invokevirtual 49, 3) := by decide +kernel
theorem dL_law_496 : decode cL_law 496 = .ok (.aload_n 2, 1) := by decide +kernel
theorem dL_law_497 : decode cL_law 497 = .ok (.invokevirtual 52, 3) := by decide +kernel
theorem dL_law_500 : decode cL_law 500 = .ok (.if_icmp .eq 954, 3) := by decide +kernel
theorem dL_law_503 : decode cL_law 503 = .ok (.iconst 0, 1) := by decide +kernel
theorem dL_law_504 : decode cL_law 504 = .ok (.ireturn, 1) := by decide +kernel
theorem dL_law_505 : decode cL_law 505 = .ok (.aload_n 1, 1) := by decide +kernel
theorem dL_law_506 : decode cL_law 506 = .ok (.aload_n 0, 1) := by decide +kernel
theorem dL_law_507 : decode cL_law 507 = .ok (.iload 4, 2) := by decide +kernel
theorem dL_law_509 : decode cL_law 509 = .ok (.iconst 1, 1) := by decide +kernel
theorem dL_law_510 : decode cL_law 510 = .ok (.iadd, 1) := by decide +kernel
theorem dL_law_511 : decode cL_law 511 = .ok (.iaload, 1) := by decide +kernel
theorem dL_law_512 : decode cL_law 512 = .ok (.aload_n 0, 1) := by decide +kernel
theorem dL_law_513 : decode cL_law 513 = .ok (.iload 4, 2) := by decide +kernel
theorem dL_law_515 : decode cL_law 515 = .ok (.iconst 2, 1) := by decide +kernel
theorem dL_law_516 : decode cL_law 516 = .ok (.iadd, 1) := by decide +kernel
theorem dL_law_517 : decode cL_law 517 = .ok (.iaload, 1) := by decide +kernel
theorem dL_law_518 : decode cL_law 518 = .ok (.invokevirtual 53, 3) := by decide +kernel
theorem dL_law_521 : decode cL_law 521 = .ok (.aload_n 2, 1) := by decide +kernel
theorem dL_law_522 : decode cL_law 522 = .ok (.aload_n 0, 1) := by decide +kernel
theorem dL_law_523 : decode cL_law 523 = .ok (.iload 4, 2) := by decide +kernel
theorem dL_law_525 : decode cL_law 525 = .ok (.iconst 1, 1) := by decide +kernel
theorem dL_law_526 : decode cL_law 526 = .ok (.iadd, 1) := by decide +kernel
theorem dL_law_527 : decode cL_law 527 = .ok (.iaload, 1) := by decide +kernel
theorem dL_law_528 : decode cL_law 528 = .ok (.aload_n 0, 1) := by decide +kernel
theorem dL_law_529 : decode cL_law 529 = .ok (.iload 4, 2) := by decide +kernel
theorem dL_law_531 : decode cL_law 531 = .ok (.iconst 2, 1) := by decide +kernel
theorem dL_law_532 : decode cL_law 532 = .ok (.iadd, 1) := by decide +kernel
theorem dL_law_533 : decode cL_law 533 = .ok (.iaload, 1) := by decide +kernel
theorem dL_law_534 : decode cL_law 534 = .ok (.invokevirtual 56, 3) := by decide +kernel
theorem dL_law_537 : decode cL_law 537 = .ok (.if_icmp .eq 917, 3) := by decide +kernel
theorem dL_law_540 : decode cL_law 540 = .ok (.iconst 0, 1) := by decide +kernel
theorem dL_law_541 : decode cL_law 541 = .ok (.ireturn, 1) := by decide +kernel
theorem dL_law_542 : decode cL_law 542 = .ok (.aload_n 1, 1) := by decide +kernel
theorem dL_law_543 : decode cL_law 543 = .ok (.aload_n 0, 1) := by decide +kernel
theorem dL_law_544 : decode cL_law 544 = .ok (.iload 4, 2) := by decide +kernel
theorem dL_law_546 : decode cL_law 546 = .ok (.iconst 1, 1) := by decide +kernel
theorem dL_law_547 : decode cL_law 547 = .ok (.iadd, 1) := by decide +kernel
theorem dL_law_548 : decode cL_law 548 = .ok (.iaload, 1) := by decide +kernel
theorem dL_law_549 : decode cL_law 549 = .ok (.aload_n 0, 1) := by decide +kernel
theorem dL_law_550 : decode cL_law 550 = .ok (.iload 4, 2) := by decide +kernel
theorem dL_law_552 : decode cL_law 552 = .ok (.iconst 2, 1) := by decide +kernel
theorem dL_law_553 : decode cL_law 553 = .ok (.iadd, 1) := by decide +kernel
theorem dL_law_554 : decode cL_law 554 = .ok (.iaload, 1) := by decide +kernel
theorem dL_law_555 : decode cL_law 555 = .ok (.invokevirtual 57, 3) := by decide +kernel
theorem dL_law_558 : decode cL_law 558 = .ok (.aload_n 2, 1) := by decide +kernel
theorem dL_law_559 : decode cL_law 559 = .ok (.aload_n 0, 1) := by decide +kernel
theorem dL_law_560 : decode cL_law 560 = .ok (.iload 4, 2) := by decide +kernel
theorem dL_law_562 : decode cL_law 562 = .ok (.iconst 1, 1) := by decide +kernel
theorem dL_law_563 : decode cL_law 563 = .ok (.iadd, 1) := by decide +kernel
theorem dL_law_564 : decode cL_law 564 = .ok (.iaload, 1) := by decide +kernel
theorem dL_law_565 : decode cL_law 565 = .ok (.aload_n 0, 1) := by decide +kernel
theorem dL_law_566 : decode cL_law 566 = .ok (.iload 4, 2) := by decide +kernel
theorem dL_law_568 : decode cL_law 568 = .ok (.iconst 2, 1) := by decide +kernel
theorem dL_law_569 : decode cL_law 569 = .ok (.iadd, 1) := by decide +kernel
theorem dL_law_570 : decode cL_law 570 = .ok (.iaload, 1) := by decide +kernel
theorem dL_law_571 : decode cL_law 571 = .ok (.invokevirtual 60, 3) := by decide +kernel
theorem dL_law_574 : decode cL_law 574 = .ok (.if_icmp .eq 880, 3) := by decide +kernel
theorem dL_law_577 : decode cL_law 577 = .ok (.iconst 0, 1) := by decide +kernel
theorem dL_law_578 : decode cL_law 578 = .ok (.ireturn, 1) := by decide +kernel
theorem dL_law_579 : decode cL_law 579 = .ok (.aload_n 1, 1) := by decide +kernel
theorem dL_law_580 : decode cL_law 580 = .ok (.invokevirtual 61, 3) := by decide +kernel
theorem dL_law_583 : decode cL_law 583 = .ok (.aload_n 2, 1) := by decide +kernel
theorem dL_law_584 : decode cL_law 584 = .ok (.invokevirtual 64, 3) := by decide +kernel
theorem dL_law_587 : decode cL_law 587 = .ok (.if_icmp .eq 867, 3) := by decide +kernel
theorem dL_law_590 : decode cL_law 590 = .ok (.iconst 0, 1) := by decide +kernel
theorem dL_law_591 : decode cL_law 591 = .ok (.ireturn, 1) := by decide +kernel
theorem dL_law_592 : decode cL_law 592 = .ok (.aload_n 1, 1) := by decide +kernel
theorem dL_law_593 : decode cL_law 593 = .ok (.invokevirtual 65, 3) := by decide +kernel
theorem dL_law_596 : decode cL_law 596 = .ok (.aload_n 2, 1) := by decide +kernel
theorem dL_law_597 : decode cL_law 597 = .ok (.invokevirtual 69, 3) := by decide +kernel
theorem dL_law_600 : decode cL_law 600 = .ok (.if_icmp .eq 854, 3) := by decide +kernel
theorem dL_law_603 : decode cL_law 603 = .ok (.iconst 0, 1) := by decide +kernel
theorem dL_law_604 : decode cL_law 604 = .ok (.ireturn, 1) := by decide +kernel
theorem dL_law_605 : decode cL_law 605 = .ok (.aload_n 1, 1) := by decide +kernel
theorem dL_law_606 : decode cL_law 606 = .ok (.aload_n 0, 1) := by decide +kernel
theorem dL_law_607 : decode cL_law 607 = .ok (.iload 4, 2) := by decide +kernel
theorem dL_law_609 : decode cL_law 609 = .ok (.iconst 1, 1) := by decide +kernel
theorem dL_law_610 : decode cL_law 610 = .ok (.iadd, 1) := by decide +kernel
theorem dL_law_611 : decode cL_law 611 = .ok (.iaload, 1) := by decide +kernel
theorem dL_law_612 : decode cL_law 612 = .ok (.invokevirtual 70, 3) := by decide +kernel
theorem dL_law_615 : decode cL_law 615 = .ok (.aload_n 2, 1) := by decide +kernel
theorem dL_law_616 : decode cL_law 616 = .ok (.aload_n 0, 1) := by decide +kernel
theorem dL_law_617 : decode cL_law 617 = .ok (.iload 4, 2) := by decide +kernel
theorem dL_law_619 : decode cL_law 619 = .ok (.iconst 1, 1) := by decide +kernel
theorem dL_law_620 : decode cL_law 620 = .ok (.iadd, 1) := by decide +kernel
theorem dL_law_621 : decode cL_law 621 = .ok (.iaload, 1) := by decide +kernel
theorem dL_law_622 : decode cL_law 622 = .ok (.invokevirtual 73, 3) := by decide +kernel
theorem dL_law_625 : decode cL_law 625 = .ok (.if_icmp .eq 829, 3) := by decide +kernel
theorem dL_law_628 : decode cL_law 628 = .ok (.iconst 0, 1) := by decide +kernel
theorem dL_law_629 : decode cL_law 629 = .ok (.ireturn, 1) := by decide +kernel
theorem dL_law_630 : decode cL_law 630 = .ok (.aload_n 1, 1) := by decide +kernel
theorem dL_law_631 : decode cL_law 631 = .ok (.aload_n 0, 1) := by decide +kernel
theorem dL_law_632 : decode cL_law 632 = .ok (.iload 4, 2) := by decide +kernel
theorem dL_law_634 : decode cL_law 634 = .ok (.iconst 1, 1) := by decide +kernel
theorem dL_law_635 : decode cL_law 635 = .ok (.iadd, 1) := by decide +kernel
theorem dL_law_636 : decode cL_law 636 = .ok (.iaload, 1) := by decide +kernel
theorem dL_law_637 : decode cL_law 637 = .ok (.invokevirtual 74, 3) := by decide +kernel
theorem dL_law_640 : decode cL_law 640 = .ok (.aload_n 2, 1) := by decide +kernel
theorem dL_law_641 : decode cL_law 641 = .ok (.aload_n 0, 1) := by decide +kernel
theorem dL_law_642 : decode cL_law 642 = .ok (.iload 4, 2) := by decide +kernel
theorem dL_law_644 : decode cL_law 644 = .ok (.iconst 1, 1) := by decide +kernel
theorem dL_law_645 : decode cL_law 645 = .ok (.iadd, 1) := by decide +kernel
theorem dL_law_646 : decode cL_law 646 = .ok (.iaload, 1) := by decide +kernel
theorem dL_law_647 : decode cL_law 647 = .ok (.invokevirtual 77, 3) := by decide +kernel
theorem dL_law_650 : decode cL_law 650 = .ok (.if_icmp .eq 804, 3) := by decide +kernel
theorem dL_law_653 : decode cL_law 653 = .ok (.iconst 0, 1) := by decide +kernel
theorem dL_law_654 : decode cL_law 654 = .ok (.ireturn, 1) := by decide +kernel
theorem dL_law_655 : decode cL_law 655 = .ok (.aload_n 1, 1) := by decide +kernel
theorem dL_law_656 : decode cL_law 656 = .ok (.aload_n 0, 1) := by decide +kernel
theorem dL_law_657 : decode cL_law 657 = .ok (.iload 4, 2) := by decide +kernel
theorem dL_law_659 : decode cL_law 659 = .ok (.iconst 1, 1) := by decide +kernel
theorem dL_law_660 : decode cL_law 660 = .ok (.iadd, 1) := by decide +kernel
theorem dL_law_661 : decode cL_law 661 = .ok (.iaload, 1) := by decide +kernel
theorem dL_law_662 : decode cL_law 662 = .ok (.invokevirtual 78, 3) := by decide +kernel
theorem dL_law_665 : decode cL_law 665 = .ok (.aload_n 2, 1) := by decide +kernel
theorem dL_law_666 : decode cL_law 666 = .ok (.aload_n 0, 1) := by decide +kernel
theorem dL_law_667 : decode cL_law 667 = .ok (.iload 4, 2) := by decide +kernel
theorem dL_law_669 : decode cL_law 669 = .ok (.iconst 1, 1) := by decide +kernel
theorem dL_law_670 : decode cL_law 670 = .ok (.iadd, 1) := by decide +kernel
theorem dL_law_671 : decode cL_law 671 = .ok (.iaload, 1) := by decide +kernel
theorem dL_law_672 : decode cL_law 672 = .ok (.invokevirtual 81, 3) := by decide +kernel
theorem dL_law_675 : decode cL_law 675 = .ok (.if_icmp .eq 779, 3) := by decide +kernel
theorem dL_law_678 : decode cL_law 678 = .ok (.iconst 0, 1) := by decide +kernel
theorem dL_law_679 : decode cL_law 679 = .ok (.ireturn, 1) := by decide +kernel
theorem dL_law_680 : decode cL_law 680 = .ok (.aload_n 1, 1) := by decide +kernel
theorem dL_law_681 : decode cL_law 681 = .ok (.aload_n 0, 1) := by decide +kernel
theorem dL_law_682 : decode cL_law 682 = .ok (.iload 4, 2) := by decide +kernel
theorem dL_law_684 : decode cL_law 684 = .ok (.iconst 1, 1) := by decide +kernel
theorem dL_law_685 : decode cL_law 685 = .ok (.iadd, 1) := by decide +kernel
theorem dL_law_686 : decode cL_law 686 = .ok (.iaload, 1) := by decide +kernel
theorem dL_law_687 : decode cL_law 687 = .ok (.aload_n 0, 1) := by decide +kernel
theorem dL_law_688 : decode cL_law 688 = .ok (.iload 4, 2) := by decide +kernel
theorem dL_law_690 : decode cL_law 690 = .ok (.iconst 2, 1) := by decide +kernel
theorem dL_law_691 : decode cL_law 691 = .ok (.iadd, 1) := by decide +kernel
theorem dL_law_692 : decode cL_law 692 = .ok (.iaload, 1) := by decide +kernel
theorem dL_law_693 : decode cL_law 693 = .ok (.invokevirtual 82, 3) := by decide +kernel
theorem dL_law_696 : decode cL_law 696 = .ok (.aload_n 2, 1) := by decide +kernel
theorem dL_law_697 : decode cL_law 697 = .ok (.aload_n 0, 1) := by decide +kernel
theorem dL_law_698 : decode cL_law 698 = .ok (.iload 4, 2) := by decide +kernel
theorem dL_law_700 : decode cL_law 700 = .ok (.iconst 1, 1) := by decide +kernel
theorem dL_law_701 : decode cL_law 701 = .ok (.iadd, 1) := by decide +kernel
theorem dL_law_702 : decode cL_law 702 = .ok (.iaload, 1) := by decide +kernel
theorem dL_law_703 : decode cL_law 703 = .ok (.aload_n 0, 1) := by decide +kernel
theorem dL_law_704 : decode cL_law 704 = .ok (.iload 4, 2) := by decide +kernel
theorem dL_law_706 : decode cL_law 706 = .ok (.iconst 2, 1) := by decide +kernel
theorem dL_law_707 : decode cL_law 707 = .ok (.iadd, 1) := by decide +kernel
theorem dL_law_708 : decode cL_law 708 = .ok (.iaload, 1) := by decide +kernel
theorem dL_law_709 : decode cL_law 709 = .ok (.invokevirtual 85, 3) := by decide +kernel
theorem dL_law_712 : decode cL_law 712 = .ok (.if_icmp .eq 742, 3) := by decide +kernel
theorem dL_law_715 : decode cL_law 715 = .ok (.iconst 0, 1) := by decide +kernel
theorem dL_law_716 : decode cL_law 716 = .ok (.ireturn, 1) := by decide +kernel
theorem dL_law_717 : decode cL_law 717 = .ok (.aload_n 1, 1) := by decide +kernel
theorem dL_law_718 : decode cL_law 718 = .ok (.invokevirtual 86, 3) := by decide +kernel
theorem dL_law_721 : decode cL_law 721 = .ok (.aload_n 2, 1) := by decide +kernel
theorem dL_law_722 : decode cL_law 722 = .ok (.invokevirtual 89, 3) := by decide +kernel
theorem dL_law_725 : decode cL_law 725 = .ok (.if_icmp .eq 729, 3) := by decide +kernel
theorem dL_law_728 : decode cL_law 728 = .ok (.iconst 0, 1) := by decide +kernel
theorem dL_law_729 : decode cL_law 729 = .ok (.ireturn, 1) := by decide +kernel
theorem dL_law_730 : decode cL_law 730 = .ok (.aload_n 1, 1) := by decide +kernel
theorem dL_law_731 : decode cL_law 731 = .ok (.invokevirtual 90, 3) := by decide +kernel
theorem dL_law_734 : decode cL_law 734 = .ok (.aload_n 2, 1) := by decide +kernel
theorem dL_law_735 : decode cL_law 735 = .ok (.invokevirtual 93, 3) := by decide +kernel
theorem dL_law_738 : decode cL_law 738 = .ok (.if_icmp .eq 716, 3) := by decide +kernel
theorem dL_law_741 : decode cL_law 741 = .ok (.iconst 0, 1) := by decide +kernel
theorem dL_law_742 : decode cL_law 742 = .ok (.ireturn, 1) := by decide +kernel
theorem dL_law_743 : decode cL_law 743 = .ok (.aload_n 1, 1) := by decide +kernel
theorem dL_law_744 : decode cL_law 744 = .ok (.invokevirtual 94, 3) := by decide +kernel
theorem dL_law_747 : decode cL_law 747 = .ok (.aload_n 2, 1) := by decide +kernel
theorem dL_law_748 : decode cL_law 748 = .ok (.invokevirtual 97, 3) := by decide +kernel
theorem dL_law_751 : decode cL_law 751 = .ok (.if_icmp .eq 703, 3) := by decide +kernel
theorem dL_law_754 : decode cL_law 754 = .ok (.iconst 0, 1) := by decide +kernel
theorem dL_law_755 : decode cL_law 755 = .ok (.ireturn, 1) := by decide +kernel
theorem dL_law_756 : decode cL_law 756 = .ok (.aload_n 1, 1) := by decide +kernel
theorem dL_law_757 : decode cL_law 757 = .ok (.invokevirtual 98, 3) := by decide +kernel
theorem dL_law_760 : decode cL_law 760 = .ok (.aload_n 2, 1) := by decide +kernel
theorem dL_law_761 : decode cL_law 761 = .ok (.invokevirtual 101, 3) := by decide +kernel
theorem dL_law_764 : decode cL_law 764 = .ok (.if_icmp .eq 690, 3) := by decide +kernel
theorem dL_law_767 : decode cL_law 767 = .ok (.iconst 0, 1) := by decide +kernel
theorem dL_law_768 : decode cL_law 768 = .ok (.ireturn, 1) := by decide +kernel
theorem dL_law_769 : decode cL_law 769 = .ok (.aload_n 1, 1) := by decide +kernel
theorem dL_law_770 : decode cL_law 770 = .ok (.aload_n 0, 1) := by decide +kernel
theorem dL_law_771 : decode cL_law 771 = .ok (.iload 4, 2) := by decide +kernel
theorem dL_law_773 : decode cL_law 773 = .ok (.iconst 1, 1) := by decide +kernel
theorem dL_law_774 : decode cL_law 774 = .ok (.iadd, 1) := by decide +kernel
theorem dL_law_775 : decode cL_law 775 = .ok (.iaload, 1) := by decide +kernel
theorem dL_law_776 : decode cL_law 776 = .ok (.invokevirtual 102, 3) := by decide +kernel
theorem dL_law_779 : decode cL_law 779 = .ok (.aload_n 2, 1) := by decide +kernel
theorem dL_law_780 : decode cL_law 780 = .ok (.aload_n 0, 1) := by decide +kernel
theorem dL_law_781 : decode cL_law 781 = .ok (.iload 4, 2) := by decide +kernel
theorem dL_law_783 : decode cL_law 783 = .ok (.iconst 1, 1) := by decide +kernel
theorem dL_law_784 : decode cL_law 784 = .ok (.iadd, 1) := by decide +kernel
theorem dL_law_785 : decode cL_law 785 = .ok (.iaload, 1) := by decide +kernel
theorem dL_law_786 : decode cL_law 786 = .ok (.invokevirtual 105, 3) := by decide +kernel
theorem dL_law_789 : decode cL_law 789 = .ok (.if_icmp .eq 665, 3) := by decide +kernel
theorem dL_law_792 : decode cL_law 792 = .ok (.iconst 0, 1) := by decide +kernel
theorem dL_law_793 : decode cL_law 793 = .ok (.ireturn, 1) := by decide +kernel
theorem dL_law_794 : decode cL_law 794 = .ok (.aload_n 1, 1) := by decide +kernel
theorem dL_law_795 : decode cL_law 795 = .ok (.aload_n 0, 1) := by decide +kernel
theorem dL_law_796 : decode cL_law 796 = .ok (.iload 4, 2) := by decide +kernel
theorem dL_law_798 : decode cL_law 798 = .ok (.iconst 1, 1) := by decide +kernel
theorem dL_law_799 : decode cL_law 799 = .ok (.iadd, 1) := by decide +kernel
theorem dL_law_800 : decode cL_law 800 = .ok (.iaload, 1) := by decide +kernel
theorem dL_law_801 : decode cL_law 801 = .ok (.invokevirtual 106, 3) := by decide +kernel
theorem dL_law_804 : decode cL_law 804 = .ok (.aload_n 2, 1) := by decide +kernel
theorem dL_law_805 : decode cL_law 805 = .ok (.aload_n 0, 1) := by decide +kernel
theorem dL_law_806 : decode cL_law 806 = .ok (.iload 4, 2) := by decide +kernel
theorem dL_law_808 : decode cL_law 808 = .ok (.iconst 1, 1) := by decide +kernel
theorem dL_law_809 : decode cL_law 809 = .ok (.iadd, 1) := by decide +kernel
theorem dL_law_810 : decode cL_law 810 = .ok (.iaload, 1) := by decide +kernel
theorem dL_law_811 : decode cL_law 811 = .ok (.invokevirtual 109, 3) := by decide +kernel
theorem dL_law_814 : decode cL_law 814 = .ok (.if_icmp .eq 640, 3) := by decide +kernel
theorem dL_law_817 : decode cL_law 817 = .ok (.iconst 0, 1) := by decide +kernel
theorem dL_law_818 : decode cL_law 818 = .ok (.ireturn, 1) := by decide +kernel
theorem dL_law_819 : decode cL_law 819 = .ok (.aload_n 1, 1) := by decide +kernel
theorem dL_law_820 : decode cL_law 820 = .ok (.invokevirtual 110, 3) := by decide +kernel
theorem dL_law_823 : decode cL_law 823 = .ok (.aload_n 2, 1) := by decide +kernel
theorem dL_law_824 : decode cL_law 824 = .ok (.invokevirtual 113, 3) := by decide +kernel
theorem dL_law_827 : decode cL_law 827 = .ok (.if_icmp .eq 627, 3) := by decide +kernel
theorem dL_law_830 : decode cL_law 830 = .ok (.iconst 0, 1) := by decide +kernel
theorem dL_law_831 : decode cL_law 831 = .ok (.ireturn, 1) := by decide +kernel
theorem dL_law_832 : decode cL_law 832 = .ok (.aload_n 1, 1) := by decide +kernel
theorem dL_law_833 : decode cL_law 833 = .ok (.aload_n 0, 1) := by decide +kernel
theorem dL_law_834 : decode cL_law 834 = .ok (.iload 4, 2) := by decide +kernel
theorem dL_law_836 : decode cL_law 836 = .ok (.iconst 1, 1) := by decide +kernel
theorem dL_law_837 : decode cL_law 837 = .ok (.iadd, 1) := by decide +kernel
theorem dL_law_838 : decode cL_law 838 = .ok (.iaload, 1) := by decide +kernel
theorem dL_law_839 : decode cL_law 839 = .ok (.invokevirtual 114, 3) := by decide +kernel
theorem dL_law_842 : decode cL_law 842 = .ok (.aload_n 2, 1) := by decide +kernel
theorem dL_law_843 : decode cL_law 843 = .ok (.aload_n 0, 1) := by decide +kernel
theorem dL_law_844 : decode cL_law 844 = .ok (.iload 4, 2) := by decide +kernel
theorem dL_law_846 : decode cL_law 846 = .ok (.iconst 1, 1) := by decide +kernel
theorem dL_law_847 : decode cL_law 847 = .ok (.iadd, 1) := by decide +kernel
theorem dL_law_848 : decode cL_law 848 = .ok (.iaload, 1) := by decide +kernel
theorem dL_law_849 : decode cL_law 849 = .ok (.invokevirtual 117, 3) := by decide +kernel
theorem dL_law_852 : decode cL_law 852 = .ok (.if_icmp .eq 602, 3) := by decide +kernel
theorem dL_law_855 : decode cL_law 855 = .ok (.iconst 0, 1) := by decide +kernel
theorem dL_law_856 : decode cL_law 856 = .ok (.ireturn, 1) := by decide +kernel
theorem dL_law_857 : decode cL_law 857 = .ok (.aload_n 1, 1) := by decide +kernel
theorem dL_law_858 : decode cL_law 858 = .ok (.aload_n 0, 1) := by decide +kernel
theorem dL_law_859 : decode cL_law 859 = .ok (.iload 4, 2) := by decide +kernel
theorem dL_law_861 : decode cL_law 861 = .ok (.iconst 1, 1) := by decide +kernel
theorem dL_law_862 : decode cL_law 862 = .ok (.iadd, 1) := by decide +kernel
theorem dL_law_863 : decode cL_law 863 = .ok (.iaload, 1) := by decide +kernel
theorem dL_law_864 : decode cL_law 864 = .ok (.invokevirtual 118, 3) := by decide +kernel
theorem dL_law_867 : decode cL_law 867 = .ok (.aload_n 2, 1) := by decide +kernel
theorem dL_law_868 : decode cL_law 868 = .ok (.aload_n 0, 1) := by decide +kernel
theorem dL_law_869 : decode cL_law 869 = .ok (.iload 4, 2) := by decide +kernel
theorem dL_law_871 : decode cL_law 871 = .ok (.iconst 1, 1) := by decide +kernel
theorem dL_law_872 : decode cL_law 872 = .ok (.iadd, 1) := by decide +kernel
theorem dL_law_873 : decode cL_law 873 = .ok (.iaload, 1) := by decide +kernel
theorem dL_law_874 : decode cL_law 874 = .ok (.invokevirtual 121, 3) := by decide +kernel
theorem dL_law_877 : decode cL_law 877 = .ok (.if_icmp .eq 577, 3) := by decide +kernel
theorem dL_law_880 : decode cL_law 880 = .ok (.iconst 0, 1) := by decide +kernel
theorem dL_law_881 : decode cL_law 881 = .ok (.ireturn, 1) := by decide +kernel
theorem dL_law_882 : decode cL_law 882 = .ok (.aload_n 1, 1) := by decide +kernel
theorem dL_law_883 : decode cL_law 883 = .ok (.invokevirtual 122, 3) := by decide +kernel
theorem dL_law_886 : decode cL_law 886 = .ok (.aload_n 2, 1) := by decide +kernel
theorem dL_law_887 : decode cL_law 887 = .ok (.invokevirtual 125, 3) := by decide +kernel
theorem dL_law_890 : decode cL_law 890 = .ok (.if_icmp .eq 564, 3) := by decide +kernel
theorem dL_law_893 : decode cL_law 893 = .ok (.iconst 0, 1) := by decide +kernel
theorem dL_law_894 : decode cL_law 894 = .ok (.ireturn, 1) := by decide +kernel
theorem dL_law_895 : decode cL_law 895 = .ok (.aload_n 1, 1) := by decide +kernel
theorem dL_law_896 : decode cL_law 896 = .ok (.aload_n 0, 1) := by decide +kernel
theorem dL_law_897 : decode cL_law 897 = .ok (.iload 4, 2) := by decide +kernel
theorem dL_law_899 : decode cL_law 899 = .ok (.iconst 1, 1) := by decide +kernel
theorem dL_law_900 : decode cL_law 900 = .ok (.iadd, 1) := by decide +kernel
theorem dL_law_901 : decode cL_law 901 = .ok (.iaload, 1) := by decide +kernel
theorem dL_law_902 : decode cL_law 902 = .ok (.invokevirtual 126, 3) := by decide +kernel
theorem dL_law_905 : decode cL_law 905 = .ok (.aload_n 2, 1) := by decide +kernel
theorem dL_law_906 : decode cL_law 906 = .ok (.aload_n 0, 1) := by decide +kernel
theorem dL_law_907 : decode cL_law 907 = .ok (.iload 4, 2) := by decide +kernel
theorem dL_law_909 : decode cL_law 909 = .ok (.iconst 1, 1) := by decide +kernel
theorem dL_law_910 : decode cL_law 910 = .ok (.iadd, 1) := by decide +kernel
theorem dL_law_911 : decode cL_law 911 = .ok (.iaload, 1) := by decide +kernel
theorem dL_law_912 : decode cL_law 912 = .ok (.invokevirtual 129, 3) := by decide +kernel
theorem dL_law_915 : decode cL_law 915 = .ok (.if_icmp .eq 539, 3) := by decide +kernel
theorem dL_law_918 : decode cL_law 918 = .ok (.iconst 0, 1) := by decide +kernel
theorem dL_law_919 : decode cL_law 919 = .ok (.ireturn, 1) := by decide +kernel
theorem dL_law_920 : decode cL_law 920 = .ok (.aload_n 1, 1) := by decide +kernel
theorem dL_law_921 : decode cL_law 921 = .ok (.invokevirtual 130, 3) := by decide +kernel
theorem dL_law_924 : decode cL_law 924 = .ok (.aload_n 2, 1) := by decide +kernel
theorem dL_law_925 : decode cL_law 925 = .ok (.invokevirtual 133, 3) := by decide +kernel
theorem dL_law_928 : decode cL_law 928 = .ok (.if_icmp .eq 526, 3) := by decide +kernel
theorem dL_law_931 : decode cL_law 931 = .ok (.iconst 0, 1) := by decide +kernel
theorem dL_law_932 : decode cL_law 932 = .ok (.ireturn, 1) := by decide +kernel
theorem dL_law_933 : decode cL_law 933 = .ok (.aload_n 1, 1) := by decide +kernel
theorem dL_law_934 : decode cL_law 934 = .ok (.aload_n 0, 1) := by decide +kernel
theorem dL_law_935 : decode cL_law 935 = .ok (.iload 4, 2) := by decide +kernel
theorem dL_law_937 : decode cL_law 937 = .ok (.iconst 1, 1) := by decide +kernel
theorem dL_law_938 : decode cL_law 938 = .ok (.iadd, 1) := by decide +kernel
theorem dL_law_939 : decode cL_law 939 = .ok (.iaload, 1) := by decide +kernel
theorem dL_law_940 : decode cL_law 940 = .ok (.aload_n 0, 1) := by decide +kernel
theorem dL_law_941 : decode cL_law 941 = .ok (.iload 4, 2) := by decide +kernel
theorem dL_law_943 : decode cL_law 943 = .ok (.iconst 2, 1) := by decide +kernel
theorem dL_law_944 : decode cL_law 944 = .ok (.iadd, 1) := by decide +kernel
theorem dL_law_945 : decode cL_law 945 = .ok (.iaload, 1) := by decide +kernel
theorem dL_law_946 : decode cL_law 946 = .ok (.invokevirtual 134, 3) := by decide +kernel
theorem dL_law_949 : decode cL_law 949 = .ok (.aload_n 2, 1) := by decide +kernel
theorem dL_law_950 : decode cL_law 950 = .ok (.aload_n 0, 1) := by decide +kernel
theorem dL_law_951 : decode cL_law 951 = .ok (.iload 4, 2) := by decide +kernel
theorem dL_law_953 : decode cL_law 953 = .ok (.iconst 1, 1) := by decide +kernel
theorem dL_law_954 : decode cL_law 954 = .ok (.iadd, 1) := by decide +kernel
theorem dL_law_955 : decode cL_law 955 = .ok (.iaload, 1) := by decide +kernel
theorem dL_law_956 : decode cL_law 956 = .ok (.aload_n 0, 1) := by decide +kernel
theorem dL_law_957 : decode cL_law 957 = .ok (.iload 4, 2) := by decide +kernel
theorem dL_law_959 : decode cL_law 959 = .ok (.iconst 2, 1) := by decide +kernel
theorem dL_law_960 : decode cL_law 960 = .ok (.iadd, 1) := by decide +kernel
theorem dL_law_961 : decode cL_law 961 = .ok (.iaload, 1) := by decide +kernel
theorem dL_law_962 : decode cL_law 962 = .ok (.invokevirtual 137, 3) := by decide +kernel
theorem dL_law_965 : decode cL_law 965 = .ok (.if_icmp .eq 489, 3) := by decide +kernel
theorem dL_law_968 : decode cL_law 968 = .ok (.iconst 0, 1) := by decide +kernel
theorem dL_law_969 : decode cL_law 969 = .ok (.ireturn, 1) := by decide +kernel
theorem dL_law_970 : decode cL_law 970 = .ok (.aload_n 1, 1) := by decide +kernel
theorem dL_law_971 : decode cL_law 971 = .ok (.aload_n 0, 1) := by decide +kernel
theorem dL_law_972 : decode cL_law 972 = .ok (.iload 4, 2) := by decide +kernel
theorem dL_law_974 : decode cL_law 974 = .ok (.iconst 1, 1) := by decide +kernel
theorem dL_law_975 : decode cL_law 975 = .ok (.iadd, 1) := by decide +kernel
theorem dL_law_976 : decode cL_law 976 = .ok (.iaload, 1) := by decide +kernel
theorem dL_law_977 : decode cL_law 977 = .ok (.invokevirtual 138, 3) := by decide +kernel
theorem dL_law_980 : decode cL_law 980 = .ok (.aload_n 2, 1) := by decide +kernel
theorem dL_law_981 : decode cL_law 981 = .ok (.aload_n 0, 1) := by decide +kernel
theorem dL_law_982 : decode cL_law 982 = .ok (.iload 4, 2) := by decide +kernel
theorem dL_law_984 : decode cL_law 984 = .ok (.iconst 1, 1) := by decide +kernel
theorem dL_law_985 : decode cL_law 985 = .ok (.iadd, 1) := by decide +kernel
theorem dL_law_986 : decode cL_law 986 = .ok (.iaload, 1) := by decide +kernel
theorem dL_law_987 : decode cL_law 987 = .ok (.invokevirtual 141, 3) := by decide +kernel
theorem dL_law_990 : decode cL_law 990 = .ok (.if_icmp .eq 464, 3) := by decide +kernel
theorem dL_law_993 : decode cL_law 993 = .ok (.iconst 0, 1) := by decide +kernel
theorem dL_law_994 : decode cL_law 994 = .ok (.ireturn, 1) := by decide +kernel
theorem dL_law_995 : decode cL_law 995 = .ok (.aload_n 1, 1) := by decide +kernel
theorem dL_law_996 : decode cL_law 996 = .ok (.invokevirtual 142, 3) := by decide +kernel
theorem dL_law_999 : decode cL_law 999 = .ok (.aload_n 2, 1) := by decide +kernel
theorem dL_law_1000 : decode cL_law 1000 = .ok (.invokevirtual 145, 3) := by decide +kernel
theorem dL_law_1003 : decode cL_law 1003 = .ok (.if_icmp .eq 451, 3) := by decide +kernel
theorem dL_law_1006 : decode cL_law 1006 = .ok (.iconst 0, 1) := by decide +kernel
theorem dL_law_1007 : decode cL_law 1007 = .ok (.ireturn, 1) := by decide +kernel
theorem dL_law_1008 : decode cL_law 1008 = .ok (.aload_n 1, 1) := by decide +kernel
theorem dL_law_1009 : decode cL_law 1009 = .ok (.aload_n 0, 1) := by decide +kernel
theorem dL_law_1010 : decode cL_law 1010 = .ok (.iload 4, 2) := by decide +kernel
theorem dL_law_1012 : decode cL_law 1012 = .ok (.iconst 1, 1) := by decide +kernel
theorem dL_law_1013 : decode cL_law 1013 = .ok (.iadd, 1) := by decide +kernel
theorem dL_law_1014 : decode cL_law 1014 = .ok (.iaload, 1) := by decide +kernel
theorem dL_law_1015 : decode cL_law 1015 = .ok (.invokevirtual 146, 3) := by decide +kernel
theorem dL_law_1018 : decode cL_law 1018 = .ok (.aload_n 2, 1) := by decide +kernel
theorem dL_law_1019 : decode cL_law 1019 = .ok (.aload_n 0, 1) := by decide +kernel
theorem dL_law_1020 : decode cL_law 1020 = .ok (.iload 4, 2) := by decide +kernel
theorem dL_law_1022 : decode cL_law 1022 = .ok (.iconst 1, 1) := by decide +kernel
theorem dL_law_1023 : decode cL_law 1023 = .ok (.iadd, 1) := by decide +kernel
theorem dL_law_1024 : decode cL_law 1024 = .ok (.iaload, 1) := by decide +kernel
theorem dL_law_1025 : decode cL_law 1025 = .ok (.invokevirtual 149, 3) := by decide +kernel
theorem dL_law_1028 : decode cL_law 1028 = .ok (.if_icmp .eq 426, 3) := by decide +kernel
theorem dL_law_1031 : decode cL_law 1031 = .ok (.iconst 0, 1) := by decide +kernel
theorem dL_law_1032 : decode cL_law 1032 = .ok (.ireturn, 1) := by decide +kernel
theorem dL_law_1033 : decode cL_law 1033 = .ok (.aload_n 1, 1) := by decide +kernel
theorem dL_law_1034 : decode cL_law 1034 = .ok (.aload_n 0, 1) := by decide +kernel
theorem dL_law_1035 : decode cL_law 1035 = .ok (.iload 4, 2) := by decide +kernel
theorem dL_law_1037 : decode cL_law 1037 = .ok (.iconst 1, 1) := by decide +kernel
theorem dL_law_1038 : decode cL_law 1038 = .ok (.iadd, 1) := by decide +kernel
theorem dL_law_1039 : decode cL_law 1039 = .ok (.iaload, 1) := by decide +kernel
theorem dL_law_1040 : decode cL_law 1040 = .ok (.invokevirtual 150, 3) := by decide +kernel
theorem dL_law_1043 : decode cL_law 1043 = .ok (.aload_n 2, 1) := by decide +kernel
theorem dL_law_1044 : decode cL_law 1044 = .ok (.aload_n 0, 1) := by decide +kernel
theorem dL_law_1045 : decode cL_law 1045 = .ok (.iload 4, 2) := by decide +kernel
theorem dL_law_1047 : decode cL_law 1047 = .ok (.iconst 1, 1) := by decide +kernel
theorem dL_law_1048 : decode cL_law 1048 = .ok (.iadd, 1) := by decide +kernel
theorem dL_law_1049 : decode cL_law 1049 = .ok (.iaload, 1) := by decide +kernel
theorem dL_law_1050 : decode cL_law 1050 = .ok (.invokevirtual 153, 3) := by decide +kernel
theorem dL_law_1053 : decode cL_law 1053 = .ok (.if_icmp .eq 401, 3) := by decide +kernel
theorem dL_law_1056 : decode cL_law 1056 = .ok (.iconst 0, 1) := by decide +kernel
theorem dL_law_1057 : decode cL_law 1057 = .ok (.ireturn, 1) := by decide +kernel
theorem dL_law_1058 : decode cL_law 1058 = .ok (.aload_n 1, 1) := by decide +kernel
theorem dL_law_1059 : decode cL_law 1059 = .ok (.aload_n 0, 1) := by decide +kernel
theorem dL_law_1060 : decode cL_law 1060 = .ok (.iload 4, 2) := by decide +kernel
theorem dL_law_1062 : decode cL_law 1062 = .ok (.iconst 1, 1) := by decide +kernel
theorem dL_law_1063 : decode cL_law 1063 = .ok (.iadd, 1) := by decide +kernel
theorem dL_law_1064 : decode cL_law 1064 = .ok (.iaload, 1) := by decide +kernel
theorem dL_law_1065 : decode cL_law 1065 = .ok (.aload_n 0, 1) := by decide +kernel
theorem dL_law_1066 : decode cL_law 1066 = .ok (.iload 4, 2) := by decide +kernel
theorem dL_law_1068 : decode cL_law 1068 = .ok (.iconst 2, 1) := by decide +kernel
theorem dL_law_1069 : decode cL_law 1069 = .ok (.iadd, 1) := by decide +kernel
theorem dL_law_1070 : decode cL_law 1070 = .ok (.iaload, 1) := by decide +kernel
theorem dL_law_1071 : decode cL_law 1071 = .ok (.invokevirtual 154, 3) := by decide +kernel
theorem dL_law_1074 : decode cL_law 1074 = .ok (.aload_n 2, 1) := by decide +kernel
theorem dL_law_1075 : decode cL_law 1075 = .ok (.aload_n 0, 1) := by decide +kernel
theorem dL_law_1076 : decode cL_law 1076 = .ok (.iload 4, 2) := by decide +kernel
theorem dL_law_1078 : decode cL_law 1078 = .ok (.iconst 1, 1) := by decide +kernel
theorem dL_law_1079 : decode cL_law 1079 = .ok (.iadd, 1) := by decide +kernel
theorem dL_law_1080 : decode cL_law 1080 = .ok (.iaload, 1) := by decide +kernel
theorem dL_law_1081 : decode cL_law 1081 = .ok (.aload_n 0, 1) := by decide +kernel
theorem dL_law_1082 : decode cL_law 1082 = .ok (.iload 4, 2) := by decide +kernel
theorem dL_law_1084 : decode cL_law 1084 = .ok (.iconst 2, 1) := by decide +kernel
theorem dL_law_1085 : decode cL_law 1085 = .ok (.iadd, 1) := by decide +kernel
theorem dL_law_1086 : decode cL_law 1086 = .ok (.iaload, 1) := by decide +kernel
theorem dL_law_1087 : decode cL_law 1087 = .ok (.invokevirtual 157, 3) := by decide +kernel
theorem dL_law_1090 : decode cL_law 1090 = .ok (.if_icmp .eq 364, 3) := by decide +kernel
theorem dL_law_1093 : decode cL_law 1093 = .ok (.iconst 0, 1) := by decide +kernel
theorem dL_law_1094 : decode cL_law 1094 = .ok (.ireturn, 1) := by decide +kernel
theorem dL_law_1095 : decode cL_law 1095 = .ok (.aload_n 1, 1) := by decide +kernel
theorem dL_law_1096 : decode cL_law 1096 = .ok (.aload_n 0, 1) := by decide +kernel
theorem dL_law_1097 : decode cL_law 1097 = .ok (.iload 4, 2) := by decide +kernel
theorem dL_law_1099 : decode cL_law 1099 = .ok (.iconst 1, 1) := by decide +kernel
theorem dL_law_1100 : decode cL_law 1100 = .ok (.iadd, 1) := by decide +kernel
theorem dL_law_1101 : decode cL_law 1101 = .ok (.iaload, 1) := by decide +kernel
theorem dL_law_1102 : decode cL_law 1102 = .ok (.aload_n 0, 1) := by decide +kernel
theorem dL_law_1103 : decode cL_law 1103 = .ok (.iload 4, 2) := by decide +kernel
theorem dL_law_1105 : decode cL_law 1105 = .ok (.iconst 2, 1) := by decide +kernel
theorem dL_law_1106 : decode cL_law 1106 = .ok (.iadd, 1) := by decide +kernel
theorem dL_law_1107 : decode cL_law 1107 = .ok (.iaload, 1) := by decide +kernel
theorem dL_law_1108 : decode cL_law 1108 = .ok (.aload_n 0, 1) := by decide +kernel
theorem dL_law_1109 : decode cL_law 1109 = .ok (.iload 4, 2) := by decide +kernel
theorem dL_law_1111 : decode cL_law 1111 = .ok (.iconst 3, 1) := by decide +kernel
theorem dL_law_1112 : decode cL_law 1112 = .ok (.iadd, 1) := by decide +kernel
theorem dL_law_1113 : decode cL_law 1113 = .ok (.iaload, 1) := by decide +kernel
theorem dL_law_1114 : decode cL_law 1114 = .ok (.ifCond .eq 7, 3) := by decide +kernel
theorem dL_law_1117 : decode cL_law 1117 = .ok (.iconst 1, 1) := by decide +kernel
theorem dL_law_1118 : decode cL_law 1118 = .ok (.goto 4, 3) := by decide +kernel
theorem dL_law_1121 : decode cL_law 1121 = .ok (.iconst 0, 1) := by decide +kernel
theorem dL_law_1122 : decode cL_law 1122 = .ok (.invokevirtual 158, 3) := by decide +kernel
theorem dL_law_1125 : decode cL_law 1125 = .ok (.aload_n 2, 1) := by decide +kernel
theorem dL_law_1126 : decode cL_law 1126 = .ok (.aload_n 0, 1) := by decide +kernel
theorem dL_law_1127 : decode cL_law 1127 = .ok (.iload 4, 2) := by decide +kernel
theorem dL_law_1129 : decode cL_law 1129 = .ok (.iconst 1, 1) := by decide +kernel
theorem dL_law_1130 : decode cL_law 1130 = .ok (.iadd, 1) := by decide +kernel
theorem dL_law_1131 : decode cL_law 1131 = .ok (.iaload, 1) := by decide +kernel
theorem dL_law_1132 : decode cL_law 1132 = .ok (.aload_n 0, 1) := by decide +kernel
theorem dL_law_1133 : decode cL_law 1133 = .ok (.iload 4, 2) := by decide +kernel
theorem dL_law_1135 : decode cL_law 1135 = .ok (.iconst 2, 1) := by decide +kernel
theorem dL_law_1136 : decode cL_law 1136 = .ok (.iadd, 1) := by decide +kernel
theorem dL_law_1137 : decode cL_law 1137 = .ok (.iaload, 1) := by decide +kernel
theorem dL_law_1138 : decode cL_law 1138 = .ok (.aload_n 0, 1) := by decide +kernel
theorem dL_law_1139 : decode cL_law 1139 = .ok (.iload 4, 2) := by decide +kernel
theorem dL_law_1141 : decode cL_law 1141 = .ok (.iconst 3, 1) := by decide +kernel
theorem dL_law_1142 : decode cL_law 1142 = .ok (.iadd, 1) := by decide +kernel
theorem dL_law_1143 : decode cL_law 1143 = .ok (.iaload, 1) := by decide +kernel
theorem dL_law_1144 : decode cL_law 1144 = .ok (.ifCond .eq 7, 3) := by decide +kernel
theorem dL_law_1147 : decode cL_law 1147 = .ok (.iconst 1, 1) := by decide +kernel
theorem dL_law_1148 : decode cL_law 1148 = .ok (.goto 4, 3) := by decide +kernel
theorem dL_law_1151 : decode cL_law 1151 = .ok (.iconst 0, 1) := by decide +kernel
theorem dL_law_1152 : decode cL_law 1152 = .ok (.invokevirtual 162, 3) := by decide +kernel
theorem dL_law_1155 : decode cL_law 1155 = .ok (.if_icmp .eq 299, 3) := by decide +kernel
theorem dL_law_1158 : decode cL_law 1158 = .ok (.iconst 0, 1) := by decide +kernel
theorem dL_law_1159 : decode cL_law 1159 = .ok (.ireturn, 1) := by decide +kernel
theorem dL_law_1160 : decode cL_law 1160 = .ok (.aload_n 1, 1) := by decide +kernel
theorem dL_law_1161 : decode cL_law 1161 = .ok (.invokevirtual 163, 3) := by decide +kernel
theorem dL_law_1164 : decode cL_law 1164 = .ok (.aload_n 2, 1) := by decide +kernel
theorem dL_law_1165 : decode cL_law 1165 = .ok (.invokevirtual 166, 3) := by decide +kernel
theorem dL_law_1168 : decode cL_law 1168 = .ok (.if_icmp .eq 286, 3) := by decide +kernel
theorem dL_law_1171 : decode cL_law 1171 = .ok (.iconst 0, 1) := by decide +kernel
theorem dL_law_1172 : decode cL_law 1172 = .ok (.ireturn, 1) := by decide +kernel
theorem dL_law_1173 : decode cL_law 1173 = .ok (.aload_n 1, 1) := by decide +kernel
theorem dL_law_1174 : decode cL_law 1174 = .ok (.invokevirtual 167, 3) := by decide +kernel
theorem dL_law_1177 : decode cL_law 1177 = .ok (.aload_n 2, 1) := by decide +kernel
theorem dL_law_1178 : decode cL_law 1178 = .ok (.invokevirtual 170, 3) := by decide +kernel
theorem dL_law_1181 : decode cL_law 1181 = .ok (.if_icmp .eq 273, 3) := by decide +kernel
theorem dL_law_1184 : decode cL_law 1184 = .ok (.iconst 0, 1) := by decide +kernel
theorem dL_law_1185 : decode cL_law 1185 = .ok (.ireturn, 1) := by decide +kernel
theorem dL_law_1186 : decode cL_law 1186 = .ok (.aload_n 1, 1) := by decide +kernel
theorem dL_law_1187 : decode cL_law 1187 = .ok (.aload_n 0, 1) := by decide +kernel
theorem dL_law_1188 : decode cL_law 1188 = .ok (.iload 4, 2) := by decide +kernel
theorem dL_law_1190 : decode cL_law 1190 = .ok (.iconst 1, 1) := by decide +kernel
theorem dL_law_1191 : decode cL_law 1191 = .ok (.iadd, 1) := by decide +kernel
theorem dL_law_1192 : decode cL_law 1192 = .ok (.iaload, 1) := by decide +kernel
theorem dL_law_1193 : decode cL_law 1193 = .ok (.aload_n 0, 1) := by decide +kernel
theorem dL_law_1194 : decode cL_law 1194 = .ok (.iload 4, 2) := by decide +kernel
theorem dL_law_1196 : decode cL_law 1196 = .ok (.iconst 2, 1) := by decide +kernel
theorem dL_law_1197 : decode cL_law 1197 = .ok (.iadd, 1) := by decide +kernel
theorem dL_law_1198 : decode cL_law 1198 = .ok (.iaload, 1) := by decide +kernel
theorem dL_law_1199 : decode cL_law 1199 = .ok (.aload_n 0, 1) := by decide +kernel
theorem dL_law_1200 : decode cL_law 1200 = .ok (.iload 4, 2) := by decide +kernel
theorem dL_law_1202 : decode cL_law 1202 = .ok (.iconst 3, 1) := by decide +kernel
theorem dL_law_1203 : decode cL_law 1203 = .ok (.iadd, 1) := by decide +kernel
theorem dL_law_1204 : decode cL_law 1204 = .ok (.iaload, 1) := by decide +kernel
theorem dL_law_1205 : decode cL_law 1205 = .ok (.invokevirtual 171, 3) := by decide +kernel
theorem dL_law_1208 : decode cL_law 1208 = .ok (.aload_n 2, 1) := by decide +kernel
theorem dL_law_1209 : decode cL_law 1209 = .ok (.aload_n 0, 1) := by decide +kernel
theorem dL_law_1210 : decode cL_law 1210 = .ok (.iload 4, 2) := by decide +kernel
theorem dL_law_1212 : decode cL_law 1212 = .ok (.iconst 1, 1) := by decide +kernel
theorem dL_law_1213 : decode cL_law 1213 = .ok (.iadd, 1) := by decide +kernel
theorem dL_law_1214 : decode cL_law 1214 = .ok (.iaload, 1) := by decide +kernel
theorem dL_law_1215 : decode cL_law 1215 = .ok (.aload_n 0, 1) := by decide +kernel
theorem dL_law_1216 : decode cL_law 1216 = .ok (.iload 4, 2) := by decide +kernel
theorem dL_law_1218 : decode cL_law 1218 = .ok (.iconst 2, 1) := by decide +kernel
theorem dL_law_1219 : decode cL_law 1219 = .ok (.iadd, 1) := by decide +kernel
theorem dL_law_1220 : decode cL_law 1220 = .ok (.iaload, 1) := by decide +kernel
theorem dL_law_1221 : decode cL_law 1221 = .ok (.aload_n 0, 1) := by decide +kernel
theorem dL_law_1222 : decode cL_law 1222 = .ok (.iload 4, 2) := by decide +kernel
theorem dL_law_1224 : decode cL_law 1224 = .ok (.iconst 3, 1) := by decide +kernel
theorem dL_law_1225 : decode cL_law 1225 = .ok (.iadd, 1) := by decide +kernel
theorem dL_law_1226 : decode cL_law 1226 = .ok (.iaload, 1) := by decide +kernel
theorem dL_law_1227 : decode cL_law 1227 = .ok (.invokevirtual 175, 3) := by decide +kernel
theorem dL_law_1230 : decode cL_law 1230 = .ok (.if_icmp .eq 224, 3) := by decide +kernel
theorem dL_law_1233 : decode cL_law 1233 = .ok (.iconst 0, 1) := by decide +kernel
theorem dL_law_1234 : decode cL_law 1234 = .ok (.ireturn, 1) := by decide +kernel
theorem dL_law_1235 : decode cL_law 1235 = .ok (.aload_n 1, 1) := by decide +kernel
theorem dL_law_1236 : decode cL_law 1236 = .ok (.aload_n 0, 1) := by decide +kernel
theorem dL_law_1237 : decode cL_law 1237 = .ok (.iload 4, 2) := by decide +kernel
theorem dL_law_1239 : decode cL_law 1239 = .ok (.iconst 1, 1) := by decide +kernel
theorem dL_law_1240 : decode cL_law 1240 = .ok (.iadd, 1) := by decide +kernel
theorem dL_law_1241 : decode cL_law 1241 = .ok (.iaload, 1) := by decide +kernel
theorem dL_law_1242 : decode cL_law 1242 = .ok (.aload_n 0, 1) := by decide +kernel
theorem dL_law_1243 : decode cL_law 1243 = .ok (.iload 4, 2) := by decide +kernel
theorem dL_law_1245 : decode cL_law 1245 = .ok (.iconst 2, 1) := by decide +kernel
theorem dL_law_1246 : decode cL_law 1246 = .ok (.iadd, 1) := by decide +kernel
theorem dL_law_1247 : decode cL_law 1247 = .ok (.iaload, 1) := by decide +kernel
theorem dL_law_1248 : decode cL_law 1248 = .ok (.aload_n 0, 1) := by decide +kernel
theorem dL_law_1249 : decode cL_law 1249 = .ok (.iload 4, 2) := by decide +kernel
theorem dL_law_1251 : decode cL_law 1251 = .ok (.iconst 3, 1) := by decide +kernel
theorem dL_law_1252 : decode cL_law 1252 = .ok (.iadd, 1) := by decide +kernel
theorem dL_law_1253 : decode cL_law 1253 = .ok (.iaload, 1) := by decide +kernel
theorem dL_law_1254 : decode cL_law 1254 = .ok (.aload_n 0, 1) := by decide +kernel
theorem dL_law_1255 : decode cL_law 1255 = .ok (.iload 4, 2) := by decide +kernel
theorem dL_law_1257 : decode cL_law 1257 = .ok (.iconst 4, 1) := by decide +kernel
theorem dL_law_1258 : decode cL_law 1258 = .ok (.iadd, 1) := by decide +kernel
theorem dL_law_1259 : decode cL_law 1259 = .ok (.iaload, 1) := by decide +kernel
theorem dL_law_1260 : decode cL_law 1260 = .ok (.aload_n 3, 1) := by decide +kernel
theorem dL_law_1261 : decode cL_law 1261 = .ok (.invokestatic 176, 3) := by decide +kernel
theorem dL_law_1264 : decode cL_law 1264 = .ok (.istore 5, 2) := by decide +kernel
theorem dL_law_1266 : decode cL_law 1266 = .ok (.aload_n 2, 1) := by decide +kernel
theorem dL_law_1267 : decode cL_law 1267 = .ok (.aload_n 0, 1) := by decide +kernel
theorem dL_law_1268 : decode cL_law 1268 = .ok (.iload 4, 2) := by decide +kernel
theorem dL_law_1270 : decode cL_law 1270 = .ok (.iconst 1, 1) := by decide +kernel
theorem dL_law_1271 : decode cL_law 1271 = .ok (.iadd, 1) := by decide +kernel
theorem dL_law_1272 : decode cL_law 1272 = .ok (.iaload, 1) := by decide +kernel
theorem dL_law_1273 : decode cL_law 1273 = .ok (.aload_n 0, 1) := by decide +kernel
theorem dL_law_1274 : decode cL_law 1274 = .ok (.iload 4, 2) := by decide +kernel
theorem dL_law_1276 : decode cL_law 1276 = .ok (.iconst 2, 1) := by decide +kernel
theorem dL_law_1277 : decode cL_law 1277 = .ok (.iadd, 1) := by decide +kernel
theorem dL_law_1278 : decode cL_law 1278 = .ok (.iaload, 1) := by decide +kernel
theorem dL_law_1279 : decode cL_law 1279 = .ok (.aload_n 0, 1) := by decide +kernel
theorem dL_law_1280 : decode cL_law 1280 = .ok (.iload 4, 2) := by decide +kernel
theorem dL_law_1282 : decode cL_law 1282 = .ok (.iconst 3, 1) := by decide +kernel
theorem dL_law_1283 : decode cL_law 1283 = .ok (.iadd, 1) := by decide +kernel
theorem dL_law_1284 : decode cL_law 1284 = .ok (.iaload, 1) := by decide +kernel
theorem dL_law_1285 : decode cL_law 1285 = .ok (.aload_n 0, 1) := by decide +kernel
theorem dL_law_1286 : decode cL_law 1286 = .ok (.iload 4, 2) := by decide +kernel
theorem dL_law_1288 : decode cL_law 1288 = .ok (.iconst 4, 1) := by decide +kernel
theorem dL_law_1289 : decode cL_law 1289 = .ok (.iadd, 1) := by decide +kernel
theorem dL_law_1290 : decode cL_law 1290 = .ok (.iaload, 1) := by decide +kernel
theorem dL_law_1291 : decode cL_law 1291 = .ok (.invokevirtual 181, 3) := by decide +kernel
theorem dL_law_1294 : decode cL_law 1294 = .ok (.istore 6, 2) := by decide +kernel
theorem dL_law_1296 : decode cL_law 1296 = .ok (.aload_n 2, 1) := by decide +kernel
theorem dL_law_1297 : decode cL_law 1297 = .ok (.invokevirtual 182, 3) := by decide +kernel
theorem dL_law_1300 : decode cL_law 1300 = .ok (.iload 5, 2) := by decide +kernel
theorem dL_law_1302 : decode cL_law 1302 = .ok (.if_icmp .eq 5, 3) := by decide +kernel
theorem dL_law_1305 : decode cL_law 1305 = .ok (.iconst 0, 1) := by decide +kernel
theorem dL_law_1306 : decode cL_law 1306 = .ok (.ireturn, 1) := by decide +kernel
theorem dL_law_1307 : decode cL_law 1307 = .ok (.iload 5, 2) := by decide +kernel
theorem dL_law_1309 : decode cL_law 1309 = .ok (.ifCond .ne 15, 3) := by decide +kernel
theorem dL_law_1312 : decode cL_law 1312 = .ok (.aload_n 3, 1) := by decide +kernel
theorem dL_law_1313 : decode cL_law 1313 = .ok (.iconst 0, 1) := by decide +kernel
theorem dL_law_1314 : decode cL_law 1314 = .ok (.laload, 1) := by decide +kernel
theorem dL_law_1315 : decode cL_law 1315 = .ok (.iload 6, 2) := by decide +kernel
theorem dL_law_1317 : decode cL_law 1317 = .ok (.i2l, 1) := by decide +kernel
theorem dL_law_1318 : decode cL_law 1318 = .ok (.lcmp, 1) := by decide +kernel
theorem dL_law_1319 : decode cL_law 1319 = .ok (.ifCond .eq 5, 3) := by decide +kernel
theorem dL_law_1322 : decode cL_law 1322 = .ok (.iconst 0, 1) := by decide +kernel
theorem dL_law_1323 : decode cL_law 1323 = .ok (.ireturn, 1) := by decide +kernel
theorem dL_law_1324 : decode cL_law 1324 = .ok (.goto 130, 3) := by decide +kernel
theorem dL_law_1327 : decode cL_law 1327 = .ok (.aload_n 1, 1) := by decide +kernel
theorem dL_law_1328 : decode cL_law 1328 = .ok (.aload_n 0, 1) := by decide +kernel
theorem dL_law_1329 : decode cL_law 1329 = .ok (.iload 4, 2) := by decide +kernel
theorem dL_law_1331 : decode cL_law 1331 = .ok (.iconst 1, 1) := by decide +kernel
theorem dL_law_1332 : decode cL_law 1332 = .ok (.iadd, 1) := by decide +kernel
theorem dL_law_1333 : decode cL_law 1333 = .ok (.iaload, 1) := by decide +kernel
theorem dL_law_1334 : decode cL_law 1334 = .ok (.aload_n 0, 1) := by decide +kernel
theorem dL_law_1335 : decode cL_law 1335 = .ok (.iload 4, 2) := by decide +kernel
theorem dL_law_1337 : decode cL_law 1337 = .ok (.iconst 2, 1) := by decide +kernel
theorem dL_law_1338 : decode cL_law 1338 = .ok (.iadd, 1) := by decide +kernel
theorem dL_law_1339 : decode cL_law 1339 = .ok (.iaload, 1) := by decide +kernel
theorem dL_law_1340 : decode cL_law 1340 = .ok (.aload_n 0, 1) := by decide +kernel
theorem dL_law_1341 : decode cL_law 1341 = .ok (.iload 4, 2) := by decide +kernel
theorem dL_law_1343 : decode cL_law 1343 = .ok (.iconst 3, 1) := by decide +kernel
theorem dL_law_1344 : decode cL_law 1344 = .ok (.iadd, 1) := by decide +kernel
theorem dL_law_1345 : decode cL_law 1345 = .ok (.iaload, 1) := by decide +kernel
theorem dL_law_1346 : decode cL_law 1346 = .ok (.invokevirtual 185, 3) := by decide +kernel
theorem dL_law_1349 : decode cL_law 1349 = .ok (.aload_n 2, 1) := by decide +kernel
theorem dL_law_1350 : decode cL_law 1350 = .ok (.aload_n 0, 1) := by decide +kernel
theorem dL_law_1351 : decode cL_law 1351 = .ok (.iload 4, 2) := by decide +kernel
theorem dL_law_1353 : decode cL_law 1353 = .ok (.iconst 1, 1) := by decide +kernel
theorem dL_law_1354 : decode cL_law 1354 = .ok (.iadd, 1) := by decide +kernel
theorem dL_law_1355 : decode cL_law 1355 = .ok (.iaload, 1) := by decide +kernel
theorem dL_law_1356 : decode cL_law 1356 = .ok (.aload_n 0, 1) := by decide +kernel
theorem dL_law_1357 : decode cL_law 1357 = .ok (.iload 4, 2) := by decide +kernel
theorem dL_law_1359 : decode cL_law 1359 = .ok (.iconst 2, 1) := by decide +kernel
theorem dL_law_1360 : decode cL_law 1360 = .ok (.iadd, 1) := by decide +kernel
theorem dL_law_1361 : decode cL_law 1361 = .ok (.iaload, 1) := by decide +kernel
theorem dL_law_1362 : decode cL_law 1362 = .ok (.aload_n 0, 1) := by decide +kernel
theorem dL_law_1363 : decode cL_law 1363 = .ok (.iload 4, 2) := by decide +kernel
theorem dL_law_1365 : decode cL_law 1365 = .ok (.iconst 3, 1) := by decide +kernel
theorem dL_law_1366 : decode cL_law 1366 = .ok (.iadd, 1) := by decide +kernel
theorem dL_law_1367 : decode cL_law 1367 = .ok (.iaload, 1) := by decide +kernel
theorem dL_law_1368 : decode cL_law 1368 = .ok (.invokevirtual 188, 3) := by decide +kernel
theorem dL_law_1371 : decode cL_law 1371 = .ok (.if_icmp .eq 83, 3) := by decide +kernel
theorem dL_law_1374 : decode cL_law 1374 = .ok (.iconst 0, 1) := by decide +kernel
theorem dL_law_1375 : decode cL_law 1375 = .ok (.ireturn, 1) := by decide +kernel
theorem dL_law_1376 : decode cL_law 1376 = .ok (.aload_n 1, 1) := by decide +kernel
theorem dL_law_1377 : decode cL_law 1377 = .ok (.aload_n 0, 1) := by decide +kernel
theorem dL_law_1378 : decode cL_law 1378 = .ok (.iload 4, 2) := by decide +kernel
theorem dL_law_1380 : decode cL_law 1380 = .ok (.iconst 1, 1) := by decide +kernel
theorem dL_law_1381 : decode cL_law 1381 = .ok (.iadd, 1) := by decide +kernel
theorem dL_law_1382 : decode cL_law 1382 = .ok (.iaload, 1) := by decide +kernel
theorem dL_law_1383 : decode cL_law 1383 = .ok (.aload_n 0, 1) := by decide +kernel
theorem dL_law_1384 : decode cL_law 1384 = .ok (.iload 4, 2) := by decide +kernel
theorem dL_law_1386 : decode cL_law 1386 = .ok (.iconst 2, 1) := by decide +kernel
theorem dL_law_1387 : decode cL_law 1387 = .ok (.iadd, 1) := by decide +kernel
theorem dL_law_1388 : decode cL_law 1388 = .ok (.iaload, 1) := by decide +kernel
theorem dL_law_1389 : decode cL_law 1389 = .ok (.ifCond .eq 7, 3) := by decide +kernel
theorem dL_law_1392 : decode cL_law 1392 = .ok (.iconst 1, 1) := by decide +kernel
theorem dL_law_1393 : decode cL_law 1393 = .ok (.goto 4, 3) := by decide +kernel
theorem dL_law_1396 : decode cL_law 1396 = .ok (.iconst 0, 1) := by decide +kernel
theorem dL_law_1397 : decode cL_law 1397 = .ok (.invokevirtual 189, 3) := by decide +kernel
theorem dL_law_1400 : decode cL_law 1400 = .ok (.aload_n 2, 1) := by decide +kernel
theorem dL_law_1401 : decode cL_law 1401 = .ok (.aload_n 0, 1) := by decide +kernel
theorem dL_law_1402 : decode cL_law 1402 = .ok (.iload 4, 2) := by decide +kernel
theorem dL_law_1404 : decode cL_law 1404 = .ok (.iconst 1, 1) := by decide +kernel
theorem dL_law_1405 : decode cL_law 1405 = .ok (.iadd, 1) := by decide +kernel
theorem dL_law_1406 : decode cL_law 1406 = .ok (.iaload, 1) := by decide +kernel
theorem dL_law_1407 : decode cL_law 1407 = .ok (.aload_n 0, 1) := by decide +kernel
theorem dL_law_1408 : decode cL_law 1408 = .ok (.iload 4, 2) := by decide +kernel
theorem dL_law_1410 : decode cL_law 1410 = .ok (.iconst 2, 1) := by decide +kernel
theorem dL_law_1411 : decode cL_law 1411 = .ok (.iadd, 1) := by decide +kernel
theorem dL_law_1412 : decode cL_law 1412 = .ok (.iaload, 1) := by decide +kernel
theorem dL_law_1413 : decode cL_law 1413 = .ok (.ifCond .eq 7, 3) := by decide +kernel
theorem dL_law_1416 : decode cL_law 1416 = .ok (.iconst 1, 1) := by decide +kernel
theorem dL_law_1417 : decode cL_law 1417 = .ok (.goto 4, 3) := by decide +kernel
theorem dL_law_1420 : decode cL_law 1420 = .ok (.iconst 0, 1) := by decide +kernel
theorem dL_law_1421 : decode cL_law 1421 = .ok (.invokevirtual 193, 3) := by decide +kernel
theorem dL_law_1424 : decode cL_law 1424 = .ok (.if_icmp .eq 30, 3) := by decide +kernel
theorem dL_law_1427 : decode cL_law 1427 = .ok (.iconst 0, 1) := by decide +kernel
theorem dL_law_1428 : decode cL_law 1428 = .ok (.ireturn, 1) := by decide +kernel
theorem dL_law_1429 : decode cL_law 1429 = .ok (.aload_n 1, 1) := by decide +kernel
theorem dL_law_1430 : decode cL_law 1430 = .ok (.aload_n 0, 1) := by decide +kernel
theorem dL_law_1431 : decode cL_law 1431 = .ok (.iload 4, 2) := by decide +kernel
theorem dL_law_1433 : decode cL_law 1433 = .ok (.iconst 1, 1) := by decide +kernel
theorem dL_law_1434 : decode cL_law 1434 = .ok (.iadd, 1) := by decide +kernel
theorem dL_law_1435 : decode cL_law 1435 = .ok (.iaload, 1) := by decide +kernel
theorem dL_law_1436 : decode cL_law 1436 = .ok (.invokevirtual 194, 3) := by decide +kernel
theorem dL_law_1439 : decode cL_law 1439 = .ok (.aload_n 2, 1) := by decide +kernel
theorem dL_law_1440 : decode cL_law 1440 = .ok (.aload_n 0, 1) := by decide +kernel
theorem dL_law_1441 : decode cL_law 1441 = .ok (.iload 4, 2) := by decide +kernel
theorem dL_law_1443 : decode cL_law 1443 = .ok (.iconst 1, 1) := by decide +kernel
theorem dL_law_1444 : decode cL_law 1444 = .ok (.iadd, 1) := by decide +kernel
theorem dL_law_1445 : decode cL_law 1445 = .ok (.iaload, 1) := by decide +kernel
theorem dL_law_1446 : decode cL_law 1446 = .ok (.invokevirtual 197, 3) := by decide +kernel
theorem dL_law_1449 : decode cL_law 1449 = .ok (.if_icmp .eq 5, 3) := by decide +kernel
theorem dL_law_1452 : decode cL_law 1452 = .ok (.iconst 0, 1) := by decide +kernel
theorem dL_law_1453 : decode cL_law 1453 = .ok (.ireturn, 1) := by decide +kernel
theorem dL_law_1454 : decode cL_law 1454 = .ok (.iinc 4 7, 3) := by decide +kernel
theorem dL_law_1457 : decode cL_law 1457 = .ok (.goto (-1434), 3) := by decide +kernel
theorem dL_law_1460 : decode cL_law 1460 = .ok (.iconst 1, 1) := by decide +kernel
theorem dL_law_1461 : decode cL_law 1461 = .ok (.ireturn, 1) := by decide +kernel
def P_L_law_J1152 (sd : Nat → Nat) (x4 : Int) (y0 : Int) (y1 : Int) (y2 : Int) (y4 : Int) (R : Int → St → Prop) (Q : Int → St → Prop) (σ : St) : Prop :=
  P_X12_see y2 y1 y0 σ (fun r_136 σ_135 => (if y4 = r_136 then R (wi (x4 + 7)) σ_135 else Q 0 σ_135))
set_option maxRecDepth 20000 in
set_option maxHeartbeats 2000000 in
theorem e_P_L_law_J1152 {sd : Nat → Nat} {mc ms kq nq kr nr : Nat} {x4 : Int} {y0 : Int} {y1 : Int} {y2 : Int} {y4 : Int} {R : Int → St → Prop} {Q : Int → St → Prop} {σ : St} (hsd : sd 1 ≤ 3584) (h1 : kq ≤ kr) (h2 : nq ≤ nr) (h3 : kr ≤ mc) (h4 : nr ≤ ms) (hR : ∀ x4 σ, R x4 σ → EL sd Y_L_law 516 mc ms (QI Q) ww kr nr 23 [some (vR 52 0), some (vR 11 0), some (vR 12 0), some (vR 60 0), some (vI x4), none, none] [] σ) (h : P_L_law_J1152 sd x4 y0 y1 y2 y4 R Q σ) : EL sd Y_L_law 516 mc ms (QI Q) ww kq nq 1152 [some (vR 52 0), some (vR 11 0), some (vR 12 0), some (vR 60 0), some (vI x4), none, none] [vI y0, vI y1, vI y2, vR 12 0, vI y4] σ := by
  unfold P_L_law_J1152 at h
  refine EL_callV (Y' := Y_X12_see) (as := [vI y2, vI y1, vI y0]) (st := [vI y4]) dL_law_1152 lk_RL_162 m_X12_see (by decide) (by omega) (by omega) rfl rfl (Nat.le_of_ble_eq_true rfl) (s_X12_see h) (fun r0 B0 σ_135 h => ?_)
  obtain ⟨r_136, rfl, rfl, h⟩ := h
  refine EL_icmp_eq (tgt := 1454) dL_law_1155 (by decide) (fun hc => ?_) (fun hc => ?_)
  · have h := Eq.mp (if_pos hc) h
    refine EL_iinc (ls' := [some (vR 52 0), some (vR 11 0), some (vR 12 0), some (vR 60 0), some (vI (wi (x4 + 7))), none, none]) dL_law_1454 rfl (by decide) rfl rfl ?_
    refine EL_goto (tgt := 23) dL_law_1457 (by decide) ?_
    exact EL_widen (by omega) (by omega) (hR _ _ h)
  · have h := Eq.mp (if_neg hc) h
    refine EL_ic dL_law_1158 rfl ?_
    exact EL_widen (k' := mc) (n' := ms) (by omega) (by omega) (EL_zret dL_law_1159 rfl (by decide) ⟨_, rfl, rfl, h⟩)
def P_L_law_J1122 (sd : Nat → Nat) (x4 : Int) (y0 : Int) (y1 : Int) (y2 : Int) (R : Int → St → Prop) (Q : Int → St → Prop) (σ : St) : Prop :=
  P_X11_see y2 y1 y0 σ (fun r_134 σ_133 => 0 ≤ wi (x4 + 1) ∧ wi (x4 + 1) < (sd 1 : Int) ∧ 0 ≤ wi (x4 + 2) ∧ wi (x4 + 2) < (sd 1 : Int) ∧ 0 ≤ wi (x4 + 3) ∧ wi (x4 + 3) < (sd 1 : Int) ∧ (if (scr sd (wi (x4 + 3))) = 0 then P_L_law_J1152 sd x4 0 (scr sd (wi (x4 + 2))) (scr sd (wi (x4 + 1))) r_134 R Q σ_133 else P_L_law_J1152 sd x4 1 (scr sd (wi (x4 + 2))) (scr sd (wi (x4 + 1))) r_134 R Q σ_133))
set_option maxRecDepth 20000 in
set_option maxHeartbeats 2000000 in
theorem e_P_L_law_J1122 {sd : Nat → Nat} {mc ms kq nq kr nr : Nat} {x4 : Int} {y0 : Int} {y1 : Int} {y2 : Int} {R : Int → St → Prop} {Q : Int → St → Prop} {σ : St} (hsd : sd 1 ≤ 3584) (h1 : kq ≤ kr) (h2 : nq ≤ nr) (h3 : kr ≤ mc) (h4 : nr ≤ ms) (hR : ∀ x4 σ, R x4 σ → EL sd Y_L_law 516 mc ms (QI Q) ww kr nr 23 [some (vR 52 0), some (vR 11 0), some (vR 12 0), some (vR 60 0), some (vI x4), none, none] [] σ) (h : P_L_law_J1122 sd x4 y0 y1 y2 R Q σ) : EL sd Y_L_law 516 mc ms (QI Q) ww kq nq 1122 [some (vR 52 0), some (vR 11 0), some (vR 12 0), some (vR 60 0), some (vI x4), none, none] [vI y0, vI y1, vI y2, vR 11 0] σ := by
  unfold P_L_law_J1122 at h
  refine EL_callV (Y' := Y_X11_see) (as := [vI y2, vI y1, vI y0]) (st := []) dL_law_1122 lk_RL_158 m_X11_see (by decide) (by omega) (by omega) rfl rfl (Nat.le_of_ble_eq_true rfl) (s_X11_see h) (fun r0 B0 σ_133 h => ?_)
  obtain ⟨r_134, rfl, rfl, h⟩ := h
  refine EL_aload_n dL_law_1125 rfl rfl ?_
  refine EL_aload_n dL_law_1126 rfl rfl ?_
  refine EL_iload dL_law_1127 rfl ?_
  refine EL_ic dL_law_1129 rfl ?_
  refine EL_iadd dL_law_1130 ?_
  obtain ⟨hg0, hg1, h⟩ := h
  refine EL_sld dL_law_1131 hg0 hg1 ?_
  refine EL_aload_n dL_law_1132 rfl rfl ?_
  refine EL_iload dL_law_1133 rfl ?_
  refine EL_ic dL_law_1135 rfl ?_
  refine EL_iadd dL_law_1136 ?_
  obtain ⟨hg0, hg1, h⟩ := h
  refine EL_sld dL_law_1137 hg0 hg1 ?_
  refine EL_aload_n dL_law_1138 rfl rfl ?_
  refine EL_iload dL_law_1139 rfl ?_
  refine EL_ic dL_law_1141 rfl ?_
  refine EL_iadd dL_law_1142 ?_
  obtain ⟨hg0, hg1, h⟩ := h
  refine EL_sld dL_law_1143 hg0 hg1 ?_
  refine EL_if_eq (tgt := 1151) dL_law_1144 (by decide) (fun hc => ?_) (fun hc => ?_)
  · have h := Eq.mp (if_pos hc) h
    refine EL_ic dL_law_1151 rfl ?_
    exact e_P_L_law_J1152 hsd (by omega) (by omega) h3 h4 hR h
  · have h := Eq.mp (if_neg hc) h
    refine EL_ic dL_law_1147 rfl ?_
    refine EL_goto (tgt := 1152) dL_law_1148 (by decide) ?_
    exact e_P_L_law_J1152 hsd (by omega) (by omega) h3 h4 hR h
def P_L_law_J1324 (sd : Nat → Nat) (x4 : Int) (R : Int → St → Prop) (Q : Int → St → Prop) (σ : St) : Prop :=
  R (wi (x4 + 7)) σ
set_option maxRecDepth 20000 in
set_option maxHeartbeats 2000000 in
theorem e_P_L_law_J1324 {sd : Nat → Nat} {mc ms kq nq kr nr : Nat} {x4 : Int} {R : Int → St → Prop} {Q : Int → St → Prop} {σ : St} (hsd : sd 1 ≤ 3584) (h1 : kq ≤ kr) (h2 : nq ≤ nr) (h3 : kr ≤ mc) (h4 : nr ≤ ms) (hR : ∀ x4 σ, R x4 σ → EL sd Y_L_law 516 mc ms (QI Q) ww kr nr 23 [some (vR 52 0), some (vR 11 0), some (vR 12 0), some (vR 60 0), some (vI x4), none, none] [] σ) (h : P_L_law_J1324 sd x4 R Q σ) : EL sd Y_L_law 516 mc ms (QI Q) ww kq nq 1324 [some (vR 52 0), some (vR 11 0), some (vR 12 0), some (vR 60 0), some (vI x4), none, none] [] σ := by
  unfold P_L_law_J1324 at h
  refine EL_goto (tgt := 1454) dL_law_1324 (by decide) ?_
  refine EL_iinc (ls' := [some (vR 52 0), some (vR 11 0), some (vR 12 0), some (vR 60 0), some (vI (wi (x4 + 7))), none, none]) dL_law_1454 rfl (by decide) rfl rfl ?_
  refine EL_goto (tgt := 23) dL_law_1457 (by decide) ?_
  exact EL_widen (by omega) (by omega) (hR _ _ h)
def P_L_law_J1421 (sd : Nat → Nat) (x4 : Int) (y0 : Int) (y1 : Int) (y3 : Int) (R : Int → St → Prop) (Q : Int → St → Prop) (σ : St) : Prop :=
  P_X12_mark y1 y0 σ (fun r_162 σ_161 => (if y3 = r_162 then R (wi (x4 + 7)) σ_161 else Q 0 σ_161))
set_option maxRecDepth 20000 in
set_option maxHeartbeats 2000000 in
theorem e_P_L_law_J1421 {sd : Nat → Nat} {mc ms kq nq kr nr : Nat} {x4 : Int} {y0 : Int} {y1 : Int} {y3 : Int} {R : Int → St → Prop} {Q : Int → St → Prop} {σ : St} (hsd : sd 1 ≤ 3584) (h1 : kq ≤ kr) (h2 : nq ≤ nr) (h3 : kr ≤ mc) (h4 : nr ≤ ms) (hR : ∀ x4 σ, R x4 σ → EL sd Y_L_law 516 mc ms (QI Q) ww kr nr 23 [some (vR 52 0), some (vR 11 0), some (vR 12 0), some (vR 60 0), some (vI x4), none, none] [] σ) (h : P_L_law_J1421 sd x4 y0 y1 y3 R Q σ) : EL sd Y_L_law 516 mc ms (QI Q) ww kq nq 1421 [some (vR 52 0), some (vR 11 0), some (vR 12 0), some (vR 60 0), some (vI x4), none, none] [vI y0, vI y1, vR 12 0, vI y3] σ := by
  unfold P_L_law_J1421 at h
  refine EL_callV (Y' := Y_X12_mark) (as := [vI y1, vI y0]) (st := [vI y3]) dL_law_1421 lk_RL_193 m_X12_mark (by decide) (by omega) (by omega) rfl rfl (Nat.le_of_ble_eq_true rfl) (s_X12_mark h) (fun r0 B0 σ_161 h => ?_)
  obtain ⟨r_162, rfl, rfl, h⟩ := h
  refine EL_icmp_eq (tgt := 1454) dL_law_1424 (by decide) (fun hc => ?_) (fun hc => ?_)
  · have h := Eq.mp (if_pos hc) h
    refine EL_iinc (ls' := [some (vR 52 0), some (vR 11 0), some (vR 12 0), some (vR 60 0), some (vI (wi (x4 + 7))), none, none]) dL_law_1454 rfl (by decide) rfl rfl ?_
    refine EL_goto (tgt := 23) dL_law_1457 (by decide) ?_
    exact EL_widen (by omega) (by omega) (hR _ _ h)
  · have h := Eq.mp (if_neg hc) h
    refine EL_ic dL_law_1427 rfl ?_
    exact EL_widen (k' := mc) (n' := ms) (by omega) (by omega) (EL_zret dL_law_1428 rfl (by decide) ⟨_, rfl, rfl, h⟩)
def P_L_law_J1397 (sd : Nat → Nat) (x4 : Int) (y0 : Int) (y1 : Int) (R : Int → St → Prop) (Q : Int → St → Prop) (σ : St) : Prop :=
  P_X11_mark y1 y0 σ (fun r_160 σ_159 => 0 ≤ wi (x4 + 1) ∧ wi (x4 + 1) < (sd 1 : Int) ∧ 0 ≤ wi (x4 + 2) ∧ wi (x4 + 2) < (sd 1 : Int) ∧ (if (scr sd (wi (x4 + 2))) = 0 then P_L_law_J1421 sd x4 0 (scr sd (wi (x4 + 1))) r_160 R Q σ_159 else P_L_law_J1421 sd x4 1 (scr sd (wi (x4 + 1))) r_160 R Q σ_159))
set_option maxRecDepth 20000 in
set_option maxHeartbeats 2000000 in
theorem e_P_L_law_J1397 {sd : Nat → Nat} {mc ms kq nq kr nr : Nat} {x4 : Int} {y0 : Int} {y1 : Int} {R : Int → St → Prop} {Q : Int → St → Prop} {σ : St} (hsd : sd 1 ≤ 3584) (h1 : kq ≤ kr) (h2 : nq ≤ nr) (h3 : kr ≤ mc) (h4 : nr ≤ ms) (hR : ∀ x4 σ, R x4 σ → EL sd Y_L_law 516 mc ms (QI Q) ww kr nr 23 [some (vR 52 0), some (vR 11 0), some (vR 12 0), some (vR 60 0), some (vI x4), none, none] [] σ) (h : P_L_law_J1397 sd x4 y0 y1 R Q σ) : EL sd Y_L_law 516 mc ms (QI Q) ww kq nq 1397 [some (vR 52 0), some (vR 11 0), some (vR 12 0), some (vR 60 0), some (vI x4), none, none] [vI y0, vI y1, vR 11 0] σ := by
  unfold P_L_law_J1397 at h
  refine EL_callV (Y' := Y_X11_mark) (as := [vI y1, vI y0]) (st := []) dL_law_1397 lk_RL_189 m_X11_mark (by decide) (by omega) (by omega) rfl rfl (Nat.le_of_ble_eq_true rfl) (s_X11_mark h) (fun r0 B0 σ_159 h => ?_)
  obtain ⟨r_160, rfl, rfl, h⟩ := h
  refine EL_aload_n dL_law_1400 rfl rfl ?_
  refine EL_aload_n dL_law_1401 rfl rfl ?_
  refine EL_iload dL_law_1402 rfl ?_
  refine EL_ic dL_law_1404 rfl ?_
  refine EL_iadd dL_law_1405 ?_
  obtain ⟨hg0, hg1, h⟩ := h
  refine EL_sld dL_law_1406 hg0 hg1 ?_
  refine EL_aload_n dL_law_1407 rfl rfl ?_
  refine EL_iload dL_law_1408 rfl ?_
  refine EL_ic dL_law_1410 rfl ?_
  refine EL_iadd dL_law_1411 ?_
  obtain ⟨hg0, hg1, h⟩ := h
  refine EL_sld dL_law_1412 hg0 hg1 ?_
  refine EL_if_eq (tgt := 1420) dL_law_1413 (by decide) (fun hc => ?_) (fun hc => ?_)
  · have h := Eq.mp (if_pos hc) h
    refine EL_ic dL_law_1420 rfl ?_
    exact e_P_L_law_J1421 hsd (by omega) (by omega) h3 h4 hR h
  · have h := Eq.mp (if_neg hc) h
    refine EL_ic dL_law_1416 rfl ?_
    refine EL_goto (tgt := 1421) dL_law_1417 (by decide) ?_
    exact e_P_L_law_J1421 hsd (by omega) (by omega) h3 h4 hR h
def P_L_law_L23 (sd : Nat → Nat)   (Q : Int → St → Prop) : Nat → Int → St → Prop
  | 0, _, _ => False
  | n + 1, x4, σ => (if (wi ((sd 1 : Int) - 7)) < x4 then Q 1 σ else 0 ≤ x4 ∧ x4 < (sd 1 : Int) ∧ (if (bA (scr sd x4) 63) = 0 then 0 ≤ wi (x4 + 1) ∧ wi (x4 + 1) < (sd 1 : Int) ∧ 0 ≤ wi (x4 + 2) ∧ wi (x4 + 2) < (sd 1 : Int) ∧ 0 ≤ wi (x4 + 3) ∧ wi (x4 + 3) < (sd 1 : Int) ∧ 0 ≤ wi (x4 + 4) ∧ wi (x4 + 4) < (sd 1 : Int) ∧ 0 ≤ wi (x4 + 5) ∧ wi (x4 + 5) < (sd 1 : Int) ∧ 0 ≤ wi (x4 + 6) ∧ wi (x4 + 6) < (sd 1 : Int) ∧ P_X11_feed (lO (lL (scr sd (wi (x4 + 1))) 32) (lA (scr sd (wi (x4 + 2))) 4294967295)) (lO (lL (scr sd (wi (x4 + 3))) 32) (lA (scr sd (wi (x4 + 4))) 4294967295)) (lO (lL (scr sd (wi (x4 + 5))) 32) (lA (scr sd (wi (x4 + 6))) 4294967295)) σ (fun r_2 σ_1 => 0 ≤ wi (x4 + 1) ∧ wi (x4 + 1) < (sd 1 : Int) ∧ 0 ≤ wi (x4 + 2) ∧ wi (x4 + 2) < (sd 1 : Int) ∧ 0 ≤ wi (x4 + 3) ∧ wi (x4 + 3) < (sd 1 : Int) ∧ 0 ≤ wi (x4 + 4) ∧ wi (x4 + 4) < (sd 1 : Int) ∧ 0 ≤ wi (x4 + 5) ∧ wi (x4 + 5) < (sd 1 : Int) ∧ 0 ≤ wi (x4 + 6) ∧ wi (x4 + 6) < (sd 1 : Int) ∧ P_X12_feed (lO (lL (scr sd (wi (x4 + 1))) 32) (lA (scr sd (wi (x4 + 2))) 4294967295)) (lO (lL (scr sd (wi (x4 + 3))) 32) (lA (scr sd (wi (x4 + 4))) 4294967295)) (lO (lL (scr sd (wi (x4 + 5))) 32) (lA (scr sd (wi (x4 + 6))) 4294967295)) σ_1 (fun r_4 σ_3 => (if r_2 = r_4 then (P_L_law_L23 sd Q n) (wi (x4 + 7)) σ_3 else Q 0 σ_3))) else if (bA (scr sd x4) 63) = 1 then P_X11_shop σ (fun r_6 σ_5 => P_X12_shop σ_5 (fun r_8 σ_7 => (if r_6 = r_8 then (P_L_law_L23 sd Q n) (wi (x4 + 7)) σ_7 else Q 0 σ_7))) else if (bA (scr sd x4) 63) = 2 then P_X11_run σ (fun r_10 σ_9 => P_X12_run σ_9 (fun r_12 σ_11 => (if r_10 = r_12 then (P_L_law_L23 sd Q n) (wi (x4 + 7)) σ_11 else Q 0 σ_11))) else if (bA (scr sd x4) 63) = 3 then 0 ≤ wi (x4 + 1) ∧ wi (x4 + 1) < (sd 1 : Int) ∧ 0 ≤ wi (x4 + 2) ∧ wi (x4 + 2) < (sd 1 : Int) ∧ P_X11_counter (scr sd (wi (x4 + 1))) (scr sd (wi (x4 + 2))) σ (fun r_14 σ_13 => 0 ≤ wi (x4 + 1) ∧ wi (x4 + 1) < (sd 1 : Int) ∧ 0 ≤ wi (x4 + 2) ∧ wi (x4 + 2) < (sd 1 : Int) ∧ P_X12_counter (scr sd (wi (x4 + 1))) (scr sd (wi (x4 + 2))) σ_13 (fun r_16 σ_15 => (if r_14 = r_16 then (P_L_law_L23 sd Q n) (wi (x4 + 7)) σ_15 else Q 0 σ_15))) else if (bA (scr sd x4) 63) = 4 then 0 ≤ wi (x4 + 1) ∧ wi (x4 + 1) < (sd 1 : Int) ∧ 0 ≤ wi (x4 + 2) ∧ wi (x4 + 2) < (sd 1 : Int) ∧ P_X11_ball (scr sd (wi (x4 + 1))) (scr sd (wi (x4 + 2))) σ (fun r_18 σ_17 => 0 ≤ wi (x4 + 1) ∧ wi (x4 + 1) < (sd 1 : Int) ∧ 0 ≤ wi (x4 + 2) ∧ wi (x4 + 2) < (sd 1 : Int) ∧ P_X12_ball (scr sd (wi (x4 + 1))) (scr sd (wi (x4 + 2))) σ_17 (fun r_20 σ_19 => (if r_18 = r_20 then (P_L_law_L23 sd Q n) (wi (x4 + 7)) σ_19 else Q 0 σ_19))) else if (bA (scr sd x4) 63) = 5 then 0 ≤ wi (x4 + 1) ∧ wi (x4 + 1) < (sd 1 : Int) ∧ P_X11_send (scr sd (wi (x4 + 1))) σ (fun r_22 σ_21 => 0 ≤ wi (x4 + 1) ∧ wi (x4 + 1) < (sd 1 : Int) ∧ P_X12_send (scr sd (wi (x4 + 1))) σ_21 (fun r_24 σ_23 => (if r_22 = r_24 then (P_L_law_L23 sd Q n) (wi (x4 + 7)) σ_23 else Q 0 σ_23))) else if (bA (scr sd x4) 63) = 6 then P_X11_beat σ (fun r_26 σ_25 => P_X12_beat σ_25 (fun r_28 σ_27 => (if r_26 = r_28 then (P_L_law_L23 sd Q n) (wi (x4 + 7)) σ_27 else Q 0 σ_27))) else if (bA (scr sd x4) 63) = 7 then 0 ≤ wi (x4 + 1) ∧ wi (x4 + 1) < (sd 1 : Int) ∧ 0 ≤ wi (x4 + 2) ∧ wi (x4 + 2) < (sd 1 : Int) ∧ P_X11_set (scr sd (wi (x4 + 1))) (scr sd (wi (x4 + 2))) σ (fun r_30 σ_29 => 0 ≤ wi (x4 + 1) ∧ wi (x4 + 1) < (sd 1 : Int) ∧ 0 ≤ wi (x4 + 2) ∧ wi (x4 + 2) < (sd 1 : Int) ∧ P_X12_set (scr sd (wi (x4 + 1))) (scr sd (wi (x4 + 2))) σ_29 (fun r_32 σ_31 => (if r_30 = r_32 then (P_L_law_L23 sd Q n) (wi (x4 + 7)) σ_31 else Q 0 σ_31))) else if (bA (scr sd x4) 63) = 8 then 0 ≤ wi (x4 + 1) ∧ wi (x4 + 1) < (sd 1 : Int) ∧ 0 ≤ wi (x4 + 2) ∧ wi (x4 + 2) < (sd 1 : Int) ∧ P_X11_carry (scr sd (wi (x4 + 1))) (scr sd (wi (x4 + 2))) σ (fun r_34 σ_33 => 0 ≤ wi (x4 + 1) ∧ wi (x4 + 1) < (sd 1 : Int) ∧ 0 ≤ wi (x4 + 2) ∧ wi (x4 + 2) < (sd 1 : Int) ∧ P_X12_carry (scr sd (wi (x4 + 1))) (scr sd (wi (x4 + 2))) σ_33 (fun r_36 σ_35 => (if r_34 = r_36 then (P_L_law_L23 sd Q n) (wi (x4 + 7)) σ_35 else Q 0 σ_35))) else if (bA (scr sd x4) 63) = 9 then P_X11_day σ (fun r_38 σ_37 => P_X12_day σ_37 (fun r_40 σ_39 => (if r_38 = r_40 then (P_L_law_L23 sd Q n) (wi (x4 + 7)) σ_39 else Q 0 σ_39))) else if (bA (scr sd x4) 63) = 10 then P_X11_undo σ (fun r_42 σ_41 => P_X12_undo σ_41 (fun r_44 σ_43 => (if r_42 = r_44 then (P_L_law_L23 sd Q n) (wi (x4 + 7)) σ_43 else Q 0 σ_43))) else if (bA (scr sd x4) 63) = 11 then 0 ≤ wi (x4 + 1) ∧ wi (x4 + 1) < (sd 1 : Int) ∧ P_X11_judged (scr sd (wi (x4 + 1))) σ (fun r_46 σ_45 => 0 ≤ wi (x4 + 1) ∧ wi (x4 + 1) < (sd 1 : Int) ∧ P_X12_judged (scr sd (wi (x4 + 1))) σ_45 (fun r_48 σ_47 => (if r_46 = r_48 then (P_L_law_L23 sd Q n) (wi (x4 + 7)) σ_47 else Q 0 σ_47))) else if (bA (scr sd x4) 63) = 12 then 0 ≤ wi (x4 + 1) ∧ wi (x4 + 1) < (sd 1 : Int) ∧ P_X11_falls (scr sd (wi (x4 + 1))) σ (fun r_50 σ_49 => 0 ≤ wi (x4 + 1) ∧ wi (x4 + 1) < (sd 1 : Int) ∧ P_X12_falls (scr sd (wi (x4 + 1))) σ_49 (fun r_52 σ_51 => (if r_50 = r_52 then (P_L_law_L23 sd Q n) (wi (x4 + 7)) σ_51 else Q 0 σ_51))) else if (bA (scr sd x4) 63) = 13 then 0 ≤ wi (x4 + 1) ∧ wi (x4 + 1) < (sd 1 : Int) ∧ P_X11_catches (scr sd (wi (x4 + 1))) σ (fun r_54 σ_53 => 0 ≤ wi (x4 + 1) ∧ wi (x4 + 1) < (sd 1 : Int) ∧ P_X12_catches (scr sd (wi (x4 + 1))) σ_53 (fun r_56 σ_55 => (if r_54 = r_56 then (P_L_law_L23 sd Q n) (wi (x4 + 7)) σ_55 else Q 0 σ_55))) else if (bA (scr sd x4) 63) = 14 then 0 ≤ wi (x4 + 1) ∧ wi (x4 + 1) < (sd 1 : Int) ∧ 0 ≤ wi (x4 + 2) ∧ wi (x4 + 2) < (sd 1 : Int) ∧ P_X11_span (scr sd (wi (x4 + 1))) (scr sd (wi (x4 + 2))) σ (fun r_58 σ_57 => 0 ≤ wi (x4 + 1) ∧ wi (x4 + 1) < (sd 1 : Int) ∧ 0 ≤ wi (x4 + 2) ∧ wi (x4 + 2) < (sd 1 : Int) ∧ P_X12_span (scr sd (wi (x4 + 1))) (scr sd (wi (x4 + 2))) σ_57 (fun r_60 σ_59 => (if r_58 = r_60 then (P_L_law_L23 sd Q n) (wi (x4 + 7)) σ_59 else Q 0 σ_59))) else if (bA (scr sd x4) 63) = 15 then P_X11_idle σ (fun r_62 σ_61 => P_X12_idle σ_61 (fun r_64 σ_63 => (if r_62 = r_64 then (P_L_law_L23 sd Q n) (wi (x4 + 7)) σ_63 else Q 0 σ_63))) else if (bA (scr sd x4) 63) = 16 then P_X11_lost σ (fun r_66 σ_65 => P_X12_lost σ_65 (fun r_68 σ_67 => (if r_66 = r_68 then (P_L_law_L23 sd Q n) (wi (x4 + 7)) σ_67 else Q 0 σ_67))) else if (bA (scr sd x4) 63) = 17 then P_X11_twins σ (fun r_70 σ_69 => P_X12_twins σ_69 (fun r_72 σ_71 => (if r_70 = r_72 then (P_L_law_L23 sd Q n) (wi (x4 + 7)) σ_71 else Q 0 σ_71))) else if (bA (scr sd x4) 63) = 18 then P_X11_crowd σ (fun r_74 σ_73 => P_X12_crowd σ_73 (fun r_76 σ_75 => (if r_74 = r_76 then (P_L_law_L23 sd Q n) (wi (x4 + 7)) σ_75 else Q 0 σ_75))) else if (bA (scr sd x4) 63) = 19 then 0 ≤ wi (x4 + 1) ∧ wi (x4 + 1) < (sd 1 : Int) ∧ P_X11_shave (scr sd (wi (x4 + 1))) σ (fun r_78 σ_77 => 0 ≤ wi (x4 + 1) ∧ wi (x4 + 1) < (sd 1 : Int) ∧ P_X12_shave (scr sd (wi (x4 + 1))) σ_77 (fun r_80 σ_79 => (if r_78 = r_80 then (P_L_law_L23 sd Q n) (wi (x4 + 7)) σ_79 else Q 0 σ_79))) else if (bA (scr sd x4) 63) = 20 then 0 ≤ wi (x4 + 1) ∧ wi (x4 + 1) < (sd 1 : Int) ∧ P_X11_trim (scr sd (wi (x4 + 1))) σ (fun r_82 σ_81 => 0 ≤ wi (x4 + 1) ∧ wi (x4 + 1) < (sd 1 : Int) ∧ P_X12_trim (scr sd (wi (x4 + 1))) σ_81 (fun r_84 σ_83 => (if r_82 = r_84 then (P_L_law_L23 sd Q n) (wi (x4 + 7)) σ_83 else Q 0 σ_83))) else if (bA (scr sd x4) 63) = 21 then P_X11_swap σ (fun r_86 σ_85 => P_X12_swap σ_85 (fun r_88 σ_87 => (if r_86 = r_88 then (P_L_law_L23 sd Q n) (wi (x4 + 7)) σ_87 else Q 0 σ_87))) else if (bA (scr sd x4) 63) = 22 then 0 ≤ wi (x4 + 1) ∧ wi (x4 + 1) < (sd 1 : Int) ∧ P_X11_back (scr sd (wi (x4 + 1))) σ (fun r_90 σ_89 => 0 ≤ wi (x4 + 1) ∧ wi (x4 + 1) < (sd 1 : Int) ∧ P_X12_back (scr sd (wi (x4 + 1))) σ_89 (fun r_92 σ_91 => (if r_90 = r_92 then (P_L_law_L23 sd Q n) (wi (x4 + 7)) σ_91 else Q 0 σ_91))) else if (bA (scr sd x4) 63) = 23 then 0 ≤ wi (x4 + 1) ∧ wi (x4 + 1) < (sd 1 : Int) ∧ P_X11_trip (scr sd (wi (x4 + 1))) σ (fun r_94 σ_93 => 0 ≤ wi (x4 + 1) ∧ wi (x4 + 1) < (sd 1 : Int) ∧ P_X12_trip (scr sd (wi (x4 + 1))) σ_93 (fun r_96 σ_95 => (if r_94 = r_96 then (P_L_law_L23 sd Q n) (wi (x4 + 7)) σ_95 else Q 0 σ_95))) else if (bA (scr sd x4) 63) = 24 then P_X11_rest σ (fun r_98 σ_97 => P_X12_rest σ_97 (fun r_100 σ_99 => (if r_98 = r_100 then (P_L_law_L23 sd Q n) (wi (x4 + 7)) σ_99 else Q 0 σ_99))) else if (bA (scr sd x4) 63) = 25 then 0 ≤ wi (x4 + 1) ∧ wi (x4 + 1) < (sd 1 : Int) ∧ P_X11_row (scr sd (wi (x4 + 1))) σ (fun r_102 σ_101 => 0 ≤ wi (x4 + 1) ∧ wi (x4 + 1) < (sd 1 : Int) ∧ P_X12_row (scr sd (wi (x4 + 1))) σ_101 (fun r_104 σ_103 => (if r_102 = r_104 then (P_L_law_L23 sd Q n) (wi (x4 + 7)) σ_103 else Q 0 σ_103))) else if (bA (scr sd x4) 63) = 26 then P_X11_last σ (fun r_106 σ_105 => P_X12_last σ_105 (fun r_108 σ_107 => (if r_106 = r_108 then (P_L_law_L23 sd Q n) (wi (x4 + 7)) σ_107 else Q 0 σ_107))) else if (bA (scr sd x4) 63) = 27 then 0 ≤ wi (x4 + 1) ∧ wi (x4 + 1) < (sd 1 : Int) ∧ 0 ≤ wi (x4 + 2) ∧ wi (x4 + 2) < (sd 1 : Int) ∧ P_X11_later (scr sd (wi (x4 + 1))) (scr sd (wi (x4 + 2))) σ (fun r_110 σ_109 => 0 ≤ wi (x4 + 1) ∧ wi (x4 + 1) < (sd 1 : Int) ∧ 0 ≤ wi (x4 + 2) ∧ wi (x4 + 2) < (sd 1 : Int) ∧ P_X12_later (scr sd (wi (x4 + 1))) (scr sd (wi (x4 + 2))) σ_109 (fun r_112 σ_111 => (if r_110 = r_112 then (P_L_law_L23 sd Q n) (wi (x4 + 7)) σ_111 else Q 0 σ_111))) else if (bA (scr sd x4) 63) = 28 then 0 ≤ wi (x4 + 1) ∧ wi (x4 + 1) < (sd 1 : Int) ∧ P_X11_stray (scr sd (wi (x4 + 1))) σ (fun r_114 σ_113 => 0 ≤ wi (x4 + 1) ∧ wi (x4 + 1) < (sd 1 : Int) ∧ P_X12_stray (scr sd (wi (x4 + 1))) σ_113 (fun r_116 σ_115 => (if r_114 = r_116 then (P_L_law_L23 sd Q n) (wi (x4 + 7)) σ_115 else Q 0 σ_115))) else if (bA (scr sd x4) 63) = 29 then P_X11_first σ (fun r_118 σ_117 => P_X12_first σ_117 (fun r_120 σ_119 => (if r_118 = r_120 then (P_L_law_L23 sd Q n) (wi (x4 + 7)) σ_119 else Q 0 σ_119))) else if (bA (scr sd x4) 63) = 30 then 0 ≤ wi (x4 + 1) ∧ wi (x4 + 1) < (sd 1 : Int) ∧ P_X11_safe (scr sd (wi (x4 + 1))) σ (fun r_122 σ_121 => 0 ≤ wi (x4 + 1) ∧ wi (x4 + 1) < (sd 1 : Int) ∧ P_X12_safe (scr sd (wi (x4 + 1))) σ_121 (fun r_124 σ_123 => (if r_122 = r_124 then (P_L_law_L23 sd Q n) (wi (x4 + 7)) σ_123 else Q 0 σ_123))) else if (bA (scr sd x4) 63) = 31 then 0 ≤ wi (x4 + 1) ∧ wi (x4 + 1) < (sd 1 : Int) ∧ P_X11_wide (scr sd (wi (x4 + 1))) σ (fun r_126 σ_125 => 0 ≤ wi (x4 + 1) ∧ wi (x4 + 1) < (sd 1 : Int) ∧ P_X12_wide (scr sd (wi (x4 + 1))) σ_125 (fun r_128 σ_127 => (if r_126 = r_128 then (P_L_law_L23 sd Q n) (wi (x4 + 7)) σ_127 else Q 0 σ_127))) else if (bA (scr sd x4) 63) = 32 then 0 ≤ wi (x4 + 1) ∧ wi (x4 + 1) < (sd 1 : Int) ∧ 0 ≤ wi (x4 + 2) ∧ wi (x4 + 2) < (sd 1 : Int) ∧ P_X11_over (scr sd (wi (x4 + 1))) (scr sd (wi (x4 + 2))) σ (fun r_130 σ_129 => 0 ≤ wi (x4 + 1) ∧ wi (x4 + 1) < (sd 1 : Int) ∧ 0 ≤ wi (x4 + 2) ∧ wi (x4 + 2) < (sd 1 : Int) ∧ P_X12_over (scr sd (wi (x4 + 1))) (scr sd (wi (x4 + 2))) σ_129 (fun r_132 σ_131 => (if r_130 = r_132 then (P_L_law_L23 sd Q n) (wi (x4 + 7)) σ_131 else Q 0 σ_131))) else if (bA (scr sd x4) 63) = 33 then 0 ≤ wi (x4 + 1) ∧ wi (x4 + 1) < (sd 1 : Int) ∧ 0 ≤ wi (x4 + 2) ∧ wi (x4 + 2) < (sd 1 : Int) ∧ 0 ≤ wi (x4 + 3) ∧ wi (x4 + 3) < (sd 1 : Int) ∧ (if (scr sd (wi (x4 + 3))) = 0 then P_L_law_J1122 sd x4 0 (scr sd (wi (x4 + 2))) (scr sd (wi (x4 + 1))) (P_L_law_L23 sd Q n) Q σ else P_L_law_J1122 sd x4 1 (scr sd (wi (x4 + 2))) (scr sd (wi (x4 + 1))) (P_L_law_L23 sd Q n) Q σ) else if (bA (scr sd x4) 63) = 34 then P_X11_who σ (fun r_138 σ_137 => P_X12_who σ_137 (fun r_140 σ_139 => (if r_138 = r_140 then (P_L_law_L23 sd Q n) (wi (x4 + 7)) σ_139 else Q 0 σ_139))) else if (bA (scr sd x4) 63) = 35 then P_X11_ask σ (fun r_142 σ_141 => P_X12_ask σ_141 (fun r_144 σ_143 => (if r_142 = r_144 then (P_L_law_L23 sd Q n) (wi (x4 + 7)) σ_143 else Q 0 σ_143))) else if (bA (scr sd x4) 63) = 36 then 0 ≤ wi (x4 + 1) ∧ wi (x4 + 1) < (sd 1 : Int) ∧ 0 ≤ wi (x4 + 2) ∧ wi (x4 + 2) < (sd 1 : Int) ∧ 0 ≤ wi (x4 + 3) ∧ wi (x4 + 3) < (sd 1 : Int) ∧ P_X11_chance (scr sd (wi (x4 + 1))) (scr sd (wi (x4 + 2))) (scr sd (wi (x4 + 3))) σ (fun r_146 σ_145 => 0 ≤ wi (x4 + 1) ∧ wi (x4 + 1) < (sd 1 : Int) ∧ 0 ≤ wi (x4 + 2) ∧ wi (x4 + 2) < (sd 1 : Int) ∧ 0 ≤ wi (x4 + 3) ∧ wi (x4 + 3) < (sd 1 : Int) ∧ P_X12_chance (scr sd (wi (x4 + 1))) (scr sd (wi (x4 + 2))) (scr sd (wi (x4 + 3))) σ_145 (fun r_148 σ_147 => (if r_146 = r_148 then (P_L_law_L23 sd Q n) (wi (x4 + 7)) σ_147 else Q 0 σ_147))) else if (bA (scr sd x4) 63) = 37 then 0 ≤ wi (x4 + 1) ∧ wi (x4 + 1) < (sd 1 : Int) ∧ 0 ≤ wi (x4 + 2) ∧ wi (x4 + 2) < (sd 1 : Int) ∧ 0 ≤ wi (x4 + 3) ∧ wi (x4 + 3) < (sd 1 : Int) ∧ 0 ≤ wi (x4 + 4) ∧ wi (x4 + 4) < (sd 1 : Int) ∧ P_L_rests (scr sd (wi (x4 + 1))) (scr sd (wi (x4 + 2))) (scr sd (wi (x4 + 3))) (scr sd (wi (x4 + 4))) σ (fun r_150 σ_149 => 0 ≤ wi (x4 + 1) ∧ wi (x4 + 1) < (sd 1 : Int) ∧ 0 ≤ wi (x4 + 2) ∧ wi (x4 + 2) < (sd 1 : Int) ∧ 0 ≤ wi (x4 + 3) ∧ wi (x4 + 3) < (sd 1 : Int) ∧ 0 ≤ wi (x4 + 4) ∧ wi (x4 + 4) < (sd 1 : Int) ∧ P_X12_rests (scr sd (wi (x4 + 1))) (scr sd (wi (x4 + 2))) (scr sd (wi (x4 + 3))) (scr sd (wi (x4 + 4))) σ_149 (fun r_152 σ_151 => P_X12_thrown σ_151 (fun r_154 σ_153 => (if r_154 = r_150 then (if r_150 = 0 then (if (lC (σ_153 60 0 0) r_152) = 0 then P_L_law_J1324 sd x4 (P_L_law_L23 sd Q n) Q σ_153 else Q 0 σ_153) else P_L_law_J1324 sd x4 (P_L_law_L23 sd Q n) Q σ_153) else Q 0 σ_153)))) else if (bA (scr sd x4) 63) = 38 then 0 ≤ wi (x4 + 1) ∧ wi (x4 + 1) < (sd 1 : Int) ∧ 0 ≤ wi (x4 + 2) ∧ wi (x4 + 2) < (sd 1 : Int) ∧ 0 ≤ wi (x4 + 3) ∧ wi (x4 + 3) < (sd 1 : Int) ∧ P_X11_weeks (scr sd (wi (x4 + 1))) (scr sd (wi (x4 + 2))) (scr sd (wi (x4 + 3))) σ (fun r_156 σ_155 => 0 ≤ wi (x4 + 1) ∧ wi (x4 + 1) < (sd 1 : Int) ∧ 0 ≤ wi (x4 + 2) ∧ wi (x4 + 2) < (sd 1 : Int) ∧ 0 ≤ wi (x4 + 3) ∧ wi (x4 + 3) < (sd 1 : Int) ∧ P_X12_weeks (scr sd (wi (x4 + 1))) (scr sd (wi (x4 + 2))) (scr sd (wi (x4 + 3))) σ_155 (fun r_158 σ_157 => (if r_156 = r_158 then (P_L_law_L23 sd Q n) (wi (x4 + 7)) σ_157 else Q 0 σ_157))) else if (bA (scr sd x4) 63) = 39 then 0 ≤ wi (x4 + 1) ∧ wi (x4 + 1) < (sd 1 : Int) ∧ 0 ≤ wi (x4 + 2) ∧ wi (x4 + 2) < (sd 1 : Int) ∧ (if (scr sd (wi (x4 + 2))) = 0 then P_L_law_J1397 sd x4 0 (scr sd (wi (x4 + 1))) (P_L_law_L23 sd Q n) Q σ else P_L_law_J1397 sd x4 1 (scr sd (wi (x4 + 1))) (P_L_law_L23 sd Q n) Q σ) else if (bA (scr sd x4) 63) = 40 then 0 ≤ wi (x4 + 1) ∧ wi (x4 + 1) < (sd 1 : Int) ∧ P_X11_count (scr sd (wi (x4 + 1))) σ (fun r_164 σ_163 => 0 ≤ wi (x4 + 1) ∧ wi (x4 + 1) < (sd 1 : Int) ∧ P_X12_count (scr sd (wi (x4 + 1))) σ_163 (fun r_166 σ_165 => (if r_164 = r_166 then (P_L_law_L23 sd Q n) (wi (x4 + 7)) σ_165 else Q 0 σ_165))) else (P_L_law_L23 sd Q n) (wi (x4 + 7)) σ))
set_option maxRecDepth 20000 in
set_option maxHeartbeats 80000000 in
theorem e_P_L_law_L23 {sd : Nat → Nat} {mc ms : Nat} {Q : Int → St → Prop} (hsd : sd 1 ≤ 3584) : ∀ (n : Nat) (kq nq : Nat), kq + n ≤ mc → nq + 6 * n ≤ ms → ∀ (x4 : Int) (σ : St), P_L_law_L23 sd Q n x4 σ → EL sd Y_L_law 516 mc ms (QI Q) ww kq nq 23 [some (vR 52 0), some (vR 11 0), some (vR 12 0), some (vR 60 0), some (vI x4), none, none] [] σ := by
  intro n
  induction n with
  | zero => intro kq nq _ _ x4 σ h; exact h.elim
  | succ n hR0 =>
    intro kq nq hk0 hn0 x4 σ h
    obtain ⟨kr, hkr⟩ : ∃ z, z = kq + 1 := ⟨_, rfl⟩
    obtain ⟨nr, hnr⟩ : ∃ z, z = nq + 6 := ⟨_, rfl⟩
    have hR : ∀ x4 σ, P_L_law_L23 sd Q n x4 σ → EL sd Y_L_law 516 mc ms (QI Q) ww kr nr 23 [some (vR 52 0), some (vR 11 0), some (vR 12 0), some (vR 60 0), some (vI x4), none, none] [] σ := fun x4 σ h => hR0 kr nr (by omega) (by omega) x4 σ h
    have h1 : kq + 1 ≤ kr := by omega
    have h2 : nq + 6 ≤ nr := by omega
    have h3 : kr ≤ mc := by omega
    have h4 : nr ≤ ms := by omega
    clear hR0 hkr hnr hk0 hn0
    unfold P_L_law_L23 at h
    refine EL_iload dL_law_23 rfl ?_
    refine EL_aload_n dL_law_25 rfl rfl ?_
    refine EL_slen dL_law_26 hsd ?_
    refine EL_bp dL_law_27 rfl ?_
    refine EL_isub dL_law_29 ?_
    refine EL_icmp_gt (tgt := 1460) dL_law_30 (by decide) (fun hc => ?_) (fun hc => ?_)
    · have h := Eq.mp (if_pos hc) h
      refine EL_ic dL_law_1460 rfl ?_
      exact EL_widen (k' := mc) (n' := ms) (by omega) (by omega) (EL_zret dL_law_1461 rfl (by decide) ⟨_, rfl, rfl, h⟩)
    · have h := Eq.mp (if_neg hc) h
      refine EL_aload_n dL_law_33 rfl rfl ?_
      refine EL_iload dL_law_34 rfl ?_
      obtain ⟨hg0, hg1, h⟩ := h
      refine EL_sld dL_law_36 hg0 hg1 ?_
      refine EL_bp dL_law_37 rfl ?_
      refine EL_iand dL_law_39 ?_
      by_cases hc : (bA (scr sd x4) 63) = 0
      · have h := Eq.mp (if_pos hc) h
        refine EL_tableIn (off := 180) (tgt := 220) dL_law_40 (by omega) (by omega) (by rw [hc]; rfl) (by decide) ?_
        refine EL_aload_n dL_law_220 rfl rfl ?_
        refine EL_aload_n dL_law_221 rfl rfl ?_
        refine EL_iload dL_law_222 rfl ?_
        refine EL_ic dL_law_224 rfl ?_
        refine EL_iadd dL_law_225 ?_
        obtain ⟨hg0, hg1, h⟩ := h
        refine EL_sld dL_law_226 hg0 hg1 ?_
        refine EL_i2l dL_law_227 ?_
        refine EL_bp dL_law_228 rfl ?_
        refine EL_lshl dL_law_230 ?_
        refine EL_aload_n dL_law_231 rfl rfl ?_
        refine EL_iload dL_law_232 rfl ?_
        refine EL_ic dL_law_234 rfl ?_
        refine EL_iadd dL_law_235 ?_
        obtain ⟨hg0, hg1, h⟩ := h
        refine EL_sld dL_law_236 hg0 hg1 ?_
        refine EL_i2l dL_law_237 ?_
        refine EL_ldc2 (z := 4294967295) dL_law_238 kl_RL_19 (by decide) ?_
        refine EL_land dL_law_241 ?_
        refine EL_lor dL_law_242 ?_
        refine EL_aload_n dL_law_243 rfl rfl ?_
        refine EL_iload dL_law_244 rfl ?_
        refine EL_ic dL_law_246 rfl ?_
        refine EL_iadd dL_law_247 ?_
        obtain ⟨hg0, hg1, h⟩ := h
        refine EL_sld dL_law_248 hg0 hg1 ?_
        refine EL_i2l dL_law_249 ?_
        refine EL_bp dL_law_250 rfl ?_
        refine EL_lshl dL_law_252 ?_
        refine EL_aload_n dL_law_253 rfl rfl ?_
        refine EL_iload dL_law_254 rfl ?_
        refine EL_ic dL_law_256 rfl ?_
        refine EL_iadd dL_law_257 ?_
        obtain ⟨hg0, hg1, h⟩ := h
        refine EL_sld dL_law_258 hg0 hg1 ?_
        refine EL_i2l dL_law_259 ?_
        refine EL_ldc2 (z := 4294967295) dL_law_260 kl_RL_19 (by decide) ?_
        refine EL_land dL_law_263 ?_
        refine EL_lor dL_law_264 ?_
        refine EL_aload_n dL_law_265 rfl rfl ?_
        refine EL_iload dL_law_266 rfl ?_
        refine EL_ic dL_law_268 rfl ?_
        refine EL_iadd dL_law_269 ?_
        obtain ⟨hg0, hg1, h⟩ := h
        refine EL_sld dL_law_270 hg0 hg1 ?_
        refine EL_i2l dL_law_271 ?_
        refine EL_bp dL_law_272 rfl ?_
        refine EL_lshl dL_law_274 ?_
        refine EL_aload_n dL_law_275 rfl rfl ?_
        refine EL_iload dL_law_276 rfl ?_
        refine EL_bp dL_law_278 rfl ?_
        refine EL_iadd dL_law_280 ?_
        obtain ⟨hg0, hg1, h⟩ := h
        refine EL_sld dL_law_281 hg0 hg1 ?_
        refine EL_i2l dL_law_282 ?_
        refine EL_ldc2 (z := 4294967295) dL_law_283 kl_RL_19 (by decide) ?_
        refine EL_land dL_law_286 ?_
        refine EL_lor dL_law_287 ?_
        refine EL_callV (Y' := Y_X11_feed) (as := [vL (lO (lL (scr sd (wi (x4 + 1))) 32) (lA (scr sd (wi (x4 + 2))) 4294967295)), vL (lO (lL (scr sd (wi (x4 + 3))) 32) (lA (scr sd (wi (x4 + 4))) 4294967295)), vL (lO (lL (scr sd (wi (x4 + 5))) 32) (lA (scr sd (wi (x4 + 6))) 4294967295))]) (st := []) dL_law_288 lk_RL_21 m_X11_feed (by decide) (by omega) (by omega) rfl rfl (Nat.le_of_ble_eq_true rfl) (s_X11_feed h) (fun r0 B0 σ_1 h => ?_)
        obtain ⟨r_2, rfl, rfl, h⟩ := h
        refine EL_aload_n dL_law_291 rfl rfl ?_
        refine EL_aload_n dL_law_292 rfl rfl ?_
        refine EL_iload dL_law_293 rfl ?_
        refine EL_ic dL_law_295 rfl ?_
        refine EL_iadd dL_law_296 ?_
        obtain ⟨hg0, hg1, h⟩ := h
        refine EL_sld dL_law_297 hg0 hg1 ?_
        refine EL_i2l dL_law_298 ?_
        refine EL_bp dL_law_299 rfl ?_
        refine EL_lshl dL_law_301 ?_
        refine EL_aload_n dL_law_302 rfl rfl ?_
        refine EL_iload dL_law_303 rfl ?_
        refine EL_ic dL_law_305 rfl ?_
        refine EL_iadd dL_law_306 ?_
        obtain ⟨hg0, hg1, h⟩ := h
        refine EL_sld dL_law_307 hg0 hg1 ?_
        refine EL_i2l dL_law_308 ?_
        refine EL_ldc2 (z := 4294967295) dL_law_309 kl_RL_19 (by decide) ?_
        refine EL_land dL_law_312 ?_
        refine EL_lor dL_law_313 ?_
        refine EL_aload_n dL_law_314 rfl rfl ?_
        refine EL_iload dL_law_315 rfl ?_
        refine EL_ic dL_law_317 rfl ?_
        refine EL_iadd dL_law_318 ?_
        obtain ⟨hg0, hg1, h⟩ := h
        refine EL_sld dL_law_319 hg0 hg1 ?_
        refine EL_i2l dL_law_320 ?_
        refine EL_bp dL_law_321 rfl ?_
        refine EL_lshl dL_law_323 ?_
        refine EL_aload_n dL_law_324 rfl rfl ?_
        refine EL_iload dL_law_325 rfl ?_
        refine EL_ic dL_law_327 rfl ?_
        refine EL_iadd dL_law_328 ?_
        obtain ⟨hg0, hg1, h⟩ := h
        refine EL_sld dL_law_329 hg0 hg1 ?_
        refine EL_i2l dL_law_330 ?_
        refine EL_ldc2 (z := 4294967295) dL_law_331 kl_RL_19 (by decide) ?_
        refine EL_land dL_law_334 ?_
        refine EL_lor dL_law_335 ?_
        refine EL_aload_n dL_law_336 rfl rfl ?_
        refine EL_iload dL_law_337 rfl ?_
        refine EL_ic dL_law_339 rfl ?_
        refine EL_iadd dL_law_340 ?_
        obtain ⟨hg0, hg1, h⟩ := h
        refine EL_sld dL_law_341 hg0 hg1 ?_
        refine EL_i2l dL_law_342 ?_
        refine EL_bp dL_law_343 rfl ?_
        refine EL_lshl dL_law_345 ?_
        refine EL_aload_n dL_law_346 rfl rfl ?_
        refine EL_iload dL_law_347 rfl ?_
        refine EL_bp dL_law_349 rfl ?_
        refine EL_iadd dL_law_351 ?_
        obtain ⟨hg0, hg1, h⟩ := h
        refine EL_sld dL_law_352 hg0 hg1 ?_
        refine EL_i2l dL_law_353 ?_
        refine EL_ldc2 (z := 4294967295) dL_law_354 kl_RL_19 (by decide) ?_
        refine EL_land dL_law_357 ?_
        refine EL_lor dL_law_358 ?_
        refine EL_callV (Y' := Y_X12_feed) (as := [vL (lO (lL (scr sd (wi (x4 + 1))) 32) (lA (scr sd (wi (x4 + 2))) 4294967295)), vL (lO (lL (scr sd (wi (x4 + 3))) 32) (lA (scr sd (wi (x4 + 4))) 4294967295)), vL (lO (lL (scr sd (wi (x4 + 5))) 32) (lA (scr sd (wi (x4 + 6))) 4294967295))]) (st := [vI r_2]) dL_law_359 lk_RL_25 m_X12_feed (by decide) (by omega) (by omega) rfl rfl (Nat.le_of_ble_eq_true rfl) (s_X12_feed h) (fun r0 B0 σ_3 h => ?_)
        obtain ⟨r_4, rfl, rfl, h⟩ := h
        refine EL_icmp_eq (tgt := 1454) dL_law_362 (by decide) (fun hc => ?_) (fun hc => ?_)
        · have h := Eq.mp (if_pos hc) h
          refine EL_iinc (ls' := [some (vR 52 0), some (vR 11 0), some (vR 12 0), some (vR 60 0), some (vI (wi (x4 + 7))), none, none]) dL_law_1454 rfl (by decide) rfl rfl ?_
          refine EL_goto (tgt := 23) dL_law_1457 (by decide) ?_
          exact EL_widen (by omega) (by omega) (hR _ _ h)
        · have h := Eq.mp (if_neg hc) h
          refine EL_ic dL_law_365 rfl ?_
          exact EL_widen (k' := mc) (n' := ms) (by omega) (by omega) (EL_zret dL_law_366 rfl (by decide) ⟨_, rfl, rfl, h⟩)
      have h := Eq.mp (if_neg hc) h
      have hc0 := hc
      clear hc
      by_cases hc : (bA (scr sd x4) 63) = 1
      · have h := Eq.mp (if_pos hc) h
        refine EL_tableIn (off := 327) (tgt := 367) dL_law_40 (by omega) (by omega) (by rw [hc]; rfl) (by decide) ?_
        refine EL_aload_n dL_law_367 rfl rfl ?_
        refine EL_callV (Y' := Y_X11_shop) (as := []) (st := []) dL_law_368 lk_RL_26 m_X11_shop (by decide) (by omega) (by omega) rfl rfl (Nat.le_of_ble_eq_true rfl) (s_X11_shop h) (fun r0 B0 σ_5 h => ?_)
        obtain ⟨r_6, rfl, rfl, h⟩ := h
        refine EL_aload_n dL_law_371 rfl rfl ?_
        refine EL_callV (Y' := Y_X12_shop) (as := []) (st := [vI r_6]) dL_law_372 lk_RL_30 m_X12_shop (by decide) (by omega) (by omega) rfl rfl (Nat.le_of_ble_eq_true rfl) (s_X12_shop h) (fun r0 B0 σ_7 h => ?_)
        obtain ⟨r_8, rfl, rfl, h⟩ := h
        refine EL_icmp_eq (tgt := 1454) dL_law_375 (by decide) (fun hc => ?_) (fun hc => ?_)
        · have h := Eq.mp (if_pos hc) h
          refine EL_iinc (ls' := [some (vR 52 0), some (vR 11 0), some (vR 12 0), some (vR 60 0), some (vI (wi (x4 + 7))), none, none]) dL_law_1454 rfl (by decide) rfl rfl ?_
          refine EL_goto (tgt := 23) dL_law_1457 (by decide) ?_
          exact EL_widen (by omega) (by omega) (hR _ _ h)
        · have h := Eq.mp (if_neg hc) h
          refine EL_ic dL_law_378 rfl ?_
          exact EL_widen (k' := mc) (n' := ms) (by omega) (by omega) (EL_zret dL_law_379 rfl (by decide) ⟨_, rfl, rfl, h⟩)
      have h := Eq.mp (if_neg hc) h
      have hc1 := hc
      clear hc
      by_cases hc : (bA (scr sd x4) 63) = 2
      · have h := Eq.mp (if_pos hc) h
        refine EL_tableIn (off := 340) (tgt := 380) dL_law_40 (by omega) (by omega) (by rw [hc]; rfl) (by decide) ?_
        refine EL_aload_n dL_law_380 rfl rfl ?_
        refine EL_callV (Y' := Y_X11_run) (as := []) (st := []) dL_law_381 lk_RL_31 m_X11_run (by decide) (by omega) (by omega) rfl rfl (Nat.le_of_ble_eq_true rfl) (s_X11_run h) (fun r0 B0 σ_9 h => ?_)
        obtain ⟨r_10, rfl, rfl, h⟩ := h
        refine EL_aload_n dL_law_384 rfl rfl ?_
        refine EL_callV (Y' := Y_X12_run) (as := []) (st := [vI r_10]) dL_law_385 lk_RL_34 m_X12_run (by decide) (by omega) (by omega) rfl rfl (Nat.le_of_ble_eq_true rfl) (s_X12_run h) (fun r0 B0 σ_11 h => ?_)
        obtain ⟨r_12, rfl, rfl, h⟩ := h
        refine EL_icmp_eq (tgt := 1454) dL_law_388 (by decide) (fun hc => ?_) (fun hc => ?_)
        · have h := Eq.mp (if_pos hc) h
          refine EL_iinc (ls' := [some (vR 52 0), some (vR 11 0), some (vR 12 0), some (vR 60 0), some (vI (wi (x4 + 7))), none, none]) dL_law_1454 rfl (by decide) rfl rfl ?_
          refine EL_goto (tgt := 23) dL_law_1457 (by decide) ?_
          exact EL_widen (by omega) (by omega) (hR _ _ h)
        · have h := Eq.mp (if_neg hc) h
          refine EL_ic dL_law_391 rfl ?_
          exact EL_widen (k' := mc) (n' := ms) (by omega) (by omega) (EL_zret dL_law_392 rfl (by decide) ⟨_, rfl, rfl, h⟩)
      have h := Eq.mp (if_neg hc) h
      have hc2 := hc
      clear hc
      by_cases hc : (bA (scr sd x4) 63) = 3
      · have h := Eq.mp (if_pos hc) h
        refine EL_tableIn (off := 353) (tgt := 393) dL_law_40 (by omega) (by omega) (by rw [hc]; rfl) (by decide) ?_
        refine EL_aload_n dL_law_393 rfl rfl ?_
        refine EL_aload_n dL_law_394 rfl rfl ?_
        refine EL_iload dL_law_395 rfl ?_
        refine EL_ic dL_law_397 rfl ?_
        refine EL_iadd dL_law_398 ?_
        obtain ⟨hg0, hg1, h⟩ := h
        refine EL_sld dL_law_399 hg0 hg1 ?_
        refine EL_aload_n dL_law_400 rfl rfl ?_
        refine EL_iload dL_law_401 rfl ?_
        refine EL_ic dL_law_403 rfl ?_
        refine EL_iadd dL_law_404 ?_
        obtain ⟨hg0, hg1, h⟩ := h
        refine EL_sld dL_law_405 hg0 hg1 ?_
        refine EL_callV (Y' := Y_X11_counter) (as := [vI (scr sd (wi (x4 + 1))), vI (scr sd (wi (x4 + 2)))]) (st := []) dL_law_406 lk_RL_35 m_X11_counter (by decide) (by omega) (by omega) rfl rfl (Nat.le_of_ble_eq_true rfl) (s_X11_counter h) (fun r0 B0 σ_13 h => ?_)
        obtain ⟨r_14, rfl, rfl, h⟩ := h
        refine EL_aload_n dL_law_409 rfl rfl ?_
        refine EL_aload_n dL_law_410 rfl rfl ?_
        refine EL_iload dL_law_411 rfl ?_
        refine EL_ic dL_law_413 rfl ?_
        refine EL_iadd dL_law_414 ?_
        obtain ⟨hg0, hg1, h⟩ := h
        refine EL_sld dL_law_415 hg0 hg1 ?_
        refine EL_aload_n dL_law_416 rfl rfl ?_
        refine EL_iload dL_law_417 rfl ?_
        refine EL_ic dL_law_419 rfl ?_
        refine EL_iadd dL_law_420 ?_
        obtain ⟨hg0, hg1, h⟩ := h
        refine EL_sld dL_law_421 hg0 hg1 ?_
        refine EL_callV (Y' := Y_X12_counter) (as := [vI (scr sd (wi (x4 + 1))), vI (scr sd (wi (x4 + 2)))]) (st := [vI r_14]) dL_law_422 lk_RL_39 m_X12_counter (by decide) (by omega) (by omega) rfl rfl (Nat.le_of_ble_eq_true rfl) (s_X12_counter h) (fun r0 B0 σ_15 h => ?_)
        obtain ⟨r_16, rfl, rfl, h⟩ := h
        refine EL_icmp_eq (tgt := 1454) dL_law_425 (by decide) (fun hc => ?_) (fun hc => ?_)
        · have h := Eq.mp (if_pos hc) h
          refine EL_iinc (ls' := [some (vR 52 0), some (vR 11 0), some (vR 12 0), some (vR 60 0), some (vI (wi (x4 + 7))), none, none]) dL_law_1454 rfl (by decide) rfl rfl ?_
          refine EL_goto (tgt := 23) dL_law_1457 (by decide) ?_
          exact EL_widen (by omega) (by omega) (hR _ _ h)
        · have h := Eq.mp (if_neg hc) h
          refine EL_ic dL_law_428 rfl ?_
          exact EL_widen (k' := mc) (n' := ms) (by omega) (by omega) (EL_zret dL_law_429 rfl (by decide) ⟨_, rfl, rfl, h⟩)
      have h := Eq.mp (if_neg hc) h
      have hc3 := hc
      clear hc
      by_cases hc : (bA (scr sd x4) 63) = 4
      · have h := Eq.mp (if_pos hc) h
        refine EL_tableIn (off := 390) (tgt := 430) dL_law_40 (by omega) (by omega) (by rw [hc]; rfl) (by decide) ?_
        refine EL_aload_n dL_law_430 rfl rfl ?_
        refine EL_aload_n dL_law_431 rfl rfl ?_
        refine EL_iload dL_law_432 rfl ?_
        refine EL_ic dL_law_434 rfl ?_
        refine EL_iadd dL_law_435 ?_
        obtain ⟨hg0, hg1, h⟩ := h
        refine EL_sld dL_law_436 hg0 hg1 ?_
        refine EL_aload_n dL_law_437 rfl rfl ?_
        refine EL_iload dL_law_438 rfl ?_
        refine EL_ic dL_law_440 rfl ?_
        refine EL_iadd dL_law_441 ?_
        obtain ⟨hg0, hg1, h⟩ := h
        refine EL_sld dL_law_442 hg0 hg1 ?_
        refine EL_callV (Y' := Y_X11_ball) (as := [vI (scr sd (wi (x4 + 1))), vI (scr sd (wi (x4 + 2)))]) (st := []) dL_law_443 lk_RL_40 m_X11_ball (by decide) (by omega) (by omega) rfl rfl (Nat.le_of_ble_eq_true rfl) (s_X11_ball h) (fun r0 B0 σ_17 h => ?_)
        obtain ⟨r_18, rfl, rfl, h⟩ := h
        refine EL_aload_n dL_law_446 rfl rfl ?_
        refine EL_aload_n dL_law_447 rfl rfl ?_
        refine EL_iload dL_law_448 rfl ?_
        refine EL_ic dL_law_450 rfl ?_
        refine EL_iadd dL_law_451 ?_
        obtain ⟨hg0, hg1, h⟩ := h
        refine EL_sld dL_law_452 hg0 hg1 ?_
        refine EL_aload_n dL_law_453 rfl rfl ?_
        refine EL_iload dL_law_454 rfl ?_
        refine EL_ic dL_law_456 rfl ?_
        refine EL_iadd dL_law_457 ?_
        obtain ⟨hg0, hg1, h⟩ := h
        refine EL_sld dL_law_458 hg0 hg1 ?_
        refine EL_callV (Y' := Y_X12_ball) (as := [vI (scr sd (wi (x4 + 1))), vI (scr sd (wi (x4 + 2)))]) (st := [vI r_18]) dL_law_459 lk_RL_43 m_X12_ball (by decide) (by omega) (by omega) rfl rfl (Nat.le_of_ble_eq_true rfl) (s_X12_ball h) (fun r0 B0 σ_19 h => ?_)
        obtain ⟨r_20, rfl, rfl, h⟩ := h
        refine EL_icmp_eq (tgt := 1454) dL_law_462 (by decide) (fun hc => ?_) (fun hc => ?_)
        · have h := Eq.mp (if_pos hc) h
          refine EL_iinc (ls' := [some (vR 52 0), some (vR 11 0), some (vR 12 0), some (vR 60 0), some (vI (wi (x4 + 7))), none, none]) dL_law_1454 rfl (by decide) rfl rfl ?_
          refine EL_goto (tgt := 23) dL_law_1457 (by decide) ?_
          exact EL_widen (by omega) (by omega) (hR _ _ h)
        · have h := Eq.mp (if_neg hc) h
          refine EL_ic dL_law_465 rfl ?_
          exact EL_widen (k' := mc) (n' := ms) (by omega) (by omega) (EL_zret dL_law_466 rfl (by decide) ⟨_, rfl, rfl, h⟩)
      have h := Eq.mp (if_neg hc) h
      have hc4 := hc
      clear hc
      by_cases hc : (bA (scr sd x4) 63) = 5
      · have h := Eq.mp (if_pos hc) h
        refine EL_tableIn (off := 427) (tgt := 467) dL_law_40 (by omega) (by omega) (by rw [hc]; rfl) (by decide) ?_
        refine EL_aload_n dL_law_467 rfl rfl ?_
        refine EL_aload_n dL_law_468 rfl rfl ?_
        refine EL_iload dL_law_469 rfl ?_
        refine EL_ic dL_law_471 rfl ?_
        refine EL_iadd dL_law_472 ?_
        obtain ⟨hg0, hg1, h⟩ := h
        refine EL_sld dL_law_473 hg0 hg1 ?_
        refine EL_callV (Y' := Y_X11_send) (as := [vI (scr sd (wi (x4 + 1)))]) (st := []) dL_law_474 lk_RL_44 m_X11_send (by decide) (by omega) (by omega) rfl rfl (Nat.le_of_ble_eq_true rfl) (s_X11_send h) (fun r0 B0 σ_21 h => ?_)
        obtain ⟨r_22, rfl, rfl, h⟩ := h
        refine EL_aload_n dL_law_477 rfl rfl ?_
        refine EL_aload_n dL_law_478 rfl rfl ?_
        refine EL_iload dL_law_479 rfl ?_
        refine EL_ic dL_law_481 rfl ?_
        refine EL_iadd dL_law_482 ?_
        obtain ⟨hg0, hg1, h⟩ := h
        refine EL_sld dL_law_483 hg0 hg1 ?_
        refine EL_callV (Y' := Y_X12_send) (as := [vI (scr sd (wi (x4 + 1)))]) (st := [vI r_22]) dL_law_484 lk_RL_48 m_X12_send (by decide) (by omega) (by omega) rfl rfl (Nat.le_of_ble_eq_true rfl) (s_X12_send h) (fun r0 B0 σ_23 h => ?_)
        obtain ⟨r_24, rfl, rfl, h⟩ := h
        refine EL_icmp_eq (tgt := 1454) dL_law_487 (by decide) (fun hc => ?_) (fun hc => ?_)
        · have h := Eq.mp (if_pos hc) h
          refine EL_iinc (ls' := [some (vR 52 0), some (vR 11 0), some (vR 12 0), some (vR 60 0), some (vI (wi (x4 + 7))), none, none]) dL_law_1454 rfl (by decide) rfl rfl ?_
          refine EL_goto (tgt := 23) dL_law_1457 (by decide) ?_
          exact EL_widen (by omega) (by omega) (hR _ _ h)
        · have h := Eq.mp (if_neg hc) h
          refine EL_ic dL_law_490 rfl ?_
          exact EL_widen (k' := mc) (n' := ms) (by omega) (by omega) (EL_zret dL_law_491 rfl (by decide) ⟨_, rfl, rfl, h⟩)
      have h := Eq.mp (if_neg hc) h
      have hc5 := hc
      clear hc
      by_cases hc : (bA (scr sd x4) 63) = 6
      · have h := Eq.mp (if_pos hc) h
        refine EL_tableIn (off := 452) (tgt := 492) dL_law_40 (by omega) (by omega) (by rw [hc]; rfl) (by decide) ?_
        refine EL_aload_n dL_law_492 rfl rfl ?_
        refine EL_callV (Y' := Y_X11_beat) (as := []) (st := []) dL_law_493 lk_RL_49 m_X11_beat (by decide) (by omega) (by omega) rfl rfl (Nat.le_of_ble_eq_true rfl) (s_X11_beat h) (fun r0 B0 σ_25 h => ?_)
        obtain ⟨r_26, rfl, rfl, h⟩ := h
        refine EL_aload_n dL_law_496 rfl rfl ?_
        refine EL_callV (Y' := Y_X12_beat) (as := []) (st := [vI r_26]) dL_law_497 lk_RL_52 m_X12_beat (by decide) (by omega) (by omega) rfl rfl (Nat.le_of_ble_eq_true rfl) (s_X12_beat h) (fun r0 B0 σ_27 h => ?_)
        obtain ⟨r_28, rfl, rfl, h⟩ := h
        refine EL_icmp_eq (tgt := 1454) dL_law_500 (by decide) (fun hc => ?_) (fun hc => ?_)
        · have h := Eq.mp (if_pos hc) h
          refine EL_iinc (ls' := [some (vR 52 0), some (vR 11 0), some (vR 12 0), some (vR 60 0), some (vI (wi (x4 + 7))), none, none]) dL_law_1454 rfl (by decide) rfl rfl ?_
          refine EL_goto (tgt := 23) dL_law_1457 (by decide) ?_
          exact EL_widen (by omega) (by omega) (hR _ _ h)
        · have h := Eq.mp (if_neg hc) h
          refine EL_ic dL_law_503 rfl ?_
          exact EL_widen (k' := mc) (n' := ms) (by omega) (by omega) (EL_zret dL_law_504 rfl (by decide) ⟨_, rfl, rfl, h⟩)
      have h := Eq.mp (if_neg hc) h
      have hc6 := hc
      clear hc
      by_cases hc : (bA (scr sd x4) 63) = 7
      · have h := Eq.mp (if_pos hc) h
        refine EL_tableIn (off := 465) (tgt := 505) dL_law_40 (by omega) (by omega) (by rw [hc]; rfl) (by decide) ?_
        refine EL_aload_n dL_law_505 rfl rfl ?_
        refine EL_aload_n dL_law_506 rfl rfl ?_
        refine EL_iload dL_law_507 rfl ?_
        refine EL_ic dL_law_509 rfl ?_
        refine EL_iadd dL_law_510 ?_
        obtain ⟨hg0, hg1, h⟩ := h
        refine EL_sld dL_law_511 hg0 hg1 ?_
        refine EL_aload_n dL_law_512 rfl rfl ?_
        refine EL_iload dL_law_513 rfl ?_
        refine EL_ic dL_law_515 rfl ?_
        refine EL_iadd dL_law_516 ?_
        obtain ⟨hg0, hg1, h⟩ := h
        refine EL_sld dL_law_517 hg0 hg1 ?_
        refine EL_callV (Y' := Y_X11_set) (as := [vI (scr sd (wi (x4 + 1))), vI (scr sd (wi (x4 + 2)))]) (st := []) dL_law_518 lk_RL_53 m_X11_set (by decide) (by omega) (by omega) rfl rfl (Nat.le_of_ble_eq_true rfl) (s_X11_set h) (fun r0 B0 σ_29 h => ?_)
        obtain ⟨r_30, rfl, rfl, h⟩ := h
        refine EL_aload_n dL_law_521 rfl rfl ?_
        refine EL_aload_n dL_law_522 rfl rfl ?_
        refine EL_iload dL_law_523 rfl ?_
        refine EL_ic dL_law_525 rfl ?_
        refine EL_iadd dL_law_526 ?_
        obtain ⟨hg0, hg1, h⟩ := h
        refine EL_sld dL_law_527 hg0 hg1 ?_
        refine EL_aload_n dL_law_528 rfl rfl ?_
        refine EL_iload dL_law_529 rfl ?_
        refine EL_ic dL_law_531 rfl ?_
        refine EL_iadd dL_law_532 ?_
        obtain ⟨hg0, hg1, h⟩ := h
        refine EL_sld dL_law_533 hg0 hg1 ?_
        refine EL_callV (Y' := Y_X12_set) (as := [vI (scr sd (wi (x4 + 1))), vI (scr sd (wi (x4 + 2)))]) (st := [vI r_30]) dL_law_534 lk_RL_56 m_X12_set (by decide) (by omega) (by omega) rfl rfl (Nat.le_of_ble_eq_true rfl) (s_X12_set h) (fun r0 B0 σ_31 h => ?_)
        obtain ⟨r_32, rfl, rfl, h⟩ := h
        refine EL_icmp_eq (tgt := 1454) dL_law_537 (by decide) (fun hc => ?_) (fun hc => ?_)
        · have h := Eq.mp (if_pos hc) h
          refine EL_iinc (ls' := [some (vR 52 0), some (vR 11 0), some (vR 12 0), some (vR 60 0), some (vI (wi (x4 + 7))), none, none]) dL_law_1454 rfl (by decide) rfl rfl ?_
          refine EL_goto (tgt := 23) dL_law_1457 (by decide) ?_
          exact EL_widen (by omega) (by omega) (hR _ _ h)
        · have h := Eq.mp (if_neg hc) h
          refine EL_ic dL_law_540 rfl ?_
          exact EL_widen (k' := mc) (n' := ms) (by omega) (by omega) (EL_zret dL_law_541 rfl (by decide) ⟨_, rfl, rfl, h⟩)
      have h := Eq.mp (if_neg hc) h
      have hc7 := hc
      clear hc
      by_cases hc : (bA (scr sd x4) 63) = 8
      · have h := Eq.mp (if_pos hc) h
        refine EL_tableIn (off := 502) (tgt := 542) dL_law_40 (by omega) (by omega) (by rw [hc]; rfl) (by decide) ?_
        refine EL_aload_n dL_law_542 rfl rfl ?_
        refine EL_aload_n dL_law_543 rfl rfl ?_
        refine EL_iload dL_law_544 rfl ?_
        refine EL_ic dL_law_546 rfl ?_
        refine EL_iadd dL_law_547 ?_
        obtain ⟨hg0, hg1, h⟩ := h
        refine EL_sld dL_law_548 hg0 hg1 ?_
        refine EL_aload_n dL_law_549 rfl rfl ?_
        refine EL_iload dL_law_550 rfl ?_
        refine EL_ic dL_law_552 rfl ?_
        refine EL_iadd dL_law_553 ?_
        obtain ⟨hg0, hg1, h⟩ := h
        refine EL_sld dL_law_554 hg0 hg1 ?_
        refine EL_callV (Y' := Y_X11_carry) (as := [vI (scr sd (wi (x4 + 1))), vI (scr sd (wi (x4 + 2)))]) (st := []) dL_law_555 lk_RL_57 m_X11_carry (by decide) (by omega) (by omega) rfl rfl (Nat.le_of_ble_eq_true rfl) (s_X11_carry h) (fun r0 B0 σ_33 h => ?_)
        obtain ⟨r_34, rfl, rfl, h⟩ := h
        refine EL_aload_n dL_law_558 rfl rfl ?_
        refine EL_aload_n dL_law_559 rfl rfl ?_
        refine EL_iload dL_law_560 rfl ?_
        refine EL_ic dL_law_562 rfl ?_
        refine EL_iadd dL_law_563 ?_
        obtain ⟨hg0, hg1, h⟩ := h
        refine EL_sld dL_law_564 hg0 hg1 ?_
        refine EL_aload_n dL_law_565 rfl rfl ?_
        refine EL_iload dL_law_566 rfl ?_
        refine EL_ic dL_law_568 rfl ?_
        refine EL_iadd dL_law_569 ?_
        obtain ⟨hg0, hg1, h⟩ := h
        refine EL_sld dL_law_570 hg0 hg1 ?_
        refine EL_callV (Y' := Y_X12_carry) (as := [vI (scr sd (wi (x4 + 1))), vI (scr sd (wi (x4 + 2)))]) (st := [vI r_34]) dL_law_571 lk_RL_60 m_X12_carry (by decide) (by omega) (by omega) rfl rfl (Nat.le_of_ble_eq_true rfl) (s_X12_carry h) (fun r0 B0 σ_35 h => ?_)
        obtain ⟨r_36, rfl, rfl, h⟩ := h
        refine EL_icmp_eq (tgt := 1454) dL_law_574 (by decide) (fun hc => ?_) (fun hc => ?_)
        · have h := Eq.mp (if_pos hc) h
          refine EL_iinc (ls' := [some (vR 52 0), some (vR 11 0), some (vR 12 0), some (vR 60 0), some (vI (wi (x4 + 7))), none, none]) dL_law_1454 rfl (by decide) rfl rfl ?_
          refine EL_goto (tgt := 23) dL_law_1457 (by decide) ?_
          exact EL_widen (by omega) (by omega) (hR _ _ h)
        · have h := Eq.mp (if_neg hc) h
          refine EL_ic dL_law_577 rfl ?_
          exact EL_widen (k' := mc) (n' := ms) (by omega) (by omega) (EL_zret dL_law_578 rfl (by decide) ⟨_, rfl, rfl, h⟩)
      have h := Eq.mp (if_neg hc) h
      have hc8 := hc
      clear hc
      by_cases hc : (bA (scr sd x4) 63) = 9
      · have h := Eq.mp (if_pos hc) h
        refine EL_tableIn (off := 539) (tgt := 579) dL_law_40 (by omega) (by omega) (by rw [hc]; rfl) (by decide) ?_
        refine EL_aload_n dL_law_579 rfl rfl ?_
        refine EL_callV (Y' := Y_X11_day) (as := []) (st := []) dL_law_580 lk_RL_61 m_X11_day (by decide) (by omega) (by omega) rfl rfl (Nat.le_of_ble_eq_true rfl) (s_X11_day h) (fun r0 B0 σ_37 h => ?_)
        obtain ⟨r_38, rfl, rfl, h⟩ := h
        refine EL_aload_n dL_law_583 rfl rfl ?_
        refine EL_callV (Y' := Y_X12_day) (as := []) (st := [vI r_38]) dL_law_584 lk_RL_64 m_X12_day (by decide) (by omega) (by omega) rfl rfl (Nat.le_of_ble_eq_true rfl) (s_X12_day h) (fun r0 B0 σ_39 h => ?_)
        obtain ⟨r_40, rfl, rfl, h⟩ := h
        refine EL_icmp_eq (tgt := 1454) dL_law_587 (by decide) (fun hc => ?_) (fun hc => ?_)
        · have h := Eq.mp (if_pos hc) h
          refine EL_iinc (ls' := [some (vR 52 0), some (vR 11 0), some (vR 12 0), some (vR 60 0), some (vI (wi (x4 + 7))), none, none]) dL_law_1454 rfl (by decide) rfl rfl ?_
          refine EL_goto (tgt := 23) dL_law_1457 (by decide) ?_
          exact EL_widen (by omega) (by omega) (hR _ _ h)
        · have h := Eq.mp (if_neg hc) h
          refine EL_ic dL_law_590 rfl ?_
          exact EL_widen (k' := mc) (n' := ms) (by omega) (by omega) (EL_zret dL_law_591 rfl (by decide) ⟨_, rfl, rfl, h⟩)
      have h := Eq.mp (if_neg hc) h
      have hc9 := hc
      clear hc
      by_cases hc : (bA (scr sd x4) 63) = 10
      · have h := Eq.mp (if_pos hc) h
        refine EL_tableIn (off := 552) (tgt := 592) dL_law_40 (by omega) (by omega) (by rw [hc]; rfl) (by decide) ?_
        refine EL_aload_n dL_law_592 rfl rfl ?_
        refine EL_callV (Y' := Y_X11_undo) (as := []) (st := []) dL_law_593 lk_RL_65 m_X11_undo (by decide) (by omega) (by omega) rfl rfl (Nat.le_of_ble_eq_true rfl) (s_X11_undo h) (fun r0 B0 σ_41 h => ?_)
        obtain ⟨r_42, rfl, rfl, h⟩ := h
        refine EL_aload_n dL_law_596 rfl rfl ?_
        refine EL_callV (Y' := Y_X12_undo) (as := []) (st := [vI r_42]) dL_law_597 lk_RL_69 m_X12_undo (by decide) (by omega) (by omega) rfl rfl (Nat.le_of_ble_eq_true rfl) (s_X12_undo h) (fun r0 B0 σ_43 h => ?_)
        obtain ⟨r_44, rfl, rfl, h⟩ := h
        refine EL_icmp_eq (tgt := 1454) dL_law_600 (by decide) (fun hc => ?_) (fun hc => ?_)
        · have h := Eq.mp (if_pos hc) h
          refine EL_iinc (ls' := [some (vR 52 0), some (vR 11 0), some (vR 12 0), some (vR 60 0), some (vI (wi (x4 + 7))), none, none]) dL_law_1454 rfl (by decide) rfl rfl ?_
          refine EL_goto (tgt := 23) dL_law_1457 (by decide) ?_
          exact EL_widen (by omega) (by omega) (hR _ _ h)
        · have h := Eq.mp (if_neg hc) h
          refine EL_ic dL_law_603 rfl ?_
          exact EL_widen (k' := mc) (n' := ms) (by omega) (by omega) (EL_zret dL_law_604 rfl (by decide) ⟨_, rfl, rfl, h⟩)
      have h := Eq.mp (if_neg hc) h
      have hc10 := hc
      clear hc
      by_cases hc : (bA (scr sd x4) 63) = 11
      · have h := Eq.mp (if_pos hc) h
        refine EL_tableIn (off := 565) (tgt := 605) dL_law_40 (by omega) (by omega) (by rw [hc]; rfl) (by decide) ?_
        refine EL_aload_n dL_law_605 rfl rfl ?_
        refine EL_aload_n dL_law_606 rfl rfl ?_
        refine EL_iload dL_law_607 rfl ?_
        refine EL_ic dL_law_609 rfl ?_
        refine EL_iadd dL_law_610 ?_
        obtain ⟨hg0, hg1, h⟩ := h
        refine EL_sld dL_law_611 hg0 hg1 ?_
        refine EL_callV (Y' := Y_X11_judged) (as := [vI (scr sd (wi (x4 + 1)))]) (st := []) dL_law_612 lk_RL_70 m_X11_judged (by decide) (by omega) (by omega) rfl rfl (Nat.le_of_ble_eq_true rfl) (s_X11_judged h) (fun r0 B0 σ_45 h => ?_)
        obtain ⟨r_46, rfl, rfl, h⟩ := h
        refine EL_aload_n dL_law_615 rfl rfl ?_
        refine EL_aload_n dL_law_616 rfl rfl ?_
        refine EL_iload dL_law_617 rfl ?_
        refine EL_ic dL_law_619 rfl ?_
        refine EL_iadd dL_law_620 ?_
        obtain ⟨hg0, hg1, h⟩ := h
        refine EL_sld dL_law_621 hg0 hg1 ?_
        refine EL_callV (Y' := Y_X12_judged) (as := [vI (scr sd (wi (x4 + 1)))]) (st := [vI r_46]) dL_law_622 lk_RL_73 m_X12_judged (by decide) (by omega) (by omega) rfl rfl (Nat.le_of_ble_eq_true rfl) (s_X12_judged h) (fun r0 B0 σ_47 h => ?_)
        obtain ⟨r_48, rfl, rfl, h⟩ := h
        refine EL_icmp_eq (tgt := 1454) dL_law_625 (by decide) (fun hc => ?_) (fun hc => ?_)
        · have h := Eq.mp (if_pos hc) h
          refine EL_iinc (ls' := [some (vR 52 0), some (vR 11 0), some (vR 12 0), some (vR 60 0), some (vI (wi (x4 + 7))), none, none]) dL_law_1454 rfl (by decide) rfl rfl ?_
          refine EL_goto (tgt := 23) dL_law_1457 (by decide) ?_
          exact EL_widen (by omega) (by omega) (hR _ _ h)
        · have h := Eq.mp (if_neg hc) h
          refine EL_ic dL_law_628 rfl ?_
          exact EL_widen (k' := mc) (n' := ms) (by omega) (by omega) (EL_zret dL_law_629 rfl (by decide) ⟨_, rfl, rfl, h⟩)
      have h := Eq.mp (if_neg hc) h
      have hc11 := hc
      clear hc
      by_cases hc : (bA (scr sd x4) 63) = 12
      · have h := Eq.mp (if_pos hc) h
        refine EL_tableIn (off := 590) (tgt := 630) dL_law_40 (by omega) (by omega) (by rw [hc]; rfl) (by decide) ?_
        refine EL_aload_n dL_law_630 rfl rfl ?_
        refine EL_aload_n dL_law_631 rfl rfl ?_
        refine EL_iload dL_law_632 rfl ?_
        refine EL_ic dL_law_634 rfl ?_
        refine EL_iadd dL_law_635 ?_
        obtain ⟨hg0, hg1, h⟩ := h
        refine EL_sld dL_law_636 hg0 hg1 ?_
        refine EL_callV (Y' := Y_X11_falls) (as := [vI (scr sd (wi (x4 + 1)))]) (st := []) dL_law_637 lk_RL_74 m_X11_falls (by decide) (by omega) (by omega) rfl rfl (Nat.le_of_ble_eq_true rfl) (s_X11_falls h) (fun r0 B0 σ_49 h => ?_)
        obtain ⟨r_50, rfl, rfl, h⟩ := h
        refine EL_aload_n dL_law_640 rfl rfl ?_
        refine EL_aload_n dL_law_641 rfl rfl ?_
        refine EL_iload dL_law_642 rfl ?_
        refine EL_ic dL_law_644 rfl ?_
        refine EL_iadd dL_law_645 ?_
        obtain ⟨hg0, hg1, h⟩ := h
        refine EL_sld dL_law_646 hg0 hg1 ?_
        refine EL_callV (Y' := Y_X12_falls) (as := [vI (scr sd (wi (x4 + 1)))]) (st := [vI r_50]) dL_law_647 lk_RL_77 m_X12_falls (by decide) (by omega) (by omega) rfl rfl (Nat.le_of_ble_eq_true rfl) (s_X12_falls h) (fun r0 B0 σ_51 h => ?_)
        obtain ⟨r_52, rfl, rfl, h⟩ := h
        refine EL_icmp_eq (tgt := 1454) dL_law_650 (by decide) (fun hc => ?_) (fun hc => ?_)
        · have h := Eq.mp (if_pos hc) h
          refine EL_iinc (ls' := [some (vR 52 0), some (vR 11 0), some (vR 12 0), some (vR 60 0), some (vI (wi (x4 + 7))), none, none]) dL_law_1454 rfl (by decide) rfl rfl ?_
          refine EL_goto (tgt := 23) dL_law_1457 (by decide) ?_
          exact EL_widen (by omega) (by omega) (hR _ _ h)
        · have h := Eq.mp (if_neg hc) h
          refine EL_ic dL_law_653 rfl ?_
          exact EL_widen (k' := mc) (n' := ms) (by omega) (by omega) (EL_zret dL_law_654 rfl (by decide) ⟨_, rfl, rfl, h⟩)
      have h := Eq.mp (if_neg hc) h
      have hc12 := hc
      clear hc
      by_cases hc : (bA (scr sd x4) 63) = 13
      · have h := Eq.mp (if_pos hc) h
        refine EL_tableIn (off := 615) (tgt := 655) dL_law_40 (by omega) (by omega) (by rw [hc]; rfl) (by decide) ?_
        refine EL_aload_n dL_law_655 rfl rfl ?_
        refine EL_aload_n dL_law_656 rfl rfl ?_
        refine EL_iload dL_law_657 rfl ?_
        refine EL_ic dL_law_659 rfl ?_
        refine EL_iadd dL_law_660 ?_
        obtain ⟨hg0, hg1, h⟩ := h
        refine EL_sld dL_law_661 hg0 hg1 ?_
        refine EL_callV (Y' := Y_X11_catches) (as := [vI (scr sd (wi (x4 + 1)))]) (st := []) dL_law_662 lk_RL_78 m_X11_catches (by decide) (by omega) (by omega) rfl rfl (Nat.le_of_ble_eq_true rfl) (s_X11_catches h) (fun r0 B0 σ_53 h => ?_)
        obtain ⟨r_54, rfl, rfl, h⟩ := h
        refine EL_aload_n dL_law_665 rfl rfl ?_
        refine EL_aload_n dL_law_666 rfl rfl ?_
        refine EL_iload dL_law_667 rfl ?_
        refine EL_ic dL_law_669 rfl ?_
        refine EL_iadd dL_law_670 ?_
        obtain ⟨hg0, hg1, h⟩ := h
        refine EL_sld dL_law_671 hg0 hg1 ?_
        refine EL_callV (Y' := Y_X12_catches) (as := [vI (scr sd (wi (x4 + 1)))]) (st := [vI r_54]) dL_law_672 lk_RL_81 m_X12_catches (by decide) (by omega) (by omega) rfl rfl (Nat.le_of_ble_eq_true rfl) (s_X12_catches h) (fun r0 B0 σ_55 h => ?_)
        obtain ⟨r_56, rfl, rfl, h⟩ := h
        refine EL_icmp_eq (tgt := 1454) dL_law_675 (by decide) (fun hc => ?_) (fun hc => ?_)
        · have h := Eq.mp (if_pos hc) h
          refine EL_iinc (ls' := [some (vR 52 0), some (vR 11 0), some (vR 12 0), some (vR 60 0), some (vI (wi (x4 + 7))), none, none]) dL_law_1454 rfl (by decide) rfl rfl ?_
          refine EL_goto (tgt := 23) dL_law_1457 (by decide) ?_
          exact EL_widen (by omega) (by omega) (hR _ _ h)
        · have h := Eq.mp (if_neg hc) h
          refine EL_ic dL_law_678 rfl ?_
          exact EL_widen (k' := mc) (n' := ms) (by omega) (by omega) (EL_zret dL_law_679 rfl (by decide) ⟨_, rfl, rfl, h⟩)
      have h := Eq.mp (if_neg hc) h
      have hc13 := hc
      clear hc
      by_cases hc : (bA (scr sd x4) 63) = 14
      · have h := Eq.mp (if_pos hc) h
        refine EL_tableIn (off := 640) (tgt := 680) dL_law_40 (by omega) (by omega) (by rw [hc]; rfl) (by decide) ?_
        refine EL_aload_n dL_law_680 rfl rfl ?_
        refine EL_aload_n dL_law_681 rfl rfl ?_
        refine EL_iload dL_law_682 rfl ?_
        refine EL_ic dL_law_684 rfl ?_
        refine EL_iadd dL_law_685 ?_
        obtain ⟨hg0, hg1, h⟩ := h
        refine EL_sld dL_law_686 hg0 hg1 ?_
        refine EL_aload_n dL_law_687 rfl rfl ?_
        refine EL_iload dL_law_688 rfl ?_
        refine EL_ic dL_law_690 rfl ?_
        refine EL_iadd dL_law_691 ?_
        obtain ⟨hg0, hg1, h⟩ := h
        refine EL_sld dL_law_692 hg0 hg1 ?_
        refine EL_callV (Y' := Y_X11_span) (as := [vI (scr sd (wi (x4 + 1))), vI (scr sd (wi (x4 + 2)))]) (st := []) dL_law_693 lk_RL_82 m_X11_span (by decide) (by omega) (by omega) rfl rfl (Nat.le_of_ble_eq_true rfl) (s_X11_span h) (fun r0 B0 σ_57 h => ?_)
        obtain ⟨r_58, rfl, rfl, h⟩ := h
        refine EL_aload_n dL_law_696 rfl rfl ?_
        refine EL_aload_n dL_law_697 rfl rfl ?_
        refine EL_iload dL_law_698 rfl ?_
        refine EL_ic dL_law_700 rfl ?_
        refine EL_iadd dL_law_701 ?_
        obtain ⟨hg0, hg1, h⟩ := h
        refine EL_sld dL_law_702 hg0 hg1 ?_
        refine EL_aload_n dL_law_703 rfl rfl ?_
        refine EL_iload dL_law_704 rfl ?_
        refine EL_ic dL_law_706 rfl ?_
        refine EL_iadd dL_law_707 ?_
        obtain ⟨hg0, hg1, h⟩ := h
        refine EL_sld dL_law_708 hg0 hg1 ?_
        refine EL_callV (Y' := Y_X12_span) (as := [vI (scr sd (wi (x4 + 1))), vI (scr sd (wi (x4 + 2)))]) (st := [vI r_58]) dL_law_709 lk_RL_85 m_X12_span (by decide) (by omega) (by omega) rfl rfl (Nat.le_of_ble_eq_true rfl) (s_X12_span h) (fun r0 B0 σ_59 h => ?_)
        obtain ⟨r_60, rfl, rfl, h⟩ := h
        refine EL_icmp_eq (tgt := 1454) dL_law_712 (by decide) (fun hc => ?_) (fun hc => ?_)
        · have h := Eq.mp (if_pos hc) h
          refine EL_iinc (ls' := [some (vR 52 0), some (vR 11 0), some (vR 12 0), some (vR 60 0), some (vI (wi (x4 + 7))), none, none]) dL_law_1454 rfl (by decide) rfl rfl ?_
          refine EL_goto (tgt := 23) dL_law_1457 (by decide) ?_
          exact EL_widen (by omega) (by omega) (hR _ _ h)
        · have h := Eq.mp (if_neg hc) h
          refine EL_ic dL_law_715 rfl ?_
          exact EL_widen (k' := mc) (n' := ms) (by omega) (by omega) (EL_zret dL_law_716 rfl (by decide) ⟨_, rfl, rfl, h⟩)
      have h := Eq.mp (if_neg hc) h
      have hc14 := hc
      clear hc
      by_cases hc : (bA (scr sd x4) 63) = 15
      · have h := Eq.mp (if_pos hc) h
        refine EL_tableIn (off := 677) (tgt := 717) dL_law_40 (by omega) (by omega) (by rw [hc]; rfl) (by decide) ?_
        refine EL_aload_n dL_law_717 rfl rfl ?_
        refine EL_callV (Y' := Y_X11_idle) (as := []) (st := []) dL_law_718 lk_RL_86 m_X11_idle (by decide) (by omega) (by omega) rfl rfl (Nat.le_of_ble_eq_true rfl) (s_X11_idle h) (fun r0 B0 σ_61 h => ?_)
        obtain ⟨r_62, rfl, rfl, h⟩ := h
        refine EL_aload_n dL_law_721 rfl rfl ?_
        refine EL_callV (Y' := Y_X12_idle) (as := []) (st := [vI r_62]) dL_law_722 lk_RL_89 m_X12_idle (by decide) (by omega) (by omega) rfl rfl (Nat.le_of_ble_eq_true rfl) (s_X12_idle h) (fun r0 B0 σ_63 h => ?_)
        obtain ⟨r_64, rfl, rfl, h⟩ := h
        refine EL_icmp_eq (tgt := 1454) dL_law_725 (by decide) (fun hc => ?_) (fun hc => ?_)
        · have h := Eq.mp (if_pos hc) h
          refine EL_iinc (ls' := [some (vR 52 0), some (vR 11 0), some (vR 12 0), some (vR 60 0), some (vI (wi (x4 + 7))), none, none]) dL_law_1454 rfl (by decide) rfl rfl ?_
          refine EL_goto (tgt := 23) dL_law_1457 (by decide) ?_
          exact EL_widen (by omega) (by omega) (hR _ _ h)
        · have h := Eq.mp (if_neg hc) h
          refine EL_ic dL_law_728 rfl ?_
          exact EL_widen (k' := mc) (n' := ms) (by omega) (by omega) (EL_zret dL_law_729 rfl (by decide) ⟨_, rfl, rfl, h⟩)
      have h := Eq.mp (if_neg hc) h
      have hc15 := hc
      clear hc
      by_cases hc : (bA (scr sd x4) 63) = 16
      · have h := Eq.mp (if_pos hc) h
        refine EL_tableIn (off := 690) (tgt := 730) dL_law_40 (by omega) (by omega) (by rw [hc]; rfl) (by decide) ?_
        refine EL_aload_n dL_law_730 rfl rfl ?_
        refine EL_callV (Y' := Y_X11_lost) (as := []) (st := []) dL_law_731 lk_RL_90 m_X11_lost (by decide) (by omega) (by omega) rfl rfl (Nat.le_of_ble_eq_true rfl) (s_X11_lost h) (fun r0 B0 σ_65 h => ?_)
        obtain ⟨r_66, rfl, rfl, h⟩ := h
        refine EL_aload_n dL_law_734 rfl rfl ?_
        refine EL_callV (Y' := Y_X12_lost) (as := []) (st := [vI r_66]) dL_law_735 lk_RL_93 m_X12_lost (by decide) (by omega) (by omega) rfl rfl (Nat.le_of_ble_eq_true rfl) (s_X12_lost h) (fun r0 B0 σ_67 h => ?_)
        obtain ⟨r_68, rfl, rfl, h⟩ := h
        refine EL_icmp_eq (tgt := 1454) dL_law_738 (by decide) (fun hc => ?_) (fun hc => ?_)
        · have h := Eq.mp (if_pos hc) h
          refine EL_iinc (ls' := [some (vR 52 0), some (vR 11 0), some (vR 12 0), some (vR 60 0), some (vI (wi (x4 + 7))), none, none]) dL_law_1454 rfl (by decide) rfl rfl ?_
          refine EL_goto (tgt := 23) dL_law_1457 (by decide) ?_
          exact EL_widen (by omega) (by omega) (hR _ _ h)
        · have h := Eq.mp (if_neg hc) h
          refine EL_ic dL_law_741 rfl ?_
          exact EL_widen (k' := mc) (n' := ms) (by omega) (by omega) (EL_zret dL_law_742 rfl (by decide) ⟨_, rfl, rfl, h⟩)
      have h := Eq.mp (if_neg hc) h
      have hc16 := hc
      clear hc
      by_cases hc : (bA (scr sd x4) 63) = 17
      · have h := Eq.mp (if_pos hc) h
        refine EL_tableIn (off := 703) (tgt := 743) dL_law_40 (by omega) (by omega) (by rw [hc]; rfl) (by decide) ?_
        refine EL_aload_n dL_law_743 rfl rfl ?_
        refine EL_callV (Y' := Y_X11_twins) (as := []) (st := []) dL_law_744 lk_RL_94 m_X11_twins (by decide) (by omega) (by omega) rfl rfl (Nat.le_of_ble_eq_true rfl) (s_X11_twins h) (fun r0 B0 σ_69 h => ?_)
        obtain ⟨r_70, rfl, rfl, h⟩ := h
        refine EL_aload_n dL_law_747 rfl rfl ?_
        refine EL_callV (Y' := Y_X12_twins) (as := []) (st := [vI r_70]) dL_law_748 lk_RL_97 m_X12_twins (by decide) (by omega) (by omega) rfl rfl (Nat.le_of_ble_eq_true rfl) (s_X12_twins h) (fun r0 B0 σ_71 h => ?_)
        obtain ⟨r_72, rfl, rfl, h⟩ := h
        refine EL_icmp_eq (tgt := 1454) dL_law_751 (by decide) (fun hc => ?_) (fun hc => ?_)
        · have h := Eq.mp (if_pos hc) h
          refine EL_iinc (ls' := [some (vR 52 0), some (vR 11 0), some (vR 12 0), some (vR 60 0), some (vI (wi (x4 + 7))), none, none]) dL_law_1454 rfl (by decide) rfl rfl ?_
          refine EL_goto (tgt := 23) dL_law_1457 (by decide) ?_
          exact EL_widen (by omega) (by omega) (hR _ _ h)
        · have h := Eq.mp (if_neg hc) h
          refine EL_ic dL_law_754 rfl ?_
          exact EL_widen (k' := mc) (n' := ms) (by omega) (by omega) (EL_zret dL_law_755 rfl (by decide) ⟨_, rfl, rfl, h⟩)
      have h := Eq.mp (if_neg hc) h
      have hc17 := hc
      clear hc
      by_cases hc : (bA (scr sd x4) 63) = 18
      · have h := Eq.mp (if_pos hc) h
        refine EL_tableIn (off := 716) (tgt := 756) dL_law_40 (by omega) (by omega) (by rw [hc]; rfl) (by decide) ?_
        refine EL_aload_n dL_law_756 rfl rfl ?_
        refine EL_callV (Y' := Y_X11_crowd) (as := []) (st := []) dL_law_757 lk_RL_98 m_X11_crowd (by decide) (by omega) (by omega) rfl rfl (Nat.le_of_ble_eq_true rfl) (s_X11_crowd h) (fun r0 B0 σ_73 h => ?_)
        obtain ⟨r_74, rfl, rfl, h⟩ := h
        refine EL_aload_n dL_law_760 rfl rfl ?_
        refine EL_callV (Y' := Y_X12_crowd) (as := []) (st := [vI r_74]) dL_law_761 lk_RL_101 m_X12_crowd (by decide) (by omega) (by omega) rfl rfl (Nat.le_of_ble_eq_true rfl) (s_X12_crowd h) (fun r0 B0 σ_75 h => ?_)
        obtain ⟨r_76, rfl, rfl, h⟩ := h
        refine EL_icmp_eq (tgt := 1454) dL_law_764 (by decide) (fun hc => ?_) (fun hc => ?_)
        · have h := Eq.mp (if_pos hc) h
          refine EL_iinc (ls' := [some (vR 52 0), some (vR 11 0), some (vR 12 0), some (vR 60 0), some (vI (wi (x4 + 7))), none, none]) dL_law_1454 rfl (by decide) rfl rfl ?_
          refine EL_goto (tgt := 23) dL_law_1457 (by decide) ?_
          exact EL_widen (by omega) (by omega) (hR _ _ h)
        · have h := Eq.mp (if_neg hc) h
          refine EL_ic dL_law_767 rfl ?_
          exact EL_widen (k' := mc) (n' := ms) (by omega) (by omega) (EL_zret dL_law_768 rfl (by decide) ⟨_, rfl, rfl, h⟩)
      have h := Eq.mp (if_neg hc) h
      have hc18 := hc
      clear hc
      by_cases hc : (bA (scr sd x4) 63) = 19
      · have h := Eq.mp (if_pos hc) h
        refine EL_tableIn (off := 729) (tgt := 769) dL_law_40 (by omega) (by omega) (by rw [hc]; rfl) (by decide) ?_
        refine EL_aload_n dL_law_769 rfl rfl ?_
        refine EL_aload_n dL_law_770 rfl rfl ?_
        refine EL_iload dL_law_771 rfl ?_
        refine EL_ic dL_law_773 rfl ?_
        refine EL_iadd dL_law_774 ?_
        obtain ⟨hg0, hg1, h⟩ := h
        refine EL_sld dL_law_775 hg0 hg1 ?_
        refine EL_callV (Y' := Y_X11_shave) (as := [vI (scr sd (wi (x4 + 1)))]) (st := []) dL_law_776 lk_RL_102 m_X11_shave (by decide) (by omega) (by omega) rfl rfl (Nat.le_of_ble_eq_true rfl) (s_X11_shave h) (fun r0 B0 σ_77 h => ?_)
        obtain ⟨r_78, rfl, rfl, h⟩ := h
        refine EL_aload_n dL_law_779 rfl rfl ?_
        refine EL_aload_n dL_law_780 rfl rfl ?_
        refine EL_iload dL_law_781 rfl ?_
        refine EL_ic dL_law_783 rfl ?_
        refine EL_iadd dL_law_784 ?_
        obtain ⟨hg0, hg1, h⟩ := h
        refine EL_sld dL_law_785 hg0 hg1 ?_
        refine EL_callV (Y' := Y_X12_shave) (as := [vI (scr sd (wi (x4 + 1)))]) (st := [vI r_78]) dL_law_786 lk_RL_105 m_X12_shave (by decide) (by omega) (by omega) rfl rfl (Nat.le_of_ble_eq_true rfl) (s_X12_shave h) (fun r0 B0 σ_79 h => ?_)
        obtain ⟨r_80, rfl, rfl, h⟩ := h
        refine EL_icmp_eq (tgt := 1454) dL_law_789 (by decide) (fun hc => ?_) (fun hc => ?_)
        · have h := Eq.mp (if_pos hc) h
          refine EL_iinc (ls' := [some (vR 52 0), some (vR 11 0), some (vR 12 0), some (vR 60 0), some (vI (wi (x4 + 7))), none, none]) dL_law_1454 rfl (by decide) rfl rfl ?_
          refine EL_goto (tgt := 23) dL_law_1457 (by decide) ?_
          exact EL_widen (by omega) (by omega) (hR _ _ h)
        · have h := Eq.mp (if_neg hc) h
          refine EL_ic dL_law_792 rfl ?_
          exact EL_widen (k' := mc) (n' := ms) (by omega) (by omega) (EL_zret dL_law_793 rfl (by decide) ⟨_, rfl, rfl, h⟩)
      have h := Eq.mp (if_neg hc) h
      have hc19 := hc
      clear hc
      by_cases hc : (bA (scr sd x4) 63) = 20
      · have h := Eq.mp (if_pos hc) h
        refine EL_tableIn (off := 754) (tgt := 794) dL_law_40 (by omega) (by omega) (by rw [hc]; rfl) (by decide) ?_
        refine EL_aload_n dL_law_794 rfl rfl ?_
        refine EL_aload_n dL_law_795 rfl rfl ?_
        refine EL_iload dL_law_796 rfl ?_
        refine EL_ic dL_law_798 rfl ?_
        refine EL_iadd dL_law_799 ?_
        obtain ⟨hg0, hg1, h⟩ := h
        refine EL_sld dL_law_800 hg0 hg1 ?_
        refine EL_callV (Y' := Y_X11_trim) (as := [vI (scr sd (wi (x4 + 1)))]) (st := []) dL_law_801 lk_RL_106 m_X11_trim (by decide) (by omega) (by omega) rfl rfl (Nat.le_of_ble_eq_true rfl) (s_X11_trim h) (fun r0 B0 σ_81 h => ?_)
        obtain ⟨r_82, rfl, rfl, h⟩ := h
        refine EL_aload_n dL_law_804 rfl rfl ?_
        refine EL_aload_n dL_law_805 rfl rfl ?_
        refine EL_iload dL_law_806 rfl ?_
        refine EL_ic dL_law_808 rfl ?_
        refine EL_iadd dL_law_809 ?_
        obtain ⟨hg0, hg1, h⟩ := h
        refine EL_sld dL_law_810 hg0 hg1 ?_
        refine EL_callV (Y' := Y_X12_trim) (as := [vI (scr sd (wi (x4 + 1)))]) (st := [vI r_82]) dL_law_811 lk_RL_109 m_X12_trim (by decide) (by omega) (by omega) rfl rfl (Nat.le_of_ble_eq_true rfl) (s_X12_trim h) (fun r0 B0 σ_83 h => ?_)
        obtain ⟨r_84, rfl, rfl, h⟩ := h
        refine EL_icmp_eq (tgt := 1454) dL_law_814 (by decide) (fun hc => ?_) (fun hc => ?_)
        · have h := Eq.mp (if_pos hc) h
          refine EL_iinc (ls' := [some (vR 52 0), some (vR 11 0), some (vR 12 0), some (vR 60 0), some (vI (wi (x4 + 7))), none, none]) dL_law_1454 rfl (by decide) rfl rfl ?_
          refine EL_goto (tgt := 23) dL_law_1457 (by decide) ?_
          exact EL_widen (by omega) (by omega) (hR _ _ h)
        · have h := Eq.mp (if_neg hc) h
          refine EL_ic dL_law_817 rfl ?_
          exact EL_widen (k' := mc) (n' := ms) (by omega) (by omega) (EL_zret dL_law_818 rfl (by decide) ⟨_, rfl, rfl, h⟩)
      have h := Eq.mp (if_neg hc) h
      have hc20 := hc
      clear hc
      by_cases hc : (bA (scr sd x4) 63) = 21
      · have h := Eq.mp (if_pos hc) h
        refine EL_tableIn (off := 779) (tgt := 819) dL_law_40 (by omega) (by omega) (by rw [hc]; rfl) (by decide) ?_
        refine EL_aload_n dL_law_819 rfl rfl ?_
        refine EL_callV (Y' := Y_X11_swap) (as := []) (st := []) dL_law_820 lk_RL_110 m_X11_swap (by decide) (by omega) (by omega) rfl rfl (Nat.le_of_ble_eq_true rfl) (s_X11_swap h) (fun r0 B0 σ_85 h => ?_)
        obtain ⟨r_86, rfl, rfl, h⟩ := h
        refine EL_aload_n dL_law_823 rfl rfl ?_
        refine EL_callV (Y' := Y_X12_swap) (as := []) (st := [vI r_86]) dL_law_824 lk_RL_113 m_X12_swap (by decide) (by omega) (by omega) rfl rfl (Nat.le_of_ble_eq_true rfl) (s_X12_swap h) (fun r0 B0 σ_87 h => ?_)
        obtain ⟨r_88, rfl, rfl, h⟩ := h
        refine EL_icmp_eq (tgt := 1454) dL_law_827 (by decide) (fun hc => ?_) (fun hc => ?_)
        · have h := Eq.mp (if_pos hc) h
          refine EL_iinc (ls' := [some (vR 52 0), some (vR 11 0), some (vR 12 0), some (vR 60 0), some (vI (wi (x4 + 7))), none, none]) dL_law_1454 rfl (by decide) rfl rfl ?_
          refine EL_goto (tgt := 23) dL_law_1457 (by decide) ?_
          exact EL_widen (by omega) (by omega) (hR _ _ h)
        · have h := Eq.mp (if_neg hc) h
          refine EL_ic dL_law_830 rfl ?_
          exact EL_widen (k' := mc) (n' := ms) (by omega) (by omega) (EL_zret dL_law_831 rfl (by decide) ⟨_, rfl, rfl, h⟩)
      have h := Eq.mp (if_neg hc) h
      have hc21 := hc
      clear hc
      by_cases hc : (bA (scr sd x4) 63) = 22
      · have h := Eq.mp (if_pos hc) h
        refine EL_tableIn (off := 792) (tgt := 832) dL_law_40 (by omega) (by omega) (by rw [hc]; rfl) (by decide) ?_
        refine EL_aload_n dL_law_832 rfl rfl ?_
        refine EL_aload_n dL_law_833 rfl rfl ?_
        refine EL_iload dL_law_834 rfl ?_
        refine EL_ic dL_law_836 rfl ?_
        refine EL_iadd dL_law_837 ?_
        obtain ⟨hg0, hg1, h⟩ := h
        refine EL_sld dL_law_838 hg0 hg1 ?_
        refine EL_callV (Y' := Y_X11_back) (as := [vI (scr sd (wi (x4 + 1)))]) (st := []) dL_law_839 lk_RL_114 m_X11_back (by decide) (by omega) (by omega) rfl rfl (Nat.le_of_ble_eq_true rfl) (s_X11_back h) (fun r0 B0 σ_89 h => ?_)
        obtain ⟨r_90, rfl, rfl, h⟩ := h
        refine EL_aload_n dL_law_842 rfl rfl ?_
        refine EL_aload_n dL_law_843 rfl rfl ?_
        refine EL_iload dL_law_844 rfl ?_
        refine EL_ic dL_law_846 rfl ?_
        refine EL_iadd dL_law_847 ?_
        obtain ⟨hg0, hg1, h⟩ := h
        refine EL_sld dL_law_848 hg0 hg1 ?_
        refine EL_callV (Y' := Y_X12_back) (as := [vI (scr sd (wi (x4 + 1)))]) (st := [vI r_90]) dL_law_849 lk_RL_117 m_X12_back (by decide) (by omega) (by omega) rfl rfl (Nat.le_of_ble_eq_true rfl) (s_X12_back h) (fun r0 B0 σ_91 h => ?_)
        obtain ⟨r_92, rfl, rfl, h⟩ := h
        refine EL_icmp_eq (tgt := 1454) dL_law_852 (by decide) (fun hc => ?_) (fun hc => ?_)
        · have h := Eq.mp (if_pos hc) h
          refine EL_iinc (ls' := [some (vR 52 0), some (vR 11 0), some (vR 12 0), some (vR 60 0), some (vI (wi (x4 + 7))), none, none]) dL_law_1454 rfl (by decide) rfl rfl ?_
          refine EL_goto (tgt := 23) dL_law_1457 (by decide) ?_
          exact EL_widen (by omega) (by omega) (hR _ _ h)
        · have h := Eq.mp (if_neg hc) h
          refine EL_ic dL_law_855 rfl ?_
          exact EL_widen (k' := mc) (n' := ms) (by omega) (by omega) (EL_zret dL_law_856 rfl (by decide) ⟨_, rfl, rfl, h⟩)
      have h := Eq.mp (if_neg hc) h
      have hc22 := hc
      clear hc
      by_cases hc : (bA (scr sd x4) 63) = 23
      · have h := Eq.mp (if_pos hc) h
        refine EL_tableIn (off := 817) (tgt := 857) dL_law_40 (by omega) (by omega) (by rw [hc]; rfl) (by decide) ?_
        refine EL_aload_n dL_law_857 rfl rfl ?_
        refine EL_aload_n dL_law_858 rfl rfl ?_
        refine EL_iload dL_law_859 rfl ?_
        refine EL_ic dL_law_861 rfl ?_
        refine EL_iadd dL_law_862 ?_
        obtain ⟨hg0, hg1, h⟩ := h
        refine EL_sld dL_law_863 hg0 hg1 ?_
        refine EL_callV (Y' := Y_X11_trip) (as := [vI (scr sd (wi (x4 + 1)))]) (st := []) dL_law_864 lk_RL_118 m_X11_trip (by decide) (by omega) (by omega) rfl rfl (Nat.le_of_ble_eq_true rfl) (s_X11_trip h) (fun r0 B0 σ_93 h => ?_)
        obtain ⟨r_94, rfl, rfl, h⟩ := h
        refine EL_aload_n dL_law_867 rfl rfl ?_
        refine EL_aload_n dL_law_868 rfl rfl ?_
        refine EL_iload dL_law_869 rfl ?_
        refine EL_ic dL_law_871 rfl ?_
        refine EL_iadd dL_law_872 ?_
        obtain ⟨hg0, hg1, h⟩ := h
        refine EL_sld dL_law_873 hg0 hg1 ?_
        refine EL_callV (Y' := Y_X12_trip) (as := [vI (scr sd (wi (x4 + 1)))]) (st := [vI r_94]) dL_law_874 lk_RL_121 m_X12_trip (by decide) (by omega) (by omega) rfl rfl (Nat.le_of_ble_eq_true rfl) (s_X12_trip h) (fun r0 B0 σ_95 h => ?_)
        obtain ⟨r_96, rfl, rfl, h⟩ := h
        refine EL_icmp_eq (tgt := 1454) dL_law_877 (by decide) (fun hc => ?_) (fun hc => ?_)
        · have h := Eq.mp (if_pos hc) h
          refine EL_iinc (ls' := [some (vR 52 0), some (vR 11 0), some (vR 12 0), some (vR 60 0), some (vI (wi (x4 + 7))), none, none]) dL_law_1454 rfl (by decide) rfl rfl ?_
          refine EL_goto (tgt := 23) dL_law_1457 (by decide) ?_
          exact EL_widen (by omega) (by omega) (hR _ _ h)
        · have h := Eq.mp (if_neg hc) h
          refine EL_ic dL_law_880 rfl ?_
          exact EL_widen (k' := mc) (n' := ms) (by omega) (by omega) (EL_zret dL_law_881 rfl (by decide) ⟨_, rfl, rfl, h⟩)
      have h := Eq.mp (if_neg hc) h
      have hc23 := hc
      clear hc
      by_cases hc : (bA (scr sd x4) 63) = 24
      · have h := Eq.mp (if_pos hc) h
        refine EL_tableIn (off := 842) (tgt := 882) dL_law_40 (by omega) (by omega) (by rw [hc]; rfl) (by decide) ?_
        refine EL_aload_n dL_law_882 rfl rfl ?_
        refine EL_callV (Y' := Y_X11_rest) (as := []) (st := []) dL_law_883 lk_RL_122 m_X11_rest (by decide) (by omega) (by omega) rfl rfl (Nat.le_of_ble_eq_true rfl) (s_X11_rest h) (fun r0 B0 σ_97 h => ?_)
        obtain ⟨r_98, rfl, rfl, h⟩ := h
        refine EL_aload_n dL_law_886 rfl rfl ?_
        refine EL_callV (Y' := Y_X12_rest) (as := []) (st := [vI r_98]) dL_law_887 lk_RL_125 m_X12_rest (by decide) (by omega) (by omega) rfl rfl (Nat.le_of_ble_eq_true rfl) (s_X12_rest h) (fun r0 B0 σ_99 h => ?_)
        obtain ⟨r_100, rfl, rfl, h⟩ := h
        refine EL_icmp_eq (tgt := 1454) dL_law_890 (by decide) (fun hc => ?_) (fun hc => ?_)
        · have h := Eq.mp (if_pos hc) h
          refine EL_iinc (ls' := [some (vR 52 0), some (vR 11 0), some (vR 12 0), some (vR 60 0), some (vI (wi (x4 + 7))), none, none]) dL_law_1454 rfl (by decide) rfl rfl ?_
          refine EL_goto (tgt := 23) dL_law_1457 (by decide) ?_
          exact EL_widen (by omega) (by omega) (hR _ _ h)
        · have h := Eq.mp (if_neg hc) h
          refine EL_ic dL_law_893 rfl ?_
          exact EL_widen (k' := mc) (n' := ms) (by omega) (by omega) (EL_zret dL_law_894 rfl (by decide) ⟨_, rfl, rfl, h⟩)
      have h := Eq.mp (if_neg hc) h
      have hc24 := hc
      clear hc
      by_cases hc : (bA (scr sd x4) 63) = 25
      · have h := Eq.mp (if_pos hc) h
        refine EL_tableIn (off := 855) (tgt := 895) dL_law_40 (by omega) (by omega) (by rw [hc]; rfl) (by decide) ?_
        refine EL_aload_n dL_law_895 rfl rfl ?_
        refine EL_aload_n dL_law_896 rfl rfl ?_
        refine EL_iload dL_law_897 rfl ?_
        refine EL_ic dL_law_899 rfl ?_
        refine EL_iadd dL_law_900 ?_
        obtain ⟨hg0, hg1, h⟩ := h
        refine EL_sld dL_law_901 hg0 hg1 ?_
        refine EL_callV (Y' := Y_X11_row) (as := [vI (scr sd (wi (x4 + 1)))]) (st := []) dL_law_902 lk_RL_126 m_X11_row (by decide) (by omega) (by omega) rfl rfl (Nat.le_of_ble_eq_true rfl) (s_X11_row h) (fun r0 B0 σ_101 h => ?_)
        obtain ⟨r_102, rfl, rfl, h⟩ := h
        refine EL_aload_n dL_law_905 rfl rfl ?_
        refine EL_aload_n dL_law_906 rfl rfl ?_
        refine EL_iload dL_law_907 rfl ?_
        refine EL_ic dL_law_909 rfl ?_
        refine EL_iadd dL_law_910 ?_
        obtain ⟨hg0, hg1, h⟩ := h
        refine EL_sld dL_law_911 hg0 hg1 ?_
        refine EL_callV (Y' := Y_X12_row) (as := [vI (scr sd (wi (x4 + 1)))]) (st := [vI r_102]) dL_law_912 lk_RL_129 m_X12_row (by decide) (by omega) (by omega) rfl rfl (Nat.le_of_ble_eq_true rfl) (s_X12_row h) (fun r0 B0 σ_103 h => ?_)
        obtain ⟨r_104, rfl, rfl, h⟩ := h
        refine EL_icmp_eq (tgt := 1454) dL_law_915 (by decide) (fun hc => ?_) (fun hc => ?_)
        · have h := Eq.mp (if_pos hc) h
          refine EL_iinc (ls' := [some (vR 52 0), some (vR 11 0), some (vR 12 0), some (vR 60 0), some (vI (wi (x4 + 7))), none, none]) dL_law_1454 rfl (by decide) rfl rfl ?_
          refine EL_goto (tgt := 23) dL_law_1457 (by decide) ?_
          exact EL_widen (by omega) (by omega) (hR _ _ h)
        · have h := Eq.mp (if_neg hc) h
          refine EL_ic dL_law_918 rfl ?_
          exact EL_widen (k' := mc) (n' := ms) (by omega) (by omega) (EL_zret dL_law_919 rfl (by decide) ⟨_, rfl, rfl, h⟩)
      have h := Eq.mp (if_neg hc) h
      have hc25 := hc
      clear hc
      by_cases hc : (bA (scr sd x4) 63) = 26
      · have h := Eq.mp (if_pos hc) h
        refine EL_tableIn (off := 880) (tgt := 920) dL_law_40 (by omega) (by omega) (by rw [hc]; rfl) (by decide) ?_
        refine EL_aload_n dL_law_920 rfl rfl ?_
        refine EL_callV (Y' := Y_X11_last) (as := []) (st := []) dL_law_921 lk_RL_130 m_X11_last (by decide) (by omega) (by omega) rfl rfl (Nat.le_of_ble_eq_true rfl) (s_X11_last h) (fun r0 B0 σ_105 h => ?_)
        obtain ⟨r_106, rfl, rfl, h⟩ := h
        refine EL_aload_n dL_law_924 rfl rfl ?_
        refine EL_callV (Y' := Y_X12_last) (as := []) (st := [vI r_106]) dL_law_925 lk_RL_133 m_X12_last (by decide) (by omega) (by omega) rfl rfl (Nat.le_of_ble_eq_true rfl) (s_X12_last h) (fun r0 B0 σ_107 h => ?_)
        obtain ⟨r_108, rfl, rfl, h⟩ := h
        refine EL_icmp_eq (tgt := 1454) dL_law_928 (by decide) (fun hc => ?_) (fun hc => ?_)
        · have h := Eq.mp (if_pos hc) h
          refine EL_iinc (ls' := [some (vR 52 0), some (vR 11 0), some (vR 12 0), some (vR 60 0), some (vI (wi (x4 + 7))), none, none]) dL_law_1454 rfl (by decide) rfl rfl ?_
          refine EL_goto (tgt := 23) dL_law_1457 (by decide) ?_
          exact EL_widen (by omega) (by omega) (hR _ _ h)
        · have h := Eq.mp (if_neg hc) h
          refine EL_ic dL_law_931 rfl ?_
          exact EL_widen (k' := mc) (n' := ms) (by omega) (by omega) (EL_zret dL_law_932 rfl (by decide) ⟨_, rfl, rfl, h⟩)
      have h := Eq.mp (if_neg hc) h
      have hc26 := hc
      clear hc
      by_cases hc : (bA (scr sd x4) 63) = 27
      · have h := Eq.mp (if_pos hc) h
        refine EL_tableIn (off := 893) (tgt := 933) dL_law_40 (by omega) (by omega) (by rw [hc]; rfl) (by decide) ?_
        refine EL_aload_n dL_law_933 rfl rfl ?_
        refine EL_aload_n dL_law_934 rfl rfl ?_
        refine EL_iload dL_law_935 rfl ?_
        refine EL_ic dL_law_937 rfl ?_
        refine EL_iadd dL_law_938 ?_
        obtain ⟨hg0, hg1, h⟩ := h
        refine EL_sld dL_law_939 hg0 hg1 ?_
        refine EL_aload_n dL_law_940 rfl rfl ?_
        refine EL_iload dL_law_941 rfl ?_
        refine EL_ic dL_law_943 rfl ?_
        refine EL_iadd dL_law_944 ?_
        obtain ⟨hg0, hg1, h⟩ := h
        refine EL_sld dL_law_945 hg0 hg1 ?_
        refine EL_callV (Y' := Y_X11_later) (as := [vI (scr sd (wi (x4 + 1))), vI (scr sd (wi (x4 + 2)))]) (st := []) dL_law_946 lk_RL_134 m_X11_later (by decide) (by omega) (by omega) rfl rfl (Nat.le_of_ble_eq_true rfl) (s_X11_later h) (fun r0 B0 σ_109 h => ?_)
        obtain ⟨r_110, rfl, rfl, h⟩ := h
        refine EL_aload_n dL_law_949 rfl rfl ?_
        refine EL_aload_n dL_law_950 rfl rfl ?_
        refine EL_iload dL_law_951 rfl ?_
        refine EL_ic dL_law_953 rfl ?_
        refine EL_iadd dL_law_954 ?_
        obtain ⟨hg0, hg1, h⟩ := h
        refine EL_sld dL_law_955 hg0 hg1 ?_
        refine EL_aload_n dL_law_956 rfl rfl ?_
        refine EL_iload dL_law_957 rfl ?_
        refine EL_ic dL_law_959 rfl ?_
        refine EL_iadd dL_law_960 ?_
        obtain ⟨hg0, hg1, h⟩ := h
        refine EL_sld dL_law_961 hg0 hg1 ?_
        refine EL_callV (Y' := Y_X12_later) (as := [vI (scr sd (wi (x4 + 1))), vI (scr sd (wi (x4 + 2)))]) (st := [vI r_110]) dL_law_962 lk_RL_137 m_X12_later (by decide) (by omega) (by omega) rfl rfl (Nat.le_of_ble_eq_true rfl) (s_X12_later h) (fun r0 B0 σ_111 h => ?_)
        obtain ⟨r_112, rfl, rfl, h⟩ := h
        refine EL_icmp_eq (tgt := 1454) dL_law_965 (by decide) (fun hc => ?_) (fun hc => ?_)
        · have h := Eq.mp (if_pos hc) h
          refine EL_iinc (ls' := [some (vR 52 0), some (vR 11 0), some (vR 12 0), some (vR 60 0), some (vI (wi (x4 + 7))), none, none]) dL_law_1454 rfl (by decide) rfl rfl ?_
          refine EL_goto (tgt := 23) dL_law_1457 (by decide) ?_
          exact EL_widen (by omega) (by omega) (hR _ _ h)
        · have h := Eq.mp (if_neg hc) h
          refine EL_ic dL_law_968 rfl ?_
          exact EL_widen (k' := mc) (n' := ms) (by omega) (by omega) (EL_zret dL_law_969 rfl (by decide) ⟨_, rfl, rfl, h⟩)
      have h := Eq.mp (if_neg hc) h
      have hc27 := hc
      clear hc
      by_cases hc : (bA (scr sd x4) 63) = 28
      · have h := Eq.mp (if_pos hc) h
        refine EL_tableIn (off := 930) (tgt := 970) dL_law_40 (by omega) (by omega) (by rw [hc]; rfl) (by decide) ?_
        refine EL_aload_n dL_law_970 rfl rfl ?_
        refine EL_aload_n dL_law_971 rfl rfl ?_
        refine EL_iload dL_law_972 rfl ?_
        refine EL_ic dL_law_974 rfl ?_
        refine EL_iadd dL_law_975 ?_
        obtain ⟨hg0, hg1, h⟩ := h
        refine EL_sld dL_law_976 hg0 hg1 ?_
        refine EL_callV (Y' := Y_X11_stray) (as := [vI (scr sd (wi (x4 + 1)))]) (st := []) dL_law_977 lk_RL_138 m_X11_stray (by decide) (by omega) (by omega) rfl rfl (Nat.le_of_ble_eq_true rfl) (s_X11_stray h) (fun r0 B0 σ_113 h => ?_)
        obtain ⟨r_114, rfl, rfl, h⟩ := h
        refine EL_aload_n dL_law_980 rfl rfl ?_
        refine EL_aload_n dL_law_981 rfl rfl ?_
        refine EL_iload dL_law_982 rfl ?_
        refine EL_ic dL_law_984 rfl ?_
        refine EL_iadd dL_law_985 ?_
        obtain ⟨hg0, hg1, h⟩ := h
        refine EL_sld dL_law_986 hg0 hg1 ?_
        refine EL_callV (Y' := Y_X12_stray) (as := [vI (scr sd (wi (x4 + 1)))]) (st := [vI r_114]) dL_law_987 lk_RL_141 m_X12_stray (by decide) (by omega) (by omega) rfl rfl (Nat.le_of_ble_eq_true rfl) (s_X12_stray h) (fun r0 B0 σ_115 h => ?_)
        obtain ⟨r_116, rfl, rfl, h⟩ := h
        refine EL_icmp_eq (tgt := 1454) dL_law_990 (by decide) (fun hc => ?_) (fun hc => ?_)
        · have h := Eq.mp (if_pos hc) h
          refine EL_iinc (ls' := [some (vR 52 0), some (vR 11 0), some (vR 12 0), some (vR 60 0), some (vI (wi (x4 + 7))), none, none]) dL_law_1454 rfl (by decide) rfl rfl ?_
          refine EL_goto (tgt := 23) dL_law_1457 (by decide) ?_
          exact EL_widen (by omega) (by omega) (hR _ _ h)
        · have h := Eq.mp (if_neg hc) h
          refine EL_ic dL_law_993 rfl ?_
          exact EL_widen (k' := mc) (n' := ms) (by omega) (by omega) (EL_zret dL_law_994 rfl (by decide) ⟨_, rfl, rfl, h⟩)
      have h := Eq.mp (if_neg hc) h
      have hc28 := hc
      clear hc
      by_cases hc : (bA (scr sd x4) 63) = 29
      · have h := Eq.mp (if_pos hc) h
        refine EL_tableIn (off := 955) (tgt := 995) dL_law_40 (by omega) (by omega) (by rw [hc]; rfl) (by decide) ?_
        refine EL_aload_n dL_law_995 rfl rfl ?_
        refine EL_callV (Y' := Y_X11_first) (as := []) (st := []) dL_law_996 lk_RL_142 m_X11_first (by decide) (by omega) (by omega) rfl rfl (Nat.le_of_ble_eq_true rfl) (s_X11_first h) (fun r0 B0 σ_117 h => ?_)
        obtain ⟨r_118, rfl, rfl, h⟩ := h
        refine EL_aload_n dL_law_999 rfl rfl ?_
        refine EL_callV (Y' := Y_X12_first) (as := []) (st := [vI r_118]) dL_law_1000 lk_RL_145 m_X12_first (by decide) (by omega) (by omega) rfl rfl (Nat.le_of_ble_eq_true rfl) (s_X12_first h) (fun r0 B0 σ_119 h => ?_)
        obtain ⟨r_120, rfl, rfl, h⟩ := h
        refine EL_icmp_eq (tgt := 1454) dL_law_1003 (by decide) (fun hc => ?_) (fun hc => ?_)
        · have h := Eq.mp (if_pos hc) h
          refine EL_iinc (ls' := [some (vR 52 0), some (vR 11 0), some (vR 12 0), some (vR 60 0), some (vI (wi (x4 + 7))), none, none]) dL_law_1454 rfl (by decide) rfl rfl ?_
          refine EL_goto (tgt := 23) dL_law_1457 (by decide) ?_
          exact EL_widen (by omega) (by omega) (hR _ _ h)
        · have h := Eq.mp (if_neg hc) h
          refine EL_ic dL_law_1006 rfl ?_
          exact EL_widen (k' := mc) (n' := ms) (by omega) (by omega) (EL_zret dL_law_1007 rfl (by decide) ⟨_, rfl, rfl, h⟩)
      have h := Eq.mp (if_neg hc) h
      have hc29 := hc
      clear hc
      by_cases hc : (bA (scr sd x4) 63) = 30
      · have h := Eq.mp (if_pos hc) h
        refine EL_tableIn (off := 968) (tgt := 1008) dL_law_40 (by omega) (by omega) (by rw [hc]; rfl) (by decide) ?_
        refine EL_aload_n dL_law_1008 rfl rfl ?_
        refine EL_aload_n dL_law_1009 rfl rfl ?_
        refine EL_iload dL_law_1010 rfl ?_
        refine EL_ic dL_law_1012 rfl ?_
        refine EL_iadd dL_law_1013 ?_
        obtain ⟨hg0, hg1, h⟩ := h
        refine EL_sld dL_law_1014 hg0 hg1 ?_
        refine EL_callV (Y' := Y_X11_safe) (as := [vI (scr sd (wi (x4 + 1)))]) (st := []) dL_law_1015 lk_RL_146 m_X11_safe (by decide) (by omega) (by omega) rfl rfl (Nat.le_of_ble_eq_true rfl) (s_X11_safe h) (fun r0 B0 σ_121 h => ?_)
        obtain ⟨r_122, rfl, rfl, h⟩ := h
        refine EL_aload_n dL_law_1018 rfl rfl ?_
        refine EL_aload_n dL_law_1019 rfl rfl ?_
        refine EL_iload dL_law_1020 rfl ?_
        refine EL_ic dL_law_1022 rfl ?_
        refine EL_iadd dL_law_1023 ?_
        obtain ⟨hg0, hg1, h⟩ := h
        refine EL_sld dL_law_1024 hg0 hg1 ?_
        refine EL_callV (Y' := Y_X12_safe) (as := [vI (scr sd (wi (x4 + 1)))]) (st := [vI r_122]) dL_law_1025 lk_RL_149 m_X12_safe (by decide) (by omega) (by omega) rfl rfl (Nat.le_of_ble_eq_true rfl) (s_X12_safe h) (fun r0 B0 σ_123 h => ?_)
        obtain ⟨r_124, rfl, rfl, h⟩ := h
        refine EL_icmp_eq (tgt := 1454) dL_law_1028 (by decide) (fun hc => ?_) (fun hc => ?_)
        · have h := Eq.mp (if_pos hc) h
          refine EL_iinc (ls' := [some (vR 52 0), some (vR 11 0), some (vR 12 0), some (vR 60 0), some (vI (wi (x4 + 7))), none, none]) dL_law_1454 rfl (by decide) rfl rfl ?_
          refine EL_goto (tgt := 23) dL_law_1457 (by decide) ?_
          exact EL_widen (by omega) (by omega) (hR _ _ h)
        · have h := Eq.mp (if_neg hc) h
          refine EL_ic dL_law_1031 rfl ?_
          exact EL_widen (k' := mc) (n' := ms) (by omega) (by omega) (EL_zret dL_law_1032 rfl (by decide) ⟨_, rfl, rfl, h⟩)
      have h := Eq.mp (if_neg hc) h
      have hc30 := hc
      clear hc
      by_cases hc : (bA (scr sd x4) 63) = 31
      · have h := Eq.mp (if_pos hc) h
        refine EL_tableIn (off := 993) (tgt := 1033) dL_law_40 (by omega) (by omega) (by rw [hc]; rfl) (by decide) ?_
        refine EL_aload_n dL_law_1033 rfl rfl ?_
        refine EL_aload_n dL_law_1034 rfl rfl ?_
        refine EL_iload dL_law_1035 rfl ?_
        refine EL_ic dL_law_1037 rfl ?_
        refine EL_iadd dL_law_1038 ?_
        obtain ⟨hg0, hg1, h⟩ := h
        refine EL_sld dL_law_1039 hg0 hg1 ?_
        refine EL_callV (Y' := Y_X11_wide) (as := [vI (scr sd (wi (x4 + 1)))]) (st := []) dL_law_1040 lk_RL_150 m_X11_wide (by decide) (by omega) (by omega) rfl rfl (Nat.le_of_ble_eq_true rfl) (s_X11_wide h) (fun r0 B0 σ_125 h => ?_)
        obtain ⟨r_126, rfl, rfl, h⟩ := h
        refine EL_aload_n dL_law_1043 rfl rfl ?_
        refine EL_aload_n dL_law_1044 rfl rfl ?_
        refine EL_iload dL_law_1045 rfl ?_
        refine EL_ic dL_law_1047 rfl ?_
        refine EL_iadd dL_law_1048 ?_
        obtain ⟨hg0, hg1, h⟩ := h
        refine EL_sld dL_law_1049 hg0 hg1 ?_
        refine EL_callV (Y' := Y_X12_wide) (as := [vI (scr sd (wi (x4 + 1)))]) (st := [vI r_126]) dL_law_1050 lk_RL_153 m_X12_wide (by decide) (by omega) (by omega) rfl rfl (Nat.le_of_ble_eq_true rfl) (s_X12_wide h) (fun r0 B0 σ_127 h => ?_)
        obtain ⟨r_128, rfl, rfl, h⟩ := h
        refine EL_icmp_eq (tgt := 1454) dL_law_1053 (by decide) (fun hc => ?_) (fun hc => ?_)
        · have h := Eq.mp (if_pos hc) h
          refine EL_iinc (ls' := [some (vR 52 0), some (vR 11 0), some (vR 12 0), some (vR 60 0), some (vI (wi (x4 + 7))), none, none]) dL_law_1454 rfl (by decide) rfl rfl ?_
          refine EL_goto (tgt := 23) dL_law_1457 (by decide) ?_
          exact EL_widen (by omega) (by omega) (hR _ _ h)
        · have h := Eq.mp (if_neg hc) h
          refine EL_ic dL_law_1056 rfl ?_
          exact EL_widen (k' := mc) (n' := ms) (by omega) (by omega) (EL_zret dL_law_1057 rfl (by decide) ⟨_, rfl, rfl, h⟩)
      have h := Eq.mp (if_neg hc) h
      have hc31 := hc
      clear hc
      by_cases hc : (bA (scr sd x4) 63) = 32
      · have h := Eq.mp (if_pos hc) h
        refine EL_tableIn (off := 1018) (tgt := 1058) dL_law_40 (by omega) (by omega) (by rw [hc]; rfl) (by decide) ?_
        refine EL_aload_n dL_law_1058 rfl rfl ?_
        refine EL_aload_n dL_law_1059 rfl rfl ?_
        refine EL_iload dL_law_1060 rfl ?_
        refine EL_ic dL_law_1062 rfl ?_
        refine EL_iadd dL_law_1063 ?_
        obtain ⟨hg0, hg1, h⟩ := h
        refine EL_sld dL_law_1064 hg0 hg1 ?_
        refine EL_aload_n dL_law_1065 rfl rfl ?_
        refine EL_iload dL_law_1066 rfl ?_
        refine EL_ic dL_law_1068 rfl ?_
        refine EL_iadd dL_law_1069 ?_
        obtain ⟨hg0, hg1, h⟩ := h
        refine EL_sld dL_law_1070 hg0 hg1 ?_
        refine EL_callV (Y' := Y_X11_over) (as := [vI (scr sd (wi (x4 + 1))), vI (scr sd (wi (x4 + 2)))]) (st := []) dL_law_1071 lk_RL_154 m_X11_over (by decide) (by omega) (by omega) rfl rfl (Nat.le_of_ble_eq_true rfl) (s_X11_over h) (fun r0 B0 σ_129 h => ?_)
        obtain ⟨r_130, rfl, rfl, h⟩ := h
        refine EL_aload_n dL_law_1074 rfl rfl ?_
        refine EL_aload_n dL_law_1075 rfl rfl ?_
        refine EL_iload dL_law_1076 rfl ?_
        refine EL_ic dL_law_1078 rfl ?_
        refine EL_iadd dL_law_1079 ?_
        obtain ⟨hg0, hg1, h⟩ := h
        refine EL_sld dL_law_1080 hg0 hg1 ?_
        refine EL_aload_n dL_law_1081 rfl rfl ?_
        refine EL_iload dL_law_1082 rfl ?_
        refine EL_ic dL_law_1084 rfl ?_
        refine EL_iadd dL_law_1085 ?_
        obtain ⟨hg0, hg1, h⟩ := h
        refine EL_sld dL_law_1086 hg0 hg1 ?_
        refine EL_callV (Y' := Y_X12_over) (as := [vI (scr sd (wi (x4 + 1))), vI (scr sd (wi (x4 + 2)))]) (st := [vI r_130]) dL_law_1087 lk_RL_157 m_X12_over (by decide) (by omega) (by omega) rfl rfl (Nat.le_of_ble_eq_true rfl) (s_X12_over h) (fun r0 B0 σ_131 h => ?_)
        obtain ⟨r_132, rfl, rfl, h⟩ := h
        refine EL_icmp_eq (tgt := 1454) dL_law_1090 (by decide) (fun hc => ?_) (fun hc => ?_)
        · have h := Eq.mp (if_pos hc) h
          refine EL_iinc (ls' := [some (vR 52 0), some (vR 11 0), some (vR 12 0), some (vR 60 0), some (vI (wi (x4 + 7))), none, none]) dL_law_1454 rfl (by decide) rfl rfl ?_
          refine EL_goto (tgt := 23) dL_law_1457 (by decide) ?_
          exact EL_widen (by omega) (by omega) (hR _ _ h)
        · have h := Eq.mp (if_neg hc) h
          refine EL_ic dL_law_1093 rfl ?_
          exact EL_widen (k' := mc) (n' := ms) (by omega) (by omega) (EL_zret dL_law_1094 rfl (by decide) ⟨_, rfl, rfl, h⟩)
      have h := Eq.mp (if_neg hc) h
      have hc32 := hc
      clear hc
      by_cases hc : (bA (scr sd x4) 63) = 33
      · have h := Eq.mp (if_pos hc) h
        refine EL_tableIn (off := 1055) (tgt := 1095) dL_law_40 (by omega) (by omega) (by rw [hc]; rfl) (by decide) ?_
        refine EL_aload_n dL_law_1095 rfl rfl ?_
        refine EL_aload_n dL_law_1096 rfl rfl ?_
        refine EL_iload dL_law_1097 rfl ?_
        refine EL_ic dL_law_1099 rfl ?_
        refine EL_iadd dL_law_1100 ?_
        obtain ⟨hg0, hg1, h⟩ := h
        refine EL_sld dL_law_1101 hg0 hg1 ?_
        refine EL_aload_n dL_law_1102 rfl rfl ?_
        refine EL_iload dL_law_1103 rfl ?_
        refine EL_ic dL_law_1105 rfl ?_
        refine EL_iadd dL_law_1106 ?_
        obtain ⟨hg0, hg1, h⟩ := h
        refine EL_sld dL_law_1107 hg0 hg1 ?_
        refine EL_aload_n dL_law_1108 rfl rfl ?_
        refine EL_iload dL_law_1109 rfl ?_
        refine EL_ic dL_law_1111 rfl ?_
        refine EL_iadd dL_law_1112 ?_
        obtain ⟨hg0, hg1, h⟩ := h
        refine EL_sld dL_law_1113 hg0 hg1 ?_
        refine EL_if_eq (tgt := 1121) dL_law_1114 (by decide) (fun hc => ?_) (fun hc => ?_)
        · have h := Eq.mp (if_pos hc) h
          refine EL_ic dL_law_1121 rfl ?_
          exact e_P_L_law_J1122 hsd (by omega) (by omega) h3 h4 hR h
        · have h := Eq.mp (if_neg hc) h
          refine EL_ic dL_law_1117 rfl ?_
          refine EL_goto (tgt := 1122) dL_law_1118 (by decide) ?_
          exact e_P_L_law_J1122 hsd (by omega) (by omega) h3 h4 hR h
      have h := Eq.mp (if_neg hc) h
      have hc33 := hc
      clear hc
      by_cases hc : (bA (scr sd x4) 63) = 34
      · have h := Eq.mp (if_pos hc) h
        refine EL_tableIn (off := 1120) (tgt := 1160) dL_law_40 (by omega) (by omega) (by rw [hc]; rfl) (by decide) ?_
        refine EL_aload_n dL_law_1160 rfl rfl ?_
        refine EL_callV (Y' := Y_X11_who) (as := []) (st := []) dL_law_1161 lk_RL_163 m_X11_who (by decide) (by omega) (by omega) rfl rfl (Nat.le_of_ble_eq_true rfl) (s_X11_who h) (fun r0 B0 σ_137 h => ?_)
        obtain ⟨r_138, rfl, rfl, h⟩ := h
        refine EL_aload_n dL_law_1164 rfl rfl ?_
        refine EL_callV (Y' := Y_X12_who) (as := []) (st := [vI r_138]) dL_law_1165 lk_RL_166 m_X12_who (by decide) (by omega) (by omega) rfl rfl (Nat.le_of_ble_eq_true rfl) (s_X12_who h) (fun r0 B0 σ_139 h => ?_)
        obtain ⟨r_140, rfl, rfl, h⟩ := h
        refine EL_icmp_eq (tgt := 1454) dL_law_1168 (by decide) (fun hc => ?_) (fun hc => ?_)
        · have h := Eq.mp (if_pos hc) h
          refine EL_iinc (ls' := [some (vR 52 0), some (vR 11 0), some (vR 12 0), some (vR 60 0), some (vI (wi (x4 + 7))), none, none]) dL_law_1454 rfl (by decide) rfl rfl ?_
          refine EL_goto (tgt := 23) dL_law_1457 (by decide) ?_
          exact EL_widen (by omega) (by omega) (hR _ _ h)
        · have h := Eq.mp (if_neg hc) h
          refine EL_ic dL_law_1171 rfl ?_
          exact EL_widen (k' := mc) (n' := ms) (by omega) (by omega) (EL_zret dL_law_1172 rfl (by decide) ⟨_, rfl, rfl, h⟩)
      have h := Eq.mp (if_neg hc) h
      have hc34 := hc
      clear hc
      by_cases hc : (bA (scr sd x4) 63) = 35
      · have h := Eq.mp (if_pos hc) h
        refine EL_tableIn (off := 1133) (tgt := 1173) dL_law_40 (by omega) (by omega) (by rw [hc]; rfl) (by decide) ?_
        refine EL_aload_n dL_law_1173 rfl rfl ?_
        refine EL_callV (Y' := Y_X11_ask) (as := []) (st := []) dL_law_1174 lk_RL_167 m_X11_ask (by decide) (by omega) (by omega) rfl rfl (Nat.le_of_ble_eq_true rfl) (s_X11_ask h) (fun r0 B0 σ_141 h => ?_)
        obtain ⟨r_142, rfl, rfl, h⟩ := h
        refine EL_aload_n dL_law_1177 rfl rfl ?_
        refine EL_callV (Y' := Y_X12_ask) (as := []) (st := [vI r_142]) dL_law_1178 lk_RL_170 m_X12_ask (by decide) (by omega) (by omega) rfl rfl (Nat.le_of_ble_eq_true rfl) (s_X12_ask h) (fun r0 B0 σ_143 h => ?_)
        obtain ⟨r_144, rfl, rfl, h⟩ := h
        refine EL_icmp_eq (tgt := 1454) dL_law_1181 (by decide) (fun hc => ?_) (fun hc => ?_)
        · have h := Eq.mp (if_pos hc) h
          refine EL_iinc (ls' := [some (vR 52 0), some (vR 11 0), some (vR 12 0), some (vR 60 0), some (vI (wi (x4 + 7))), none, none]) dL_law_1454 rfl (by decide) rfl rfl ?_
          refine EL_goto (tgt := 23) dL_law_1457 (by decide) ?_
          exact EL_widen (by omega) (by omega) (hR _ _ h)
        · have h := Eq.mp (if_neg hc) h
          refine EL_ic dL_law_1184 rfl ?_
          exact EL_widen (k' := mc) (n' := ms) (by omega) (by omega) (EL_zret dL_law_1185 rfl (by decide) ⟨_, rfl, rfl, h⟩)
      have h := Eq.mp (if_neg hc) h
      have hc35 := hc
      clear hc
      by_cases hc : (bA (scr sd x4) 63) = 36
      · have h := Eq.mp (if_pos hc) h
        refine EL_tableIn (off := 1146) (tgt := 1186) dL_law_40 (by omega) (by omega) (by rw [hc]; rfl) (by decide) ?_
        refine EL_aload_n dL_law_1186 rfl rfl ?_
        refine EL_aload_n dL_law_1187 rfl rfl ?_
        refine EL_iload dL_law_1188 rfl ?_
        refine EL_ic dL_law_1190 rfl ?_
        refine EL_iadd dL_law_1191 ?_
        obtain ⟨hg0, hg1, h⟩ := h
        refine EL_sld dL_law_1192 hg0 hg1 ?_
        refine EL_aload_n dL_law_1193 rfl rfl ?_
        refine EL_iload dL_law_1194 rfl ?_
        refine EL_ic dL_law_1196 rfl ?_
        refine EL_iadd dL_law_1197 ?_
        obtain ⟨hg0, hg1, h⟩ := h
        refine EL_sld dL_law_1198 hg0 hg1 ?_
        refine EL_aload_n dL_law_1199 rfl rfl ?_
        refine EL_iload dL_law_1200 rfl ?_
        refine EL_ic dL_law_1202 rfl ?_
        refine EL_iadd dL_law_1203 ?_
        obtain ⟨hg0, hg1, h⟩ := h
        refine EL_sld dL_law_1204 hg0 hg1 ?_
        refine EL_callV (Y' := Y_X11_chance) (as := [vI (scr sd (wi (x4 + 1))), vI (scr sd (wi (x4 + 2))), vI (scr sd (wi (x4 + 3)))]) (st := []) dL_law_1205 lk_RL_171 m_X11_chance (by decide) (by omega) (by omega) rfl rfl (Nat.le_of_ble_eq_true rfl) (s_X11_chance h) (fun r0 B0 σ_145 h => ?_)
        obtain ⟨r_146, rfl, rfl, h⟩ := h
        refine EL_aload_n dL_law_1208 rfl rfl ?_
        refine EL_aload_n dL_law_1209 rfl rfl ?_
        refine EL_iload dL_law_1210 rfl ?_
        refine EL_ic dL_law_1212 rfl ?_
        refine EL_iadd dL_law_1213 ?_
        obtain ⟨hg0, hg1, h⟩ := h
        refine EL_sld dL_law_1214 hg0 hg1 ?_
        refine EL_aload_n dL_law_1215 rfl rfl ?_
        refine EL_iload dL_law_1216 rfl ?_
        refine EL_ic dL_law_1218 rfl ?_
        refine EL_iadd dL_law_1219 ?_
        obtain ⟨hg0, hg1, h⟩ := h
        refine EL_sld dL_law_1220 hg0 hg1 ?_
        refine EL_aload_n dL_law_1221 rfl rfl ?_
        refine EL_iload dL_law_1222 rfl ?_
        refine EL_ic dL_law_1224 rfl ?_
        refine EL_iadd dL_law_1225 ?_
        obtain ⟨hg0, hg1, h⟩ := h
        refine EL_sld dL_law_1226 hg0 hg1 ?_
        refine EL_callV (Y' := Y_X12_chance) (as := [vI (scr sd (wi (x4 + 1))), vI (scr sd (wi (x4 + 2))), vI (scr sd (wi (x4 + 3)))]) (st := [vI r_146]) dL_law_1227 lk_RL_175 m_X12_chance (by decide) (by omega) (by omega) rfl rfl (Nat.le_of_ble_eq_true rfl) (s_X12_chance h) (fun r0 B0 σ_147 h => ?_)
        obtain ⟨r_148, rfl, rfl, h⟩ := h
        refine EL_icmp_eq (tgt := 1454) dL_law_1230 (by decide) (fun hc => ?_) (fun hc => ?_)
        · have h := Eq.mp (if_pos hc) h
          refine EL_iinc (ls' := [some (vR 52 0), some (vR 11 0), some (vR 12 0), some (vR 60 0), some (vI (wi (x4 + 7))), none, none]) dL_law_1454 rfl (by decide) rfl rfl ?_
          refine EL_goto (tgt := 23) dL_law_1457 (by decide) ?_
          exact EL_widen (by omega) (by omega) (hR _ _ h)
        · have h := Eq.mp (if_neg hc) h
          refine EL_ic dL_law_1233 rfl ?_
          exact EL_widen (k' := mc) (n' := ms) (by omega) (by omega) (EL_zret dL_law_1234 rfl (by decide) ⟨_, rfl, rfl, h⟩)
      have h := Eq.mp (if_neg hc) h
      have hc36 := hc
      clear hc
      by_cases hc : (bA (scr sd x4) 63) = 37
      · have h := Eq.mp (if_pos hc) h
        refine EL_tableIn (off := 1195) (tgt := 1235) dL_law_40 (by omega) (by omega) (by rw [hc]; rfl) (by decide) ?_
        refine EL_aload_n dL_law_1235 rfl rfl ?_
        refine EL_aload_n dL_law_1236 rfl rfl ?_
        refine EL_iload dL_law_1237 rfl ?_
        refine EL_ic dL_law_1239 rfl ?_
        refine EL_iadd dL_law_1240 ?_
        obtain ⟨hg0, hg1, h⟩ := h
        refine EL_sld dL_law_1241 hg0 hg1 ?_
        refine EL_aload_n dL_law_1242 rfl rfl ?_
        refine EL_iload dL_law_1243 rfl ?_
        refine EL_ic dL_law_1245 rfl ?_
        refine EL_iadd dL_law_1246 ?_
        obtain ⟨hg0, hg1, h⟩ := h
        refine EL_sld dL_law_1247 hg0 hg1 ?_
        refine EL_aload_n dL_law_1248 rfl rfl ?_
        refine EL_iload dL_law_1249 rfl ?_
        refine EL_ic dL_law_1251 rfl ?_
        refine EL_iadd dL_law_1252 ?_
        obtain ⟨hg0, hg1, h⟩ := h
        refine EL_sld dL_law_1253 hg0 hg1 ?_
        refine EL_aload_n dL_law_1254 rfl rfl ?_
        refine EL_iload dL_law_1255 rfl ?_
        refine EL_ic dL_law_1257 rfl ?_
        refine EL_iadd dL_law_1258 ?_
        obtain ⟨hg0, hg1, h⟩ := h
        refine EL_sld dL_law_1259 hg0 hg1 ?_
        refine EL_aload_n dL_law_1260 rfl rfl ?_
        refine EL_callSW (Y' := Y_L_rests) (as := [vR 11 0, vI (scr sd (wi (x4 + 1))), vI (scr sd (wi (x4 + 2))), vI (scr sd (wi (x4 + 3))), vI (scr sd (wi (x4 + 4))), vR 60 0]) (st := []) dL_law_1261 lk_RL_176 lw_1 lw_2 (by decide) lw_4 lw_5 (by decide) (by omega) (by omega) rfl rfl (Nat.le_of_ble_eq_true rfl) (s_L_rests h) (fun r0 B0 σ_149 h => ?_)
        obtain ⟨r_150, rfl, rfl, h⟩ := h
        refine EL_istore (ls' := [some (vR 52 0), some (vR 11 0), some (vR 12 0), some (vR 60 0), some (vI x4), some (vI r_150), none]) dL_law_1264 (by decide) rfl ?_
        refine EL_aload_n dL_law_1266 rfl rfl ?_
        refine EL_aload_n dL_law_1267 rfl rfl ?_
        refine EL_iload dL_law_1268 rfl ?_
        refine EL_ic dL_law_1270 rfl ?_
        refine EL_iadd dL_law_1271 ?_
        obtain ⟨hg0, hg1, h⟩ := h
        refine EL_sld dL_law_1272 hg0 hg1 ?_
        refine EL_aload_n dL_law_1273 rfl rfl ?_
        refine EL_iload dL_law_1274 rfl ?_
        refine EL_ic dL_law_1276 rfl ?_
        refine EL_iadd dL_law_1277 ?_
        obtain ⟨hg0, hg1, h⟩ := h
        refine EL_sld dL_law_1278 hg0 hg1 ?_
        refine EL_aload_n dL_law_1279 rfl rfl ?_
        refine EL_iload dL_law_1280 rfl ?_
        refine EL_ic dL_law_1282 rfl ?_
        refine EL_iadd dL_law_1283 ?_
        obtain ⟨hg0, hg1, h⟩ := h
        refine EL_sld dL_law_1284 hg0 hg1 ?_
        refine EL_aload_n dL_law_1285 rfl rfl ?_
        refine EL_iload dL_law_1286 rfl ?_
        refine EL_ic dL_law_1288 rfl ?_
        refine EL_iadd dL_law_1289 ?_
        obtain ⟨hg0, hg1, h⟩ := h
        refine EL_sld dL_law_1290 hg0 hg1 ?_
        refine EL_callV (Y' := Y_X12_rests) (as := [vI (scr sd (wi (x4 + 1))), vI (scr sd (wi (x4 + 2))), vI (scr sd (wi (x4 + 3))), vI (scr sd (wi (x4 + 4)))]) (st := []) dL_law_1291 lk_RL_181 m_X12_rests (by decide) (by omega) (by omega) rfl rfl (Nat.le_of_ble_eq_true rfl) (s_X12_rests h) (fun r0 B0 σ_151 h => ?_)
        obtain ⟨r_152, rfl, rfl, h⟩ := h
        refine EL_istore (ls' := [some (vR 52 0), some (vR 11 0), some (vR 12 0), some (vR 60 0), some (vI x4), some (vI r_150), some (vI r_152)]) dL_law_1294 (by decide) rfl ?_
        refine EL_aload_n dL_law_1296 rfl rfl ?_
        refine EL_callV (Y' := Y_X12_thrown) (as := []) (st := []) dL_law_1297 lk_RL_182 m_X12_thrown (by decide) (by omega) (by omega) rfl rfl (Nat.le_of_ble_eq_true rfl) (s_X12_thrown h) (fun r0 B0 σ_153 h => ?_)
        obtain ⟨r_154, rfl, rfl, h⟩ := h
        refine EL_iload dL_law_1300 rfl ?_
        refine EL_icmp_eq (tgt := 1307) dL_law_1302 (by decide) (fun hc => ?_) (fun hc => ?_)
        · have h := Eq.mp (if_pos hc) h
          refine EL_iload dL_law_1307 rfl ?_
          refine EL_if_ne (tgt := 1324) dL_law_1309 (by decide) (fun hc => ?_) (fun hc => ?_)
          · have h := Eq.mp (if_neg hc) h
            refine EL_wk2 [some (vR 52 0), some (vR 11 0), some (vR 12 0), some (vR 60 0), some (vI x4), none, none] ⟨rfl, ⟨rfl, ⟨rfl, ⟨rfl, ⟨rfl, trivial⟩⟩⟩⟩⟩ ?_
            exact e_P_L_law_J1324 hsd (by omega) (by omega) h3 h4 hR h
          · have h := Eq.mp (if_pos hc) h
            refine EL_aload_n dL_law_1312 rfl rfl ?_
            refine EL_ic dL_law_1313 rfl ?_
            refine EL_lald dL_law_1314 sh_60 (by decide) (by decide) ?_
            refine EL_iload dL_law_1315 rfl ?_
            refine EL_i2l dL_law_1317 ?_
            refine EL_lcmp dL_law_1318 ?_
            refine EL_if_eq (tgt := 1324) dL_law_1319 (by decide) (fun hc => ?_) (fun hc => ?_)
            · have h := Eq.mp (if_pos hc) h
              refine EL_wk2 [some (vR 52 0), some (vR 11 0), some (vR 12 0), some (vR 60 0), some (vI x4), none, none] ⟨rfl, ⟨rfl, ⟨rfl, ⟨rfl, ⟨rfl, trivial⟩⟩⟩⟩⟩ ?_
              exact e_P_L_law_J1324 hsd (by omega) (by omega) h3 h4 hR h
            · have h := Eq.mp (if_neg hc) h
              refine EL_ic dL_law_1322 rfl ?_
              exact EL_widen (k' := mc) (n' := ms) (by omega) (by omega) (EL_zret dL_law_1323 rfl (by decide) ⟨_, rfl, rfl, h⟩)
        · have h := Eq.mp (if_neg hc) h
          refine EL_ic dL_law_1305 rfl ?_
          exact EL_widen (k' := mc) (n' := ms) (by omega) (by omega) (EL_zret dL_law_1306 rfl (by decide) ⟨_, rfl, rfl, h⟩)
      have h := Eq.mp (if_neg hc) h
      have hc37 := hc
      clear hc
      by_cases hc : (bA (scr sd x4) 63) = 38
      · have h := Eq.mp (if_pos hc) h
        refine EL_tableIn (off := 1287) (tgt := 1327) dL_law_40 (by omega) (by omega) (by rw [hc]; rfl) (by decide) ?_
        refine EL_aload_n dL_law_1327 rfl rfl ?_
        refine EL_aload_n dL_law_1328 rfl rfl ?_
        refine EL_iload dL_law_1329 rfl ?_
        refine EL_ic dL_law_1331 rfl ?_
        refine EL_iadd dL_law_1332 ?_
        obtain ⟨hg0, hg1, h⟩ := h
        refine EL_sld dL_law_1333 hg0 hg1 ?_
        refine EL_aload_n dL_law_1334 rfl rfl ?_
        refine EL_iload dL_law_1335 rfl ?_
        refine EL_ic dL_law_1337 rfl ?_
        refine EL_iadd dL_law_1338 ?_
        obtain ⟨hg0, hg1, h⟩ := h
        refine EL_sld dL_law_1339 hg0 hg1 ?_
        refine EL_aload_n dL_law_1340 rfl rfl ?_
        refine EL_iload dL_law_1341 rfl ?_
        refine EL_ic dL_law_1343 rfl ?_
        refine EL_iadd dL_law_1344 ?_
        obtain ⟨hg0, hg1, h⟩ := h
        refine EL_sld dL_law_1345 hg0 hg1 ?_
        refine EL_callV (Y' := Y_X11_weeks) (as := [vI (scr sd (wi (x4 + 1))), vI (scr sd (wi (x4 + 2))), vI (scr sd (wi (x4 + 3)))]) (st := []) dL_law_1346 lk_RL_185 m_X11_weeks (by decide) (by omega) (by omega) rfl rfl (Nat.le_of_ble_eq_true rfl) (s_X11_weeks h) (fun r0 B0 σ_155 h => ?_)
        obtain ⟨r_156, rfl, rfl, h⟩ := h
        refine EL_aload_n dL_law_1349 rfl rfl ?_
        refine EL_aload_n dL_law_1350 rfl rfl ?_
        refine EL_iload dL_law_1351 rfl ?_
        refine EL_ic dL_law_1353 rfl ?_
        refine EL_iadd dL_law_1354 ?_
        obtain ⟨hg0, hg1, h⟩ := h
        refine EL_sld dL_law_1355 hg0 hg1 ?_
        refine EL_aload_n dL_law_1356 rfl rfl ?_
        refine EL_iload dL_law_1357 rfl ?_
        refine EL_ic dL_law_1359 rfl ?_
        refine EL_iadd dL_law_1360 ?_
        obtain ⟨hg0, hg1, h⟩ := h
        refine EL_sld dL_law_1361 hg0 hg1 ?_
        refine EL_aload_n dL_law_1362 rfl rfl ?_
        refine EL_iload dL_law_1363 rfl ?_
        refine EL_ic dL_law_1365 rfl ?_
        refine EL_iadd dL_law_1366 ?_
        obtain ⟨hg0, hg1, h⟩ := h
        refine EL_sld dL_law_1367 hg0 hg1 ?_
        refine EL_callV (Y' := Y_X12_weeks) (as := [vI (scr sd (wi (x4 + 1))), vI (scr sd (wi (x4 + 2))), vI (scr sd (wi (x4 + 3)))]) (st := [vI r_156]) dL_law_1368 lk_RL_188 m_X12_weeks (by decide) (by omega) (by omega) rfl rfl (Nat.le_of_ble_eq_true rfl) (s_X12_weeks h) (fun r0 B0 σ_157 h => ?_)
        obtain ⟨r_158, rfl, rfl, h⟩ := h
        refine EL_icmp_eq (tgt := 1454) dL_law_1371 (by decide) (fun hc => ?_) (fun hc => ?_)
        · have h := Eq.mp (if_pos hc) h
          refine EL_iinc (ls' := [some (vR 52 0), some (vR 11 0), some (vR 12 0), some (vR 60 0), some (vI (wi (x4 + 7))), none, none]) dL_law_1454 rfl (by decide) rfl rfl ?_
          refine EL_goto (tgt := 23) dL_law_1457 (by decide) ?_
          exact EL_widen (by omega) (by omega) (hR _ _ h)
        · have h := Eq.mp (if_neg hc) h
          refine EL_ic dL_law_1374 rfl ?_
          exact EL_widen (k' := mc) (n' := ms) (by omega) (by omega) (EL_zret dL_law_1375 rfl (by decide) ⟨_, rfl, rfl, h⟩)
      have h := Eq.mp (if_neg hc) h
      have hc38 := hc
      clear hc
      by_cases hc : (bA (scr sd x4) 63) = 39
      · have h := Eq.mp (if_pos hc) h
        refine EL_tableIn (off := 1336) (tgt := 1376) dL_law_40 (by omega) (by omega) (by rw [hc]; rfl) (by decide) ?_
        refine EL_aload_n dL_law_1376 rfl rfl ?_
        refine EL_aload_n dL_law_1377 rfl rfl ?_
        refine EL_iload dL_law_1378 rfl ?_
        refine EL_ic dL_law_1380 rfl ?_
        refine EL_iadd dL_law_1381 ?_
        obtain ⟨hg0, hg1, h⟩ := h
        refine EL_sld dL_law_1382 hg0 hg1 ?_
        refine EL_aload_n dL_law_1383 rfl rfl ?_
        refine EL_iload dL_law_1384 rfl ?_
        refine EL_ic dL_law_1386 rfl ?_
        refine EL_iadd dL_law_1387 ?_
        obtain ⟨hg0, hg1, h⟩ := h
        refine EL_sld dL_law_1388 hg0 hg1 ?_
        refine EL_if_eq (tgt := 1396) dL_law_1389 (by decide) (fun hc => ?_) (fun hc => ?_)
        · have h := Eq.mp (if_pos hc) h
          refine EL_ic dL_law_1396 rfl ?_
          exact e_P_L_law_J1397 hsd (by omega) (by omega) h3 h4 hR h
        · have h := Eq.mp (if_neg hc) h
          refine EL_ic dL_law_1392 rfl ?_
          refine EL_goto (tgt := 1397) dL_law_1393 (by decide) ?_
          exact e_P_L_law_J1397 hsd (by omega) (by omega) h3 h4 hR h
      have h := Eq.mp (if_neg hc) h
      have hc39 := hc
      clear hc
      by_cases hc : (bA (scr sd x4) 63) = 40
      · have h := Eq.mp (if_pos hc) h
        refine EL_tableIn (off := 1389) (tgt := 1429) dL_law_40 (by omega) (by omega) (by rw [hc]; rfl) (by decide) ?_
        refine EL_aload_n dL_law_1429 rfl rfl ?_
        refine EL_aload_n dL_law_1430 rfl rfl ?_
        refine EL_iload dL_law_1431 rfl ?_
        refine EL_ic dL_law_1433 rfl ?_
        refine EL_iadd dL_law_1434 ?_
        obtain ⟨hg0, hg1, h⟩ := h
        refine EL_sld dL_law_1435 hg0 hg1 ?_
        refine EL_callV (Y' := Y_X11_count) (as := [vI (scr sd (wi (x4 + 1)))]) (st := []) dL_law_1436 lk_RL_194 m_X11_count (by decide) (by omega) (by omega) rfl rfl (Nat.le_of_ble_eq_true rfl) (s_X11_count h) (fun r0 B0 σ_163 h => ?_)
        obtain ⟨r_164, rfl, rfl, h⟩ := h
        refine EL_aload_n dL_law_1439 rfl rfl ?_
        refine EL_aload_n dL_law_1440 rfl rfl ?_
        refine EL_iload dL_law_1441 rfl ?_
        refine EL_ic dL_law_1443 rfl ?_
        refine EL_iadd dL_law_1444 ?_
        obtain ⟨hg0, hg1, h⟩ := h
        refine EL_sld dL_law_1445 hg0 hg1 ?_
        refine EL_callV (Y' := Y_X12_count) (as := [vI (scr sd (wi (x4 + 1)))]) (st := [vI r_164]) dL_law_1446 lk_RL_197 m_X12_count (by decide) (by omega) (by omega) rfl rfl (Nat.le_of_ble_eq_true rfl) (s_X12_count h) (fun r0 B0 σ_165 h => ?_)
        obtain ⟨r_166, rfl, rfl, h⟩ := h
        refine EL_icmp_eq (tgt := 1454) dL_law_1449 (by decide) (fun hc => ?_) (fun hc => ?_)
        · have h := Eq.mp (if_pos hc) h
          refine EL_iinc (ls' := [some (vR 52 0), some (vR 11 0), some (vR 12 0), some (vR 60 0), some (vI (wi (x4 + 7))), none, none]) dL_law_1454 rfl (by decide) rfl rfl ?_
          refine EL_goto (tgt := 23) dL_law_1457 (by decide) ?_
          exact EL_widen (by omega) (by omega) (hR _ _ h)
        · have h := Eq.mp (if_neg hc) h
          refine EL_ic dL_law_1452 rfl ?_
          exact EL_widen (k' := mc) (n' := ms) (by omega) (by omega) (EL_zret dL_law_1453 rfl (by decide) ⟨_, rfl, rfl, h⟩)
      have h := Eq.mp (if_neg hc) h
      have hc40 := hc
      clear hc
      refine EL_tableOut (tgt := 1454) dL_law_40 (by omega) (by decide) ?_
      refine EL_iinc (ls' := [some (vR 52 0), some (vR 11 0), some (vR 12 0), some (vR 60 0), some (vI (wi (x4 + 7))), none, none]) dL_law_1454 rfl (by decide) rfl rfl ?_
      refine EL_goto (tgt := 23) dL_law_1457 (by decide) ?_
      exact EL_widen (by omega) (by omega) (hR _ _ h)

theorem dL_law_950 : decode cL_law 950 = .ok (.iconst 1, 1) := by decide +kernel
theorem dL_law_951 : decode cL_law 951 = .ok (.iadd, 1) := by decide +kernel
theorem dL_law_952 : decode cL_law 952 = .ok (.iaload, 1) := by decide +kernel
theorem dL_law_953 : decode cL_law 953 = .ok (.invokevirtual 121, 3) := by decide +kernel
theorem dL_law_956 : decode cL_law 956 = .ok (.aload_n 2, 1) := by decide +kernel
theorem dL_law_957 : decode cL_law 957 = .ok (.aload_n 0, 1) := by decide +kernel
theorem dL_law_958 : decode cL_law 958 = .ok (.iload 4, 2) := by decide +kernel
theorem dL_law_960 : decode cL_law 960 = .ok (.iconst 1, 1) := by decide +kernel
theorem dL_law_961 : decode cL_law 961 = .ok (.iadd, 1) := by decide +kernel
theorem dL_law_962 : decode cL_law 962 = .ok (.iaload, 1) := by decide +kernel
theorem dL_law_963 : decode cL_law 963 = .ok (.invokevirtual 125, 3) := by decide +kernel
theorem dL_law_966 : decode cL_law 966 = .ok (.lcmp, 1) := by decide +kernel
theorem dL_law_967 : decode cL_law 967 = .ok (.ifCond .eq 723, 3) := by decide +kernel
theorem dL_law_970 : decode cL_law 970 = .ok (.iconst 0, 1) := by decide +kernel
theorem dL_law_971 : decode cL_law 971 = .ok (.ireturn, 1) := by decide +kernel
theorem dL_law_972 : decode cL_law 972 = .ok (.aload_n 1, 1) := by decide +kernel
theorem dL_law_973 : decode cL_law 973 = .ok (.aload_n 0, 1) := by decide +kernel
theorem dL_law_974 : decode cL_law 974 = .ok (.iload 4, 2) := by decide +kernel
theorem dL_law_976 : decode cL_law 976 = .ok (.iconst 1, 1) := by decide +kernel
theorem dL_law_977 : decode cL_law 977 = .ok (.iadd, 1) := by decide +kernel
theorem dL_law_978 : decode cL_law 978 = .ok (.iaload, 1) := by decide +kernel
theorem dL_law_979 : decode cL_law 979 = .ok (.aload_n 0, 1) := by decide +kernel
theorem dL_law_980 : decode cL_law 980 = .ok (.iload 4, 2) := by decide +kernel
theorem dL_law_982 : decode cL_law 982 = .ok (.iconst 2, 1) := by decide +kernel
theorem dL_law_983 : decode cL_law 983 = .ok (.iadd, 1) := by decide +kernel
theorem dL_law_984 : decode cL_law 984 = .ok (.iaload, 1) := by decide +kernel
theorem dL_law_985 : decode cL_law 985 = .ok (.invokevirtual 126, 3) := by decide +kernel
theorem dL_law_988 : decode cL_law 988 = .ok (.aload_n 2, 1) := by decide +kernel
theorem dL_law_989 : decode cL_law 989 = .ok (.aload_n 0, 1) := by decide +kernel
theorem dL_law_990 : decode cL_law 990 = .ok (.iload 4, 2) := by decide +kernel
theorem dL_law_992 : decode cL_law 992 = .ok (.iconst 1, 1) := by decide +kernel
theorem dL_law_993 : decode cL_law 993 = .ok (.iadd, 1) := by decide +kernel
theorem dL_law_994 : decode cL_law 994 = .ok (.iaload, 1) := by decide +kernel
theorem dL_law_995 : decode cL_law 995 = .ok (.aload_n 0, 1) := by decide +kernel
theorem dL_law_996 : decode cL_law 996 = .ok (.iload 4, 2) := by decide +kernel
theorem dL_law_998 : decode cL_law 998 = .ok (.iconst 2, 1) := by decide +kernel
theorem dL_law_999 : decode cL_law 999 = .ok (.iadd, 1) := by decide +kernel
theorem dL_law_1000 : decode cL_law 1000 = .ok (.iaload, 1) := by decide +kernel
theorem dL_law_1001 : decode cL_law 1001 = .ok (.invokevirtual 129, 3) := by decide +kernel
theorem dL_law_1004 : decode cL_law 1004 = .ok (.if_icmp .eq 686, 3) := by decide +kernel
theorem dL_law_1007 : decode cL_law 1007 = .ok (.iconst 0, 1) := by decide +kernel
theorem dL_law_1008 : decode cL_law 1008 = .ok (.ireturn, 1) := by decide +kernel
theorem dL_law_1009 : decode cL_law 1009 = .ok (.aload_n 1, 1) := by decide +kernel
theorem dL_law_1010 : decode cL_law 1010 = .ok (.aload_n 0, 1) := by decide +kernel
theorem dL_law_1011 : decode cL_law 1011 = .ok (.iload 4, 2) := by decide +kernel
theorem dL_law_1013 : decode cL_law 1013 = .ok (.iconst 1, 1) := by decide +kernel
theorem dL_law_1014 : decode cL_law 1014 = .ok (.iadd, 1) := by decide +kernel
theorem dL_law_1015 : decode cL_law 1015 = .ok (.iaload, 1) := by decide +kernel
theorem dL_law_1016 : decode cL_law 1016 = .ok (.aload_n 0, 1) := by decide +kernel
theorem dL_law_1017 : decode cL_law 1017 = .ok (.iload 4, 2) := by decide +kernel
theorem dL_law_1019 : decode cL_law 1019 = .ok (.iconst 2, 1) := by decide +kernel
theorem dL_law_1020 : decode cL_law 1020 = .ok (.iadd, 1) := by decide +kernel
theorem dL_law_1021 : decode cL_law 1021 = .ok (.iaload, 1) := by decide +kernel
theorem dL_law_1022 : decode cL_law 1022 = .ok (.invokevirtual 130, 3) := by decide +kernel
theorem dL_law_1025 : decode cL_law 1025 = .ok (.aload_n 2, 1) := by decide +kernel
theorem dL_law_1026 : decode cL_law 1026 = .ok (.aload_n 0, 1) := by decide +kernel
theorem dL_law_1027 : decode cL_law 1027 = .ok (.iload 4, 2) := by decide +kernel
theorem dL_law_1029 : decode cL_law 1029 = .ok (.iconst 1, 1) := by decide +kernel
theorem dL_law_1030 : decode cL_law 1030 = .ok (.iadd, 1) := by decide +kernel
theorem dL_law_1031 : decode cL_law 1031 = .ok (.iaload, 1) := by decide +kernel
theorem dL_law_1032 : decode cL_law 1032 = .ok (.aload_n 0, 1) := by decide +kernel
theorem dL_law_1033 : decode cL_law 1033 = .ok (.iload 4, 2) := by decide +kernel
theorem dL_law_1035 : decode cL_law 1035 = .ok (.iconst 2, 1) := by decide +kernel
theorem dL_law_1036 : decode cL_law 1036 = .ok (.iadd, 1) := by decide +kernel
theorem dL_law_1037 : decode cL_law 1037 = .ok (.iaload, 1) := by decide +kernel
theorem dL_law_1038 : decode cL_law 1038 = .ok (.invokevirtual 133, 3) := by decide +kernel
theorem dL_law_1041 : decode cL_law 1041 = .ok (.if_icmp .eq 649, 3) := by decide +kernel
theorem dL_law_1044 : decode cL_law 1044 = .ok (.iconst 0, 1) := by decide +kernel
theorem dL_law_1045 : decode cL_law 1045 = .ok (.ireturn, 1) := by decide +kernel
theorem dL_law_1046 : decode cL_law 1046 = .ok (.aload_n 1, 1) := by decide +kernel
theorem dL_law_1047 : decode cL_law 1047 = .ok (.aload_n 0, 1) := by decide +kernel
theorem dL_law_1048 : decode cL_law 1048 = .ok (.iload 4, 2) := by decide +kernel
theorem dL_law_1050 : decode cL_law 1050 = .ok (.iconst 1, 1) := by decide +kernel
theorem dL_law_1051 : decode cL_law 1051 = .ok (.iadd, 1) := by decide +kernel
theorem dL_law_1052 : decode cL_law 1052 = .ok (.iaload, 1) := by decide +kernel
theorem dL_law_1053 : decode cL_law 1053 = .ok (.invokevirtual 134, 3) := by decide +kernel
theorem dL_law_1056 : decode cL_law 1056 = .ok (.aload_n 2, 1) := by decide +kernel
theorem dL_law_1057 : decode cL_law 1057 = .ok (.aload_n 0, 1) := by decide +kernel
theorem dL_law_1058 : decode cL_law 1058 = .ok (.iload 4, 2) := by decide +kernel
theorem dL_law_1060 : decode cL_law 1060 = .ok (.iconst 1, 1) := by decide +kernel
theorem dL_law_1061 : decode cL_law 1061 = .ok (.iadd, 1) := by decide +kernel
theorem dL_law_1062 : decode cL_law 1062 = .ok (.iaload, 1) := by decide +kernel
theorem dL_law_1063 : decode cL_law 1063 = .ok (.invokevirtual 137, 3) := by decide +kernel
theorem dL_law_1066 : decode cL_law 1066 = .ok (.if_icmp .eq 624, 3) := by decide +kernel
theorem dL_law_1069 : decode cL_law 1069 = .ok (.iconst 0, 1) := by decide +kernel
theorem dL_law_1070 : decode cL_law 1070 = .ok (.ireturn, 1) := by decide +kernel
theorem dL_law_1071 : decode cL_law 1071 = .ok (.aload_n 1, 1) := by decide +kernel
theorem dL_law_1072 : decode cL_law 1072 = .ok (.aload_n 0, 1) := by decide +kernel
theorem dL_law_1073 : decode cL_law 1073 = .ok (.iload 4, 2) := by decide +kernel
theorem dL_law_1075 : decode cL_law 1075 = .ok (.iconst 1, 1) := by decide +kernel
theorem dL_law_1076 : decode cL_law 1076 = .ok (.iadd, 1) := by decide +kernel
theorem dL_law_1077 : decode cL_law 1077 = .ok (.iaload, 1) := by decide +kernel
theorem dL_law_1078 : decode cL_law 1078 = .ok (.invokevirtual 138, 3) := by decide +kernel
theorem dL_law_1081 : decode cL_law 1081 = .ok (.aload_n 2, 1) := by decide +kernel
theorem dL_law_1082 : decode cL_law 1082 = .ok (.aload_n 0, 1) := by decide +kernel
theorem dL_law_1083 : decode cL_law 1083 = .ok (.iload 4, 2) := by decide +kernel
theorem dL_law_1085 : decode cL_law 1085 = .ok (.iconst 1, 1) := by decide +kernel
theorem dL_law_1086 : decode cL_law 1086 = .ok (.iadd, 1) := by decide +kernel
theorem dL_law_1087 : decode cL_law 1087 = .ok (.iaload, 1) := by decide +kernel
theorem dL_law_1088 : decode cL_law 1088 = .ok (.invokevirtual 141, 3) := by decide +kernel
theorem dL_law_1091 : decode cL_law 1091 = .ok (.if_icmp .eq 599, 3) := by decide +kernel
theorem dL_law_1094 : decode cL_law 1094 = .ok (.iconst 0, 1) := by decide +kernel
theorem dL_law_1095 : decode cL_law 1095 = .ok (.ireturn, 1) := by decide +kernel
theorem dL_law_1096 : decode cL_law 1096 = .ok (.aload_n 1, 1) := by decide +kernel
theorem dL_law_1097 : decode cL_law 1097 = .ok (.invokevirtual 142, 3) := by decide +kernel
theorem dL_law_1100 : decode cL_law 1100 = .ok (.aload_n 2, 1) := by decide +kernel
theorem dL_law_1101 : decode cL_law 1101 = .ok (.invokevirtual 145, 3) := by decide +kernel
theorem dL_law_1104 : decode cL_law 1104 = .ok (.if_icmp .eq 586, 3) := by decide +kernel
theorem dL_law_1107 : decode cL_law 1107 = .ok (.iconst 0, 1) := by decide +kernel
theorem dL_law_1108 : decode cL_law 1108 = .ok (.ireturn, 1) := by decide +kernel
theorem dL_law_1109 : decode cL_law 1109 = .ok (.aload_n 1, 1) := by decide +kernel
theorem dL_law_1110 : decode cL_law 1110 = .ok (.invokevirtual 146, 3) := by decide +kernel
theorem dL_law_1113 : decode cL_law 1113 = .ok (.aload_n 2, 1) := by decide +kernel
theorem dL_law_1114 : decode cL_law 1114 = .ok (.invokevirtual 149, 3) := by decide +kernel
theorem dL_law_1117 : decode cL_law 1117 = .ok (.if_icmp .eq 573, 3) := by decide +kernel
theorem dL_law_1120 : decode cL_law 1120 = .ok (.iconst 0, 1) := by decide +kernel
theorem dL_law_1121 : decode cL_law 1121 = .ok (.ireturn, 1) := by decide +kernel
theorem dL_law_1122 : decode cL_law 1122 = .ok (.aload_n 1, 1) := by decide +kernel
theorem dL_law_1123 : decode cL_law 1123 = .ok (.invokevirtual 150, 3) := by decide +kernel
theorem dL_law_1126 : decode cL_law 1126 = .ok (.aload_n 2, 1) := by decide +kernel
theorem dL_law_1127 : decode cL_law 1127 = .ok (.invokevirtual 153, 3) := by decide +kernel
theorem dL_law_1130 : decode cL_law 1130 = .ok (.if_icmp .eq 560, 3) := by decide +kernel
theorem dL_law_1133 : decode cL_law 1133 = .ok (.iconst 0, 1) := by decide +kernel
theorem dL_law_1134 : decode cL_law 1134 = .ok (.ireturn, 1) := by decide +kernel
theorem dL_law_1135 : decode cL_law 1135 = .ok (.aload_n 1, 1) := by decide +kernel
theorem dL_law_1136 : decode cL_law 1136 = .ok (.aload_n 0, 1) := by decide +kernel
theorem dL_law_1137 : decode cL_law 1137 = .ok (.iload 4, 2) := by decide +kernel
theorem dL_law_1139 : decode cL_law 1139 = .ok (.iconst 1, 1) := by decide +kernel
theorem dL_law_1140 : decode cL_law 1140 = .ok (.iadd, 1) := by decide +kernel
theorem dL_law_1141 : decode cL_law 1141 = .ok (.iaload, 1) := by decide +kernel
theorem dL_law_1142 : decode cL_law 1142 = .ok (.invokevirtual 154, 3) := by decide +kernel
theorem dL_law_1145 : decode cL_law 1145 = .ok (.aload_n 2, 1) := by decide +kernel
theorem dL_law_1146 : decode cL_law 1146 = .ok (.aload_n 0, 1) := by decide +kernel
theorem dL_law_1147 : decode cL_law 1147 = .ok (.iload 4, 2) := by decide +kernel
theorem dL_law_1149 : decode cL_law 1149 = .ok (.iconst 1, 1) := by decide +kernel
theorem dL_law_1150 : decode cL_law 1150 = .ok (.iadd, 1) := by decide +kernel
theorem dL_law_1151 : decode cL_law 1151 = .ok (.iaload, 1) := by decide +kernel
theorem dL_law_1152 : decode cL_law 1152 = .ok (.invokevirtual 157, 3) := by decide +kernel
theorem dL_law_1155 : decode cL_law 1155 = .ok (.if_icmp .eq 535, 3) := by decide +kernel
theorem dL_law_1158 : decode cL_law 1158 = .ok (.iconst 0, 1) := by decide +kernel
theorem dL_law_1159 : decode cL_law 1159 = .ok (.ireturn, 1) := by decide +kernel
theorem dL_law_1160 : decode cL_law 1160 = .ok (.aload_n 1, 1) := by decide +kernel
theorem dL_law_1161 : decode cL_law 1161 = .ok (.aload_n 0, 1) := by decide +kernel
theorem dL_law_1162 : decode cL_law 1162 = .ok (.iload 4, 2) := by decide +kernel
theorem dL_law_1164 : decode cL_law 1164 = .ok (.iconst 1, 1) := by decide +kernel
theorem dL_law_1165 : decode cL_law 1165 = .ok (.iadd, 1) := by decide +kernel
theorem dL_law_1166 : decode cL_law 1166 = .ok (.iaload, 1) := by decide +kernel
theorem dL_law_1167 : decode cL_law 1167 = .ok (.aload_n 0, 1) := by decide +kernel
theorem dL_law_1168 : decode cL_law 1168 = .ok (.iload 4, 2) := by decide +kernel
theorem dL_law_1170 : decode cL_law 1170 = .ok (.iconst 2, 1) := by decide +kernel
theorem dL_law_1171 : decode cL_law 1171 = .ok (.iadd, 1) := by decide +kernel
theorem dL_law_1172 : decode cL_law 1172 = .ok (.iaload, 1) := by decide +kernel
theorem dL_law_1173 : decode cL_law 1173 = .ok (.invokevirtual 158, 3) := by decide +kernel
theorem dL_law_1176 : decode cL_law 1176 = .ok (.aload_n 2, 1) := by decide +kernel
theorem dL_law_1177 : decode cL_law 1177 = .ok (.aload_n 0, 1) := by decide +kernel
theorem dL_law_1178 : decode cL_law 1178 = .ok (.iload 4, 2) := by decide +kernel
theorem dL_law_1180 : decode cL_law 1180 = .ok (.iconst 1, 1) := by decide +kernel
theorem dL_law_1181 : decode cL_law 1181 = .ok (.iadd, 1) := by decide +kernel
theorem dL_law_1182 : decode cL_law 1182 = .ok (.iaload, 1) := by decide +kernel
theorem dL_law_1183 : decode cL_law 1183 = .ok (.aload_n 0, 1) := by decide +kernel
theorem dL_law_1184 : decode cL_law 1184 = .ok (.iload 4, 2) := by decide +kernel
theorem dL_law_1186 : decode cL_law 1186 = .ok (.iconst 2, 1) := by decide +kernel
theorem dL_law_1187 : decode cL_law 1187 = .ok (.iadd, 1) := by decide +kernel
theorem dL_law_1188 : decode cL_law 1188 = .ok (.iaload, 1) := by decide +kernel
theorem dL_law_1189 : decode cL_law 1189 = .ok (.invokevirtual 161, 3) := by decide +kernel
theorem dL_law_1192 : decode cL_law 1192 = .ok (.if_icmp .eq 498, 3) := by decide +kernel
theorem dL_law_1195 : decode cL_law 1195 = .ok (.iconst 0, 1) := by decide +kernel
theorem dL_law_1196 : decode cL_law 1196 = .ok (.ireturn, 1) := by decide +kernel
theorem dL_law_1197 : decode cL_law 1197 = .ok (.aload_n 1, 1) := by decide +kernel
theorem dL_law_1198 : decode cL_law 1198 = .ok (.aload_n 0, 1) := by decide +kernel
theorem dL_law_1199 : decode cL_law 1199 = .ok (.iload 4, 2) := by decide +kernel
theorem dL_law_1201 : decode cL_law 1201 = .ok (.iconst 1, 1) := by decide +kernel
theorem dL_law_1202 : decode cL_law 1202 = .ok (.iadd, 1) := by decide +kernel
theorem dL_law_1203 : decode cL_law 1203 = .ok (.iaload, 1) := by decide +kernel
theorem dL_law_1204 : decode cL_law 1204 = .ok (.aload_n 0, 1) := by decide +kernel
theorem dL_law_1205 : decode cL_law 1205 = .ok (.iload 4, 2) := by decide +kernel
theorem dL_law_1207 : decode cL_law 1207 = .ok (.iconst 2, 1) := by decide +kernel
theorem dL_law_1208 : decode cL_law 1208 = .ok (.iadd, 1) := by decide +kernel
theorem dL_law_1209 : decode cL_law 1209 = .ok (.iaload, 1) := by decide +kernel
theorem dL_law_1210 : decode cL_law 1210 = .ok (.invokevirtual 162, 3) := by decide +kernel
theorem dL_law_1213 : decode cL_law 1213 = .ok (.aload_n 2, 1) := by decide +kernel
theorem dL_law_1214 : decode cL_law 1214 = .ok (.aload_n 0, 1) := by decide +kernel
theorem dL_law_1215 : decode cL_law 1215 = .ok (.iload 4, 2) := by decide +kernel
theorem dL_law_1217 : decode cL_law 1217 = .ok (.iconst 1, 1) := by decide +kernel
theorem dL_law_1218 : decode cL_law 1218 = .ok (.iadd, 1) := by decide +kernel
theorem dL_law_1219 : decode cL_law 1219 = .ok (.iaload, 1) := by decide +kernel
theorem dL_law_1220 : decode cL_law 1220 = .ok (.aload_n 0, 1) := by decide +kernel
theorem dL_law_1221 : decode cL_law 1221 = .ok (.iload 4, 2) := by decide +kernel
theorem dL_law_1223 : decode cL_law 1223 = .ok (.iconst 2, 1) := by decide +kernel
theorem dL_law_1224 : decode cL_law 1224 = .ok (.iadd, 1) := by decide +kernel
theorem dL_law_1225 : decode cL_law 1225 = .ok (.iaload, 1) := by decide +kernel
theorem dL_law_1226 : decode cL_law 1226 = .ok (.invokevirtual 165, 3) := by decide +kernel
theorem dL_law_1229 : decode cL_law 1229 = .ok (.if_icmp .eq 461, 3) := by decide +kernel
theorem dL_law_1232 : decode cL_law 1232 = .ok (.iconst 0, 1) := by decide +kernel
theorem dL_law_1233 : decode cL_law 1233 = .ok (.ireturn, 1) := by decide +kernel
theorem dL_law_1234 : decode cL_law 1234 = .ok (.aload_n 1, 1) := by decide +kernel
theorem dL_law_1235 : decode cL_law 1235 = .ok (.aload_n 0, 1) := by decide +kernel
theorem dL_law_1236 : decode cL_law 1236 = .ok (.iload 4, 2) := by decide +kernel
theorem dL_law_1238 : decode cL_law 1238 = .ok (.iconst 1, 1) := by decide +kernel
theorem dL_law_1239 : decode cL_law 1239 = .ok (.iadd, 1) := by decide +kernel
theorem dL_law_1240 : decode cL_law 1240 = .ok (.iaload, 1) := by decide +kernel
theorem dL_law_1241 : decode cL_law 1241 = .ok (.invokevirtual 166, 3) := by decide +kernel
theorem dL_law_1244 : decode cL_law 1244 = .ok (.aload_n 2, 1) := by decide +kernel
theorem dL_law_1245 : decode cL_law 1245 = .ok (.aload_n 0, 1) := by decide +kernel
theorem dL_law_1246 : decode cL_law 1246 = .ok (.iload 4, 2) := by decide +kernel
theorem dL_law_1248 : decode cL_law 1248 = .ok (.iconst 1, 1) := by decide +kernel
theorem dL_law_1249 : decode cL_law 1249 = .ok (.iadd, 1) := by decide +kernel
theorem dL_law_1250 : decode cL_law 1250 = .ok (.iaload, 1) := by decide +kernel
theorem dL_law_1251 : decode cL_law 1251 = .ok (.invokevirtual 169, 3) := by decide +kernel
theorem dL_law_1254 : decode cL_law 1254 = .ok (.if_icmp .eq 436, 3) := by decide +kernel
theorem dL_law_1257 : decode cL_law 1257 = .ok (.iconst 0, 1) := by decide +kernel
theorem dL_law_1258 : decode cL_law 1258 = .ok (.ireturn, 1) := by decide +kernel
theorem dL_law_1259 : decode cL_law 1259 = .ok (.aload_n 1, 1) := by decide +kernel
theorem dL_law_1260 : decode cL_law 1260 = .ok (.aload_n 0, 1) := by decide +kernel
theorem dL_law_1261 : decode cL_law 1261 = .ok (.iload 4, 2) := by decide +kernel
theorem dL_law_1263 : decode cL_law 1263 = .ok (.iconst 1, 1) := by decide +kernel
theorem dL_law_1264 : decode cL_law 1264 = .ok (.iadd, 1) := by decide +kernel
theorem dL_law_1265 : decode cL_law 1265 = .ok (.iaload, 1) := by decide +kernel
theorem dL_law_1266 : decode cL_law 1266 = .ok (.invokevirtual 170, 3) := by decide +kernel
theorem dL_law_1269 : decode cL_law 1269 = .ok (.aload_n 2, 1) := by decide +kernel
theorem dL_law_1270 : decode cL_law 1270 = .ok (.aload_n 0, 1) := by decide +kernel
theorem dL_law_1271 : decode cL_law 1271 = .ok (.iload 4, 2) := by decide +kernel
theorem dL_law_1273 : decode cL_law 1273 = .ok (.iconst 1, 1) := by decide +kernel
theorem dL_law_1274 : decode cL_law 1274 = .ok (.iadd, 1) := by decide +kernel
theorem dL_law_1275 : decode cL_law 1275 = .ok (.iaload, 1) := by decide +kernel
theorem dL_law_1276 : decode cL_law 1276 = .ok (.invokevirtual 173, 3) := by decide +kernel
theorem dL_law_1279 : decode cL_law 1279 = .ok (.if_icmp .eq 411, 3) := by decide +kernel
theorem dL_law_1282 : decode cL_law 1282 = .ok (.iconst 0, 1) := by decide +kernel
theorem dL_law_1283 : decode cL_law 1283 = .ok (.ireturn, 1) := by decide +kernel
theorem dL_law_1284 : decode cL_law 1284 = .ok (.aload_n 1, 1) := by decide +kernel
theorem dL_law_1285 : decode cL_law 1285 = .ok (.invokevirtual 174, 3) := by decide +kernel
theorem dL_law_1288 : decode cL_law 1288 = .ok (.aload_n 2, 1) := by decide +kernel
theorem dL_law_1289 : decode cL_law 1289 = .ok (.invokevirtual 177, 3) := by decide +kernel
theorem dL_law_1292 : decode cL_law 1292 = .ok (.if_icmp .eq 398, 3) := by decide +kernel
theorem dL_law_1295 : decode cL_law 1295 = .ok (.iconst 0, 1) := by decide +kernel
theorem dL_law_1296 : decode cL_law 1296 = .ok (.ireturn, 1) := by decide +kernel
theorem dL_law_1297 : decode cL_law 1297 = .ok (.aload_n 1, 1) := by decide +kernel
theorem dL_law_1298 : decode cL_law 1298 = .ok (.invokevirtual 178, 3) := by decide +kernel
theorem dL_law_1301 : decode cL_law 1301 = .ok (.aload_n 2, 1) := by decide +kernel
theorem dL_law_1302 : decode cL_law 1302 = .ok (.invokevirtual 181, 3) := by decide +kernel
theorem dL_law_1305 : decode cL_law 1305 = .ok (.if_icmp .eq 385, 3) := by decide +kernel
theorem dL_law_1308 : decode cL_law 1308 = .ok (.iconst 0, 1) := by decide +kernel
theorem dL_law_1309 : decode cL_law 1309 = .ok (.ireturn, 1) := by decide +kernel
theorem dL_law_1310 : decode cL_law 1310 = .ok (.aload_n 1, 1) := by decide +kernel
theorem dL_law_1311 : decode cL_law 1311 = .ok (.aload_n 0, 1) := by decide +kernel
theorem dL_law_1312 : decode cL_law 1312 = .ok (.iload 4, 2) := by decide +kernel
theorem dL_law_1314 : decode cL_law 1314 = .ok (.iconst 1, 1) := by decide +kernel
theorem dL_law_1315 : decode cL_law 1315 = .ok (.iadd, 1) := by decide +kernel
theorem dL_law_1316 : decode cL_law 1316 = .ok (.iaload, 1) := by decide +kernel
theorem dL_law_1317 : decode cL_law 1317 = .ok (.aload_n 0, 1) := by decide +kernel
theorem dL_law_1318 : decode cL_law 1318 = .ok (.iload 4, 2) := by decide +kernel
theorem dL_law_1320 : decode cL_law 1320 = .ok (.iconst 2, 1) := by decide +kernel
theorem dL_law_1321 : decode cL_law 1321 = .ok (.iadd, 1) := by decide +kernel
theorem dL_law_1322 : decode cL_law 1322 = .ok (.iaload, 1) := by decide +kernel
theorem dL_law_1323 : decode cL_law 1323 = .ok (.invokevirtual 182, 3) := by decide +kernel
theorem dL_law_1326 : decode cL_law 1326 = .ok (.aload_n 2, 1) := by decide +kernel
theorem dL_law_1327 : decode cL_law 1327 = .ok (.aload_n 0, 1) := by decide +kernel
theorem dL_law_1328 : decode cL_law 1328 = .ok (.iload 4, 2) := by decide +kernel
theorem dL_law_1330 : decode cL_law 1330 = .ok (.iconst 1, 1) := by decide +kernel
theorem dL_law_1331 : decode cL_law 1331 = .ok (.iadd, 1) := by decide +kernel
theorem dL_law_1332 : decode cL_law 1332 = .ok (.iaload, 1) := by decide +kernel
theorem dL_law_1333 : decode cL_law 1333 = .ok (.aload_n 0, 1) := by decide +kernel
theorem dL_law_1334 : decode cL_law 1334 = .ok (.iload 4, 2) := by decide +kernel
theorem dL_law_1336 : decode cL_law 1336 = .ok (.iconst 2, 1) := by decide +kernel
theorem dL_law_1337 : decode cL_law 1337 = .ok (.iadd, 1) := by decide +kernel
theorem dL_law_1338 : decode cL_law 1338 = .ok (.iaload, 1) := by decide +kernel
theorem dL_law_1339 : decode cL_law 1339 = .ok (.invokevirtual 185, 3) := by decide +kernel
theorem dL_law_1342 : decode cL_law 1342 = .ok (.if_icmp .eq 348, 3) := by decide +kernel
theorem dL_law_1345 : decode cL_law 1345 = .ok (.iconst 0, 1) := by decide +kernel
theorem dL_law_1346 : decode cL_law 1346 = .ok (.ireturn, 1) := by decide +kernel
theorem dL_law_1347 : decode cL_law 1347 = .ok (.aload_n 1, 1) := by decide +kernel
theorem dL_law_1348 : decode cL_law 1348 = .ok (.aload_n 0, 1) := by decide +kernel
theorem dL_law_1349 : decode cL_law 1349 = .ok (.iload 4, 2) := by decide +kernel
theorem dL_law_1351 : decode cL_law 1351 = .ok (.iconst 1, 1) := by decide +kernel
theorem dL_law_1352 : decode cL_law 1352 = .ok (.iadd, 1) := by decide +kernel
theorem dL_law_1353 : decode cL_law 1353 = .ok (.iaload, 1) := by decide +kernel
theorem dL_law_1354 : decode cL_law 1354 = .ok (.invokevirtual 186, 3) := by decide +kernel
theorem dL_law_1357 : decode cL_law 1357 = .ok (.aload_n 2, 1) := by decide +kernel
theorem dL_law_1358 : decode cL_law 1358 = .ok (.aload_n 0, 1) := by decide +kernel
theorem dL_law_1359 : decode cL_law 1359 = .ok (.iload 4, 2) := by decide +kernel
theorem dL_law_1361 : decode cL_law 1361 = .ok (.iconst 1, 1) := by decide +kernel
theorem dL_law_1362 : decode cL_law 1362 = .ok (.iadd, 1) := by decide +kernel
theorem dL_law_1363 : decode cL_law 1363 = .ok (.iaload, 1) := by decide +kernel
theorem dL_law_1364 : decode cL_law 1364 = .ok (.invokevirtual 189, 3) := by decide +kernel
theorem dL_law_1367 : decode cL_law 1367 = .ok (.lcmp, 1) := by decide +kernel
theorem dL_law_1368 : decode cL_law 1368 = .ok (.ifCond .eq 322, 3) := by decide +kernel
theorem dL_law_1371 : decode cL_law 1371 = .ok (.iconst 0, 1) := by decide +kernel
theorem dL_law_1372 : decode cL_law 1372 = .ok (.ireturn, 1) := by decide +kernel
theorem dL_law_1373 : decode cL_law 1373 = .ok (.aload_n 1, 1) := by decide +kernel
theorem dL_law_1374 : decode cL_law 1374 = .ok (.aload_n 0, 1) := by decide +kernel
theorem dL_law_1375 : decode cL_law 1375 = .ok (.iload 4, 2) := by decide +kernel
theorem dL_law_1377 : decode cL_law 1377 = .ok (.iconst 1, 1) := by decide +kernel
theorem dL_law_1378 : decode cL_law 1378 = .ok (.iadd, 1) := by decide +kernel
theorem dL_law_1379 : decode cL_law 1379 = .ok (.iaload, 1) := by decide +kernel
theorem dL_law_1380 : decode cL_law 1380 = .ok (.aload_n 0, 1) := by decide +kernel
theorem dL_law_1381 : decode cL_law 1381 = .ok (.iload 4, 2) := by decide +kernel
theorem dL_law_1383 : decode cL_law 1383 = .ok (.iconst 2, 1) := by decide +kernel
theorem dL_law_1384 : decode cL_law 1384 = .ok (.iadd, 1) := by decide +kernel
theorem dL_law_1385 : decode cL_law 1385 = .ok (.iaload, 1) := by decide +kernel
theorem dL_law_1386 : decode cL_law 1386 = .ok (.invokevirtual 190, 3) := by decide +kernel
theorem dL_law_1389 : decode cL_law 1389 = .ok (.aload_n 2, 1) := by decide +kernel
theorem dL_law_1390 : decode cL_law 1390 = .ok (.aload_n 0, 1) := by decide +kernel
theorem dL_law_1391 : decode cL_law 1391 = .ok (.iload 4, 2) := by decide +kernel
theorem dL_law_1393 : decode cL_law 1393 = .ok (.iconst 1, 1) := by decide +kernel
theorem dL_law_1394 : decode cL_law 1394 = .ok (.iadd, 1) := by decide +kernel
theorem dL_law_1395 : decode cL_law 1395 = .ok (.iaload, 1) := by decide +kernel
theorem dL_law_1396 : decode cL_law 1396 = .ok (.aload_n 0, 1) := by decide +kernel
theorem dL_law_1397 : decode cL_law 1397 = .ok (.iload 4, 2) := by decide +kernel
theorem dL_law_1399 : decode cL_law 1399 = .ok (.iconst 2, 1) := by decide +kernel
theorem dL_law_1400 : decode cL_law 1400 = .ok (.iadd, 1) := by decide +kernel
theorem dL_law_1401 : decode cL_law 1401 = .ok (.iaload, 1) := by decide +kernel
theorem dL_law_1402 : decode cL_law 1402 = .ok (.invokevirtual 193, 3) := by decide +kernel
theorem dL_law_1405 : decode cL_law 1405 = .ok (.if_icmp .eq 285, 3) := by decide +kernel
theorem dL_law_1408 : decode cL_law 1408 = .ok (.iconst 0, 1) := by decide +kernel
theorem dL_law_1409 : decode cL_law 1409 = .ok (.ireturn, 1) := by decide +kernel
theorem dL_law_1410 : decode cL_law 1410 = .ok (.aload_n 1, 1) := by decide +kernel
theorem dL_law_1411 : decode cL_law 1411 = .ok (.aload_n 0, 1) := by decide +kernel
theorem dL_law_1412 : decode cL_law 1412 = .ok (.iload 4, 2) := by decide +kernel
theorem dL_law_1414 : decode cL_law 1414 = .ok (.iconst 1, 1) := by decide +kernel
theorem dL_law_1415 : decode cL_law 1415 = .ok (.iadd, 1) := by decide +kernel
theorem dL_law_1416 : decode cL_law 1416 = .ok (.iaload, 1) := by decide +kernel
theorem dL_law_1417 : decode cL_law 1417 = .ok (.invokevirtual 194, 3) := by decide +kernel
theorem dL_law_1420 : decode cL_law 1420 = .ok (.aload_n 2, 1) := by decide +kernel
theorem dL_law_1421 : decode cL_law 1421 = .ok (.aload_n 0, 1) := by decide +kernel
theorem dL_law_1422 : decode cL_law 1422 = .ok (.iload 4, 2) := by decide +kernel
theorem dL_law_1424 : decode cL_law 1424 = .ok (.iconst 1, 1) := by decide +kernel
theorem dL_law_1425 : decode cL_law 1425 = .ok (.iadd, 1) := by decide +kernel
theorem dL_law_1426 : decode cL_law 1426 = .ok (.iaload, 1) := by decide +kernel
theorem dL_law_1427 : decode cL_law 1427 = .ok (.invokevirtual 197, 3) := by decide +kernel
theorem dL_law_1430 : decode cL_law 1430 = .ok (.if_icmp .eq 260, 3) := by decide +kernel
theorem dL_law_1433 : decode cL_law 1433 = .ok (.iconst 0, 1) := by decide +kernel
theorem dL_law_1434 : decode cL_law 1434 = .ok (.ireturn, 1) := by decide +kernel
theorem dL_law_1435 : decode cL_law 1435 = .ok (.aload_n 1, 1) := by decide +kernel
theorem dL_law_1436 : decode cL_law 1436 = .ok (.aload_n 0, 1) := by decide +kernel
theorem dL_law_1437 : decode cL_law 1437 = .ok (.iload 4, 2) := by decide +kernel
theorem dL_law_1439 : decode cL_law 1439 = .ok (.iconst 1, 1) := by decide +kernel
theorem dL_law_1440 : decode cL_law 1440 = .ok (.iadd, 1) := by decide +kernel
theorem dL_law_1441 : decode cL_law 1441 = .ok (.iaload, 1) := by decide +kernel
theorem dL_law_1442 : decode cL_law 1442 = .ok (.aload_n 0, 1) := by decide +kernel
theorem dL_law_1443 : decode cL_law 1443 = .ok (.iload 4, 2) := by decide +kernel
theorem dL_law_1445 : decode cL_law 1445 = .ok (.iconst 2, 1) := by decide +kernel
theorem dL_law_1446 : decode cL_law 1446 = .ok (.iadd, 1) := by decide +kernel
theorem dL_law_1447 : decode cL_law 1447 = .ok (.iaload, 1) := by decide +kernel
theorem dL_law_1448 : decode cL_law 1448 = .ok (.invokevirtual 198, 3) := by decide +kernel
theorem dL_law_1451 : decode cL_law 1451 = .ok (.aload_n 2, 1) := by decide +kernel
theorem dL_law_1452 : decode cL_law 1452 = .ok (.aload_n 0, 1) := by decide +kernel
theorem dL_law_1453 : decode cL_law 1453 = .ok (.iload 4, 2) := by decide +kernel
theorem dL_law_1455 : decode cL_law 1455 = .ok (.iconst 1, 1) := by decide +kernel
theorem dL_law_1456 : decode cL_law 1456 = .ok (.iadd, 1) := by decide +kernel
theorem dL_law_1457 : decode cL_law 1457 = .ok (.iaload, 1) := by decide +kernel
theorem dL_law_1458 : decode cL_law 1458 = .ok (.aload_n 0, 1) := by decide +kernel
theorem dL_law_1459 : decode cL_law 1459 = .ok (.iload 4, 2) := by decide +kernel
theorem dL_law_1461 : decode cL_law 1461 = .ok (.iconst 2, 1) := by decide +kernel
theorem dL_law_1462 : decode cL_law 1462 = .ok (.iadd, 1) := by decide +kernel
theorem dL_law_1463 : decode cL_law 1463 = .ok (.iaload, 1) := by decide +kernel
theorem dL_law_1464 : decode cL_law 1464 = .ok (.invokevirtual 201, 3) := by decide +kernel
theorem dL_law_1467 : decode cL_law 1467 = .ok (.if_icmp .eq 223, 3) := by decide +kernel
theorem dL_law_1470 : decode cL_law 1470 = .ok (.iconst 0, 1) := by decide +kernel
theorem dL_law_1471 : decode cL_law 1471 = .ok (.ireturn, 1) := by decide +kernel
theorem dL_law_1472 : decode cL_law 1472 = .ok (.aload_n 1, 1) := by decide +kernel
theorem dL_law_1473 : decode cL_law 1473 = .ok (.aload_n 0, 1) := by decide +kernel
theorem dL_law_1474 : decode cL_law 1474 = .ok (.iload 4, 2) := by decide +kernel
theorem dL_law_1476 : decode cL_law 1476 = .ok (.iconst 1, 1) := by decide +kernel
theorem dL_law_1477 : decode cL_law 1477 = .ok (.iadd, 1) := by decide +kernel
theorem dL_law_1478 : decode cL_law 1478 = .ok (.iaload, 1) := by decide +kernel
theorem dL_law_1479 : decode cL_law 1479 = .ok (.aload_n 0, 1) := by decide +kernel
theorem dL_law_1480 : decode cL_law 1480 = .ok (.iload 4, 2) := by decide +kernel
theorem dL_law_1482 : decode cL_law 1482 = .ok (.iconst 2, 1) := by decide +kernel
theorem dL_law_1483 : decode cL_law 1483 = .ok (.iadd, 1) := by decide +kernel
theorem dL_law_1484 : decode cL_law 1484 = .ok (.iaload, 1) := by decide +kernel
theorem dL_law_1485 : decode cL_law 1485 = .ok (.invokevirtual 202, 3) := by decide +kernel
theorem dL_law_1488 : decode cL_law 1488 = .ok (.aload_n 2, 1) := by decide +kernel
theorem dL_law_1489 : decode cL_law 1489 = .ok (.aload_n 0, 1) := by decide +kernel
theorem dL_law_1490 : decode cL_law 1490 = .ok (.iload 4, 2) := by decide +kernel
theorem dL_law_1492 : decode cL_law 1492 = .ok (.iconst 1, 1) := by decide +kernel
theorem dL_law_1493 : decode cL_law 1493 = .ok (.iadd, 1) := by decide +kernel
theorem dL_law_1494 : decode cL_law 1494 = .ok (.iaload, 1) := by decide +kernel
theorem dL_law_1495 : decode cL_law 1495 = .ok (.aload_n 0, 1) := by decide +kernel
theorem dL_law_1496 : decode cL_law 1496 = .ok (.iload 4, 2) := by decide +kernel
theorem dL_law_1498 : decode cL_law 1498 = .ok (.iconst 2, 1) := by decide +kernel
theorem dL_law_1499 : decode cL_law 1499 = .ok (.iadd, 1) := by decide +kernel
theorem dL_law_1500 : decode cL_law 1500 = .ok (.iaload, 1) := by decide +kernel
theorem dL_law_1501 : decode cL_law 1501 = .ok (.invokevirtual 205, 3) := by decide +kernel
theorem dL_law_1504 : decode cL_law 1504 = .ok (.if_icmp .eq 186, 3) := by decide +kernel
theorem dL_law_1507 : decode cL_law 1507 = .ok (.iconst 0, 1) := by decide +kernel
theorem dL_law_1508 : decode cL_law 1508 = .ok (.ireturn, 1) := by decide +kernel
theorem dL_law_1509 : decode cL_law 1509 = .ok (.aload_n 1, 1) := by decide +kernel
theorem dL_law_1510 : decode cL_law 1510 = .ok (.aload_n 0, 1) := by decide +kernel
theorem dL_law_1511 : decode cL_law 1511 = .ok (.iload 4, 2) := by decide +kernel
theorem dL_law_1513 : decode cL_law 1513 = .ok (.iconst 1, 1) := by decide +kernel
theorem dL_law_1514 : decode cL_law 1514 = .ok (.iadd, 1) := by decide +kernel
theorem dL_law_1515 : decode cL_law 1515 = .ok (.iaload, 1) := by decide +kernel
theorem dL_law_1516 : decode cL_law 1516 = .ok (.aload_n 0, 1) := by decide +kernel
theorem dL_law_1517 : decode cL_law 1517 = .ok (.iload 4, 2) := by decide +kernel
theorem dL_law_1519 : decode cL_law 1519 = .ok (.iconst 2, 1) := by decide +kernel
theorem dL_law_1520 : decode cL_law 1520 = .ok (.iadd, 1) := by decide +kernel
theorem dL_law_1521 : decode cL_law 1521 = .ok (.iaload, 1) := by decide +kernel
theorem dL_law_1522 : decode cL_law 1522 = .ok (.invokevirtual 206, 3) := by decide +kernel
theorem dL_law_1525 : decode cL_law 1525 = .ok (.aload_n 2, 1) := by decide +kernel
theorem dL_law_1526 : decode cL_law 1526 = .ok (.aload_n 0, 1) := by decide +kernel
theorem dL_law_1527 : decode cL_law 1527 = .ok (.iload 4, 2) := by decide +kernel
theorem dL_law_1529 : decode cL_law 1529 = .ok (.iconst 1, 1) := by decide +kernel
theorem dL_law_1530 : decode cL_law 1530 = .ok (.iadd, 1) := by decide +kernel
theorem dL_law_1531 : decode cL_law 1531 = .ok (.iaload, 1) := by decide +kernel
theorem dL_law_1532 : decode cL_law 1532 = .ok (.aload_n 0, 1) := by decide +kernel
theorem dL_law_1533 : decode cL_law 1533 = .ok (.iload 4, 2) := by decide +kernel
theorem dL_law_1535 : decode cL_law 1535 = .ok (.iconst 2, 1) := by decide +kernel
theorem dL_law_1536 : decode cL_law 1536 = .ok (.iadd, 1) := by decide +kernel
theorem dL_law_1537 : decode cL_law 1537 = .ok (.iaload, 1) := by decide +kernel
theorem dL_law_1538 : decode cL_law 1538 = .ok (.invokevirtual 209, 3) := by decide +kernel
theorem dL_law_1541 : decode cL_law 1541 = .ok (.if_icmp .eq 149, 3) := by decide +kernel
theorem dL_law_1544 : decode cL_law 1544 = .ok (.iconst 0, 1) := by decide +kernel
theorem dL_law_1545 : decode cL_law 1545 = .ok (.ireturn, 1) := by decide +kernel
theorem dL_law_1546 : decode cL_law 1546 = .ok (.aload_n 1, 1) := by decide +kernel
theorem dL_law_1547 : decode cL_law 1547 = .ok (.invokevirtual 210, 3) := by decide +kernel
theorem dL_law_1550 : decode cL_law 1550 = .ok (.aload_n 2, 1) := by decide +kernel
theorem dL_law_1551 : decode cL_law 1551 = .ok (.invokevirtual 213, 3) := by decide +kernel
theorem dL_law_1554 : decode cL_law 1554 = .ok (.if_icmp .eq 136, 3) := by decide +kernel
theorem dL_law_1557 : decode cL_law 1557 = .ok (.iconst 0, 1) := by decide +kernel
theorem dL_law_1558 : decode cL_law 1558 = .ok (.ireturn, 1) := by decide +kernel
theorem dL_law_1559 : decode cL_law 1559 = .ok (.aload_n 1, 1) := by decide +kernel
theorem dL_law_1560 : decode cL_law 1560 = .ok (.aload_n 0, 1) := by decide +kernel
theorem dL_law_1561 : decode cL_law 1561 = .ok (.iload 4, 2) := by decide +kernel
theorem dL_law_1563 : decode cL_law 1563 = .ok (.iconst 1, 1) := by decide +kernel
theorem dL_law_1564 : decode cL_law 1564 = .ok (.iadd, 1) := by decide +kernel
theorem dL_law_1565 : decode cL_law 1565 = .ok (.iaload, 1) := by decide +kernel
theorem dL_law_1566 : decode cL_law 1566 = .ok (.invokevirtual 214, 3) := by decide +kernel
theorem dL_law_1569 : decode cL_law 1569 = .ok (.aload_n 2, 1) := by decide +kernel
theorem dL_law_1570 : decode cL_law 1570 = .ok (.aload_n 0, 1) := by decide +kernel
theorem dL_law_1571 : decode cL_law 1571 = .ok (.iload 4, 2) := by decide +kernel
theorem dL_law_1573 : decode cL_law 1573 = .ok (.iconst 1, 1) := by decide +kernel
theorem dL_law_1574 : decode cL_law 1574 = .ok (.iadd, 1) := by decide +kernel
theorem dL_law_1575 : decode cL_law 1575 = .ok (.iaload, 1) := by decide +kernel
theorem dL_law_1576 : decode cL_law 1576 = .ok (.invokevirtual 217, 3) := by decide +kernel
theorem dL_law_1579 : decode cL_law 1579 = .ok (.if_icmp .eq 111, 3) := by decide +kernel
theorem dL_law_1582 : decode cL_law 1582 = .ok (.iconst 0, 1) := by decide +kernel
theorem dL_law_1583 : decode cL_law 1583 = .ok (.ireturn, 1) := by decide +kernel
theorem dL_law_1584 : decode cL_law 1584 = .ok (.aload_n 1, 1) := by decide +kernel
theorem dL_law_1585 : decode cL_law 1585 = .ok (.aload_n 0, 1) := by decide +kernel
theorem dL_law_1586 : decode cL_law 1586 = .ok (.iload 4, 2) := by decide +kernel
theorem dL_law_1588 : decode cL_law 1588 = .ok (.iconst 1, 1) := by decide +kernel
theorem dL_law_1589 : decode cL_law 1589 = .ok (.iadd, 1) := by decide +kernel
theorem dL_law_1590 : decode cL_law 1590 = .ok (.iaload, 1) := by decide +kernel
theorem dL_law_1591 : decode cL_law 1591 = .ok (.invokevirtual 218, 3) := by decide +kernel
theorem dL_law_1594 : decode cL_law 1594 = .ok (.aload_n 2, 1) := by decide +kernel
theorem dL_law_1595 : decode cL_law 1595 = .ok (.aload_n 0, 1) := by decide +kernel
theorem dL_law_1596 : decode cL_law 1596 = .ok (.iload 4, 2) := by decide +kernel
theorem dL_law_1598 : decode cL_law 1598 = .ok (.iconst 1, 1) := by decide +kernel
theorem dL_law_1599 : decode cL_law 1599 = .ok (.iadd, 1) := by decide +kernel
theorem dL_law_1600 : decode cL_law 1600 = .ok (.iaload, 1) := by decide +kernel
theorem dL_law_1601 : decode cL_law 1601 = .ok (.invokevirtual 221, 3) := by decide +kernel
theorem dL_law_1604 : decode cL_law 1604 = .ok (.if_icmp .eq 86, 3) := by decide +kernel
theorem dL_law_1607 : decode cL_law 1607 = .ok (.iconst 0, 1) := by decide +kernel
theorem dL_law_1608 : decode cL_law 1608 = .ok (.ireturn, 1) := by decide +kernel
theorem dL_law_1609 : decode cL_law 1609 = .ok (.aload_n 1, 1) := by decide +kernel
theorem dL_law_1610 : decode cL_law 1610 = .ok (.aload_n 0, 1) := by decide +kernel
theorem dL_law_1611 : decode cL_law 1611 = .ok (.iload 4, 2) := by decide +kernel
theorem dL_law_1613 : decode cL_law 1613 = .ok (.iconst 1, 1) := by decide +kernel
theorem dL_law_1614 : decode cL_law 1614 = .ok (.iadd, 1) := by decide +kernel
theorem dL_law_1615 : decode cL_law 1615 = .ok (.iaload, 1) := by decide +kernel
theorem dL_law_1616 : decode cL_law 1616 = .ok (.invokevirtual 222, 3) := by decide +kernel
theorem dL_law_1619 : decode cL_law 1619 = .ok (.aload_n 2, 1) := by decide +kernel
theorem dL_law_1620 : decode cL_law 1620 = .ok (.aload_n 0, 1) := by decide +kernel
theorem dL_law_1621 : decode cL_law 1621 = .ok (.iload 4, 2) := by decide +kernel
theorem dL_law_1623 : decode cL_law 1623 = .ok (.iconst 1, 1) := by decide +kernel
theorem dL_law_1624 : decode cL_law 1624 = .ok (.iadd, 1) := by decide +kernel
theorem dL_law_1625 : decode cL_law 1625 = .ok (.iaload, 1) := by decide +kernel
theorem dL_law_1626 : decode cL_law 1626 = .ok (.invokevirtual 225, 3) := by decide +kernel
theorem dL_law_1629 : decode cL_law 1629 = .ok (.if_icmp .eq 61, 3) := by decide +kernel
theorem dL_law_1632 : decode cL_law 1632 = .ok (.iconst 0, 1) := by decide +kernel
theorem dL_law_1633 : decode cL_law 1633 = .ok (.ireturn, 1) := by decide +kernel
theorem dL_law_1634 : decode cL_law 1634 = .ok (.aload_n 1, 1) := by decide +kernel
theorem dL_law_1635 : decode cL_law 1635 = .ok (.aload_n 0, 1) := by decide +kernel
theorem dL_law_1636 : decode cL_law 1636 = .ok (.iload 4, 2) := by decide +kernel
theorem dL_law_1638 : decode cL_law 1638 = .ok (.iconst 1, 1) := by decide +kernel
theorem dL_law_1639 : decode cL_law 1639 = .ok (.iadd, 1) := by decide +kernel
theorem dL_law_1640 : decode cL_law 1640 = .ok (.iaload, 1) := by decide +kernel
theorem dL_law_1641 : decode cL_law 1641 = .ok (.aload_n 3, 1) := by decide +kernel
theorem dL_law_1642 : decode cL_law 1642 = .ok (.invokestatic 226, 3) := by decide +kernel
theorem dL_law_1645 : decode cL_law 1645 = .ok (.istore 5, 2) := by decide +kernel
theorem dL_law_1647 : decode cL_law 1647 = .ok (.aload_n 2, 1) := by decide +kernel
theorem dL_law_1648 : decode cL_law 1648 = .ok (.aload_n 0, 1) := by decide +kernel
theorem dL_law_1649 : decode cL_law 1649 = .ok (.iload 4, 2) := by decide +kernel
theorem dL_law_1651 : decode cL_law 1651 = .ok (.iconst 1, 1) := by decide +kernel
theorem dL_law_1652 : decode cL_law 1652 = .ok (.iadd, 1) := by decide +kernel
theorem dL_law_1653 : decode cL_law 1653 = .ok (.iaload, 1) := by decide +kernel
theorem dL_law_1654 : decode cL_law 1654 = .ok (.invokevirtual 229, 3) := by decide +kernel
theorem dL_law_1657 : decode cL_law 1657 = .ok (.istore 6, 2) := by decide +kernel
theorem dL_law_1659 : decode cL_law 1659 = .ok (.aload_n 2, 1) := by decide +kernel
theorem dL_law_1660 : decode cL_law 1660 = .ok (.invokevirtual 53, 3) := by decide +kernel
theorem dL_law_1663 : decode cL_law 1663 = .ok (.iload 5, 2) := by decide +kernel
theorem dL_law_1665 : decode cL_law 1665 = .ok (.if_icmp .eq 5, 3) := by decide +kernel
theorem dL_law_1668 : decode cL_law 1668 = .ok (.iconst 0, 1) := by decide +kernel
theorem dL_law_1669 : decode cL_law 1669 = .ok (.ireturn, 1) := by decide +kernel
theorem dL_law_1670 : decode cL_law 1670 = .ok (.iload 5, 2) := by decide +kernel
theorem dL_law_1672 : decode cL_law 1672 = .ok (.ifCond .ne 15, 3) := by decide +kernel
theorem dL_law_1675 : decode cL_law 1675 = .ok (.aload_n 3, 1) := by decide +kernel
theorem dL_law_1676 : decode cL_law 1676 = .ok (.iconst 0, 1) := by decide +kernel
theorem dL_law_1677 : decode cL_law 1677 = .ok (.laload, 1) := by decide +kernel
theorem dL_law_1678 : decode cL_law 1678 = .ok (.iload 6, 2) := by decide +kernel
theorem dL_law_1680 : decode cL_law 1680 = .ok (.i2l, 1) := by decide +kernel
theorem dL_law_1681 : decode cL_law 1681 = .ok (.lcmp, 1) := by decide +kernel
theorem dL_law_1682 : decode cL_law 1682 = .ok (.ifCond .eq 5, 3) := by decide +kernel
theorem dL_law_1685 : decode cL_law 1685 = .ok (.iconst 0, 1) := by decide +kernel
theorem dL_law_1686 : decode cL_law 1686 = .ok (.ireturn, 1) := by decide +kernel
theorem dL_law_1687 : decode cL_law 1687 = .ok (.goto 3, 3) := by decide +kernel
theorem dL_law_1690 : decode cL_law 1690 = .ok (.iinc 4 5, 3) := by decide +kernel
theorem dL_law_1693 : decode cL_law 1693 = .ok (.goto (-1670), 3) := by decide +kernel
theorem dL_law_1696 : decode cL_law 1696 = .ok (.iconst 1, 1) := by decide +kernel
theorem dL_law_1697 : decode cL_law 1697 = .ok (.ireturn, 1) := by decide +kernel
theorem kz_104 : ((Jvm.Cond.initialized "NextMustShareLaw") : Jvm.Cond) ∈ jTs := jTs_ix 104 (by decide +kernel) rfl
theorem kz_432 : ((Jvm.Cond.methodLink "NextMustShareLaw" (29 : Nat) ({ cls := "NextMustShare", name := "sign", desc := "(I)I" } : Jvm.MethodName)) : Jvm.Cond) ∈ jTs := jTs_ix 432 (by decide +kernel) rfl
theorem kz_444 : ((Jvm.Cond.methodLink "NextMustShareLaw" (33 : Nat) ({ cls := "NextMustShare", name := "end", desc := "(I)Z" } : Jvm.MethodName)) : Jvm.Cond) ∈ jTs := jTs_ix 444 (by decide +kernel) rfl
theorem kz_452 : ((Jvm.Cond.methodLink "NextMustShareLaw" (38 : Nat) ({ cls := "NextMustShare", name := "kitchen", desc := "()I" } : Jvm.MethodName)) : Jvm.Cond) ∈ jTs := jTs_ix 452 (by decide +kernel) rfl
theorem kz_514 : ((Jvm.Cond.methodLink "NextMustShareLaw" (43 : Nat) ({ cls := "NextMustShare", name := "rule", desc := "()I" } : Jvm.MethodName)) : Jvm.Cond) ∈ jTs := jTs_ix 514 (by decide +kernel) rfl
theorem kz_563 : ((Jvm.Cond.methodLink "NextMustShareLaw" (62 : Nat) ({ cls := "NextMustShare", name := "law", desc := "(II)I" } : Jvm.MethodName)) : Jvm.Cond) ∈ jTs := jTs_ix 563 (by decide +kernel) rfl
theorem kz_574 : ((Jvm.Cond.methodLink "NextMustShareLaw" (66 : Nat) ({ cls := "NextMustShare", name := "store", desc := "(II)I" } : Jvm.MethodName)) : Jvm.Cond) ∈ jTs := jTs_ix 574 (by decide +kernel) rfl
theorem kz_582 : ((Jvm.Cond.methodLink "NextMustShareLaw" (70 : Nat) ({ cls := "NextMustShare", name := "sheet", desc := "(IIII)I" } : Jvm.MethodName)) : Jvm.Cond) ∈ jTs := jTs_ix 582 (by decide +kernel) rfl
theorem kz_608 : ((Jvm.Cond.methodLink "NextMustShareLaw" (75 : Nat) ({ cls := "NextMustShare", name := "serve", desc := "(I)I" } : Jvm.MethodName)) : Jvm.Cond) ∈ jTs := jTs_ix 608 (by decide +kernel) rfl
theorem kz_664 : ((Jvm.Cond.methodLink "NextMustShareLaw" (79 : Nat) ({ cls := "NextMustShare", name := "back", desc := "()I" } : Jvm.MethodName)) : Jvm.Cond) ∈ jTs := jTs_ix 664 (by decide +kernel) rfl
theorem kz_673 : ((Jvm.Cond.methodLink "NextMustShareLaw" (83 : Nat) ({ cls := "NextMustShare", name := "over", desc := "()I" } : Jvm.MethodName)) : Jvm.Cond) ∈ jTs := jTs_ix 673 (by decide +kernel) rfl
theorem kz_686 : ((Jvm.Cond.methodLink "NextMustShareLaw" (87 : Nat) ({ cls := "NextMustShare", name := "can", desc := "()I" } : Jvm.MethodName)) : Jvm.Cond) ∈ jTs := jTs_ix 686 (by decide +kernel) rfl
theorem kz_690 : ((Jvm.Cond.methodLink "NextMustShareLaw" (91 : Nat) ({ cls := "NextMustShare", name := "menu", desc := "(I)I" } : Jvm.MethodName)) : Jvm.Cond) ∈ jTs := jTs_ix 690 (by decide +kernel) rfl
theorem kz_700 : ((Jvm.Cond.methodLink "NextMustShareLaw" (95 : Nat) ({ cls := "NextMustShare", name := "look", desc := "(I)I" } : Jvm.MethodName)) : Jvm.Cond) ∈ jTs := jTs_ix 700 (by decide +kernel) rfl
theorem kz_763 : ((Jvm.Cond.methodLink "NextMustShareLaw" (99 : Nat) ({ cls := "NextMustShare", name := "swap", desc := "(III)Z" } : Jvm.MethodName)) : Jvm.Cond) ∈ jTs := jTs_ix 763 (by decide +kernel) rfl
theorem kz_775 : ((Jvm.Cond.methodLink "NextMustShareLaw" (104 : Nat) ({ cls := "NextMustShare", name := "turn", desc := "(I)Z" } : Jvm.MethodName)) : Jvm.Cond) ∈ jTs := jTs_ix 775 (by decide +kernel) rfl
theorem kz_784 : ((Jvm.Cond.methodLink "NextMustShareLaw" (108 : Nat) ({ cls := "NextMustShare", name := "joined", desc := "(II)I" } : Jvm.MethodName)) : Jvm.Cond) ∈ jTs := jTs_ix 784 (by decide +kernel) rfl
theorem kz_804 : ((Jvm.Cond.methodLink "NextMustShareLaw" (112 : Nat) ({ cls := "NextMustShare", name := "falls", desc := "(III)I" } : Jvm.MethodName)) : Jvm.Cond) ∈ jTs := jTs_ix 804 (by decide +kernel) rfl
theorem kz_813 : ((Jvm.Cond.methodLink "NextMustShareLaw" (117 : Nat) ({ cls := "NextMustShare", name := "longest", desc := "()I" } : Jvm.MethodName)) : Jvm.Cond) ∈ jTs := jTs_ix 813 (by decide +kernel) rfl
theorem kz_953 : ((Jvm.Cond.methodLink "NextMustShareLaw" (121 : Nat) ({ cls := "NextMustShare", name := "ways", desc := "(I)J" } : Jvm.MethodName)) : Jvm.Cond) ∈ jTs := jTs_ix 953 (by decide +kernel) rfl
theorem kz_986 : ((Jvm.Cond.methodLink "NextMustShareLaw" (126 : Nat) ({ cls := "NextMustShare", name := "between", desc := "(II)I" } : Jvm.MethodName)) : Jvm.Cond) ∈ jTs := jTs_ix 986 (by decide +kernel) rfl
theorem kz_1007 : ((Jvm.Cond.methodLink "NextMustShareLaw" (130 : Nat) ({ cls := "NextMustShare", name := "shortest", desc := "(II)I" } : Jvm.MethodName)) : Jvm.Cond) ∈ jTs := jTs_ix 1007 (by decide +kernel) rfl
theorem kz_1011 : ((Jvm.Cond.methodLink "NextMustShareLaw" (134 : Nat) ({ cls := "NextMustShare", name := "bears", desc := "(I)I" } : Jvm.MethodName)) : Jvm.Cond) ∈ jTs := jTs_ix 1011 (by decide +kernel) rfl
theorem kz_1020 : ((Jvm.Cond.methodLink "NextMustShareLaw" (138 : Nat) ({ cls := "NextMustShare", name := "beside", desc := "(I)I" } : Jvm.MethodName)) : Jvm.Cond) ∈ jTs := jTs_ix 1020 (by decide +kernel) rfl
theorem kz_1026 : ((Jvm.Cond.methodLink "NextMustShareLaw" (142 : Nat) ({ cls := "NextMustShare", name := "parts", desc := "()I" } : Jvm.MethodName)) : Jvm.Cond) ∈ jTs := jTs_ix 1026 (by decide +kernel) rfl
theorem kz_1035 : ((Jvm.Cond.methodLink "NextMustShareLaw" (146 : Nat) ({ cls := "NextMustShare", name := "rare", desc := "()I" } : Jvm.MethodName)) : Jvm.Cond) ∈ jTs := jTs_ix 1035 (by decide +kernel) rfl
theorem kz_1041 : ((Jvm.Cond.methodLink "NextMustShareLaw" (150 : Nat) ({ cls := "NextMustShare", name := "round", desc := "()I" } : Jvm.MethodName)) : Jvm.Cond) ∈ jTs := jTs_ix 1041 (by decide +kernel) rfl
theorem kz_1050 : ((Jvm.Cond.methodLink "NextMustShareLaw" (154 : Nat) ({ cls := "NextMustShare", name := "shut", desc := "(I)I" } : Jvm.MethodName)) : Jvm.Cond) ∈ jTs := jTs_ix 1050 (by decide +kernel) rfl
theorem kz_1062 : ((Jvm.Cond.methodLink "NextMustShareLaw" (158 : Nat) ({ cls := "NextMustShare", name := "best", desc := "(II)I" } : Jvm.MethodName)) : Jvm.Cond) ∈ jTs := jTs_ix 1062 (by decide +kernel) rfl
theorem kz_1118 : ((Jvm.Cond.methodLink "NextMustShareLaw" (162 : Nat) ({ cls := "NextMustShare", name := "fair", desc := "(II)I" } : Jvm.MethodName)) : Jvm.Cond) ∈ jTs := jTs_ix 1118 (by decide +kernel) rfl
theorem kz_1124 : ((Jvm.Cond.methodLink "NextMustShareLaw" (166 : Nat) ({ cls := "NextMustShare", name := "cheap", desc := "(I)I" } : Jvm.MethodName)) : Jvm.Cond) ∈ jTs := jTs_ix 1124 (by decide +kernel) rfl
theorem kz_1138 : ((Jvm.Cond.methodLink "NextMustShareLaw" (170 : Nat) ({ cls := "NextMustShare", name := "dear", desc := "(I)I" } : Jvm.MethodName)) : Jvm.Cond) ∈ jTs := jTs_ix 1138 (by decide +kernel) rfl
theorem kz_1142 : ((Jvm.Cond.methodLink "NextMustShareLaw" (174 : Nat) ({ cls := "NextMustShare", name := "game", desc := "()I" } : Jvm.MethodName)) : Jvm.Cond) ∈ jTs := jTs_ix 1142 (by decide +kernel) rfl
theorem kz_1159 : ((Jvm.Cond.methodLink "NextMustShareLaw" (178 : Nat) ({ cls := "NextMustShare", name := "greedy", desc := "()I" } : Jvm.MethodName)) : Jvm.Cond) ∈ jTs := jTs_ix 1159 (by decide +kernel) rfl
theorem kz_1177 : ((Jvm.Cond.methodLink "NextMustShareLaw" (182 : Nat) ({ cls := "NextMustShare", name := "mend", desc := "(II)I" } : Jvm.MethodName)) : Jvm.Cond) ∈ jTs := jTs_ix 1177 (by decide +kernel) rfl
theorem kz_1201 : ((Jvm.Cond.methodLink "NextMustShareLaw" (186 : Nat) ({ cls := "NextMustShare", name := "fills", desc := "(I)J" } : Jvm.MethodName)) : Jvm.Cond) ∈ jTs := jTs_ix 1201 (by decide +kernel) rfl
theorem kz_1211 : ((Jvm.Cond.methodLink "NextMustShareLaw" (190 : Nat) ({ cls := "NextMustShare", name := "sure", desc := "(II)I" } : Jvm.MethodName)) : Jvm.Cond) ∈ jTs := jTs_ix 1211 (by decide +kernel) rfl
theorem kz_1219 : ((Jvm.Cond.methodLink "NextMustShareLaw" (194 : Nat) ({ cls := "NextMustShare", name := "hearths", desc := "(I)I" } : Jvm.MethodName)) : Jvm.Cond) ∈ jTs := jTs_ix 1219 (by decide +kernel) rfl
theorem kz_1230 : ((Jvm.Cond.methodLink "NextMustShareLaw" (198 : Nat) ({ cls := "NextMustShare", name := "late", desc := "(II)I" } : Jvm.MethodName)) : Jvm.Cond) ∈ jTs := jTs_ix 1230 (by decide +kernel) rfl
theorem kz_1240 : ((Jvm.Cond.methodLink "NextMustShareLaw" (202 : Nat) ({ cls := "NextMustShare", name := "poison", desc := "(II)I" } : Jvm.MethodName)) : Jvm.Cond) ∈ jTs := jTs_ix 1240 (by decide +kernel) rfl
theorem kz_1250 : ((Jvm.Cond.methodLink "NextMustShareLaw" (206 : Nat) ({ cls := "NextMustShare", name := "eats", desc := "(II)I" } : Jvm.MethodName)) : Jvm.Cond) ∈ jTs := jTs_ix 1250 (by decide +kernel) rfl
theorem kz_1258 : ((Jvm.Cond.methodLink "NextMustShareLaw" (210 : Nat) ({ cls := "NextMustShare", name := "made", desc := "()I" } : Jvm.MethodName)) : Jvm.Cond) ∈ jTs := jTs_ix 1258 (by decide +kernel) rfl
theorem kz_1301 : ((Jvm.Cond.methodLink "NextMustShareLaw" (214 : Nat) ({ cls := "NextMustShare", name := "keep", desc := "(I)Z" } : Jvm.MethodName)) : Jvm.Cond) ∈ jTs := jTs_ix 1301 (by decide +kernel) rfl
theorem kz_1310 : ((Jvm.Cond.methodLink "NextMustShareLaw" (218 : Nat) ({ cls := "NextMustShare", name := "again", desc := "(I)Z" } : Jvm.MethodName)) : Jvm.Cond) ∈ jTs := jTs_ix 1310 (by decide +kernel) rfl
theorem kz_1314 : ((Jvm.Cond.methodLink "NextMustShareLaw" (222 : Nat) ({ cls := "NextMustShare", name := "count", desc := "(I)I" } : Jvm.MethodName)) : Jvm.Cond) ∈ jTs := jTs_ix 1314 (by decide +kernel) rfl
theorem kz_1326 : ((Jvm.Cond.methodLink "NextMustShareLaw" (47 : Nat) ({ cls := "NextMustShareLaw", name := "dish", desc := "(LNextMustShare;II[J)I" } : Jvm.MethodName)) : Jvm.Cond) ∈ jTs := jTs_ix 1326 (by decide +kernel) rfl
theorem kz_1327 : ((Jvm.Cond.static ({ cls := "NextMustShareLaw", name := "dish", desc := "(LNextMustShare;II[J)I" } : Jvm.MethodName)) : Jvm.Cond) ∈ jTs := jTs_ix 1327 (by decide +kernel) rfl
theorem kz_1398 : ((Jvm.Cond.methodLink "NextMustShareLaw" (56 : Nat) ({ cls := "NextMustShareLaw", name := "guest", desc := "(LNextMustShare;II[J)I" } : Jvm.MethodName)) : Jvm.Cond) ∈ jTs := jTs_ix 1398 (by decide +kernel) rfl
theorem kz_1399 : ((Jvm.Cond.static ({ cls := "NextMustShareLaw", name := "guest", desc := "(LNextMustShare;II[J)I" } : Jvm.MethodName)) : Jvm.Cond) ∈ jTs := jTs_ix 1399 (by decide +kernel) rfl
theorem kz_1407 : ((Jvm.Cond.methodLink "NextMustShareLaw" (59 : Nat) ({ cls := "NextMustShareLaw", name := "joy", desc := "(LNextMustShare;II[J)I" } : Jvm.MethodName)) : Jvm.Cond) ∈ jTs := jTs_ix 1407 (by decide +kernel) rfl
theorem kz_1408 : ((Jvm.Cond.static ({ cls := "NextMustShareLaw", name := "joy", desc := "(LNextMustShare;II[J)I" } : Jvm.MethodName)) : Jvm.Cond) ∈ jTs := jTs_ix 1408 (by decide +kernel) rfl
theorem kz_1414 : ((Jvm.Cond.methodLink "NextMustShareLaw" (226 : Nat) ({ cls := "NextMustShareLaw", name := "row", desc := "(LNextMustShare;I[J)I" } : Jvm.MethodName)) : Jvm.Cond) ∈ jTs := jTs_ix 1414 (by decide +kernel) rfl
theorem kz_1415 : ((Jvm.Cond.static ({ cls := "NextMustShareLaw", name := "row", desc := "(LNextMustShare;I[J)I" } : Jvm.MethodName)) : Jvm.Cond) ∈ jTs := jTs_ix 1415 (by decide +kernel) rfl
theorem kz_1593 : ((Jvm.Cond.methodLink "NextMustShareLaw" (53 : Nat) ({ cls := "NextMustShareModel", name := "thrown", desc := "()I" } : Jvm.MethodName)) : Jvm.Cond) ∈ jTs := jTs_ix 1593 (by decide +kernel) rfl
theorem kz_1597 : ((Jvm.Cond.methodLink "NextMustShareLaw" (32 : Nat) ({ cls := "NextMustShareModel", name := "sign", desc := "(I)I" } : Jvm.MethodName)) : Jvm.Cond) ∈ jTs := jTs_ix 1597 (by decide +kernel) rfl
theorem kz_1601 : ((Jvm.Cond.methodLink "NextMustShareLaw" (37 : Nat) ({ cls := "NextMustShareModel", name := "end", desc := "(I)Z" } : Jvm.MethodName)) : Jvm.Cond) ∈ jTs := jTs_ix 1601 (by decide +kernel) rfl
theorem kz_1608 : ((Jvm.Cond.methodLink "NextMustShareLaw" (42 : Nat) ({ cls := "NextMustShareModel", name := "kitchen", desc := "()I" } : Jvm.MethodName)) : Jvm.Cond) ∈ jTs := jTs_ix 1608 (by decide +kernel) rfl
theorem kz_1644 : ((Jvm.Cond.methodLink "NextMustShareLaw" (46 : Nat) ({ cls := "NextMustShareModel", name := "rule", desc := "()I" } : Jvm.MethodName)) : Jvm.Cond) ∈ jTs := jTs_ix 1644 (by decide +kernel) rfl
theorem kz_1669 : ((Jvm.Cond.methodLink "NextMustShareLaw" (52 : Nat) ({ cls := "NextMustShareModel", name := "dish", desc := "(II)I" } : Jvm.MethodName)) : Jvm.Cond) ∈ jTs := jTs_ix 1669 (by decide +kernel) rfl
theorem kz_1695 : ((Jvm.Cond.methodLink "NextMustShareLaw" (58 : Nat) ({ cls := "NextMustShareModel", name := "guest", desc := "(II)I" } : Jvm.MethodName)) : Jvm.Cond) ∈ jTs := jTs_ix 1695 (by decide +kernel) rfl
theorem kz_1703 : ((Jvm.Cond.methodLink "NextMustShareLaw" (61 : Nat) ({ cls := "NextMustShareModel", name := "joy", desc := "(II)I" } : Jvm.MethodName)) : Jvm.Cond) ∈ jTs := jTs_ix 1703 (by decide +kernel) rfl
theorem kz_1707 : ((Jvm.Cond.methodLink "NextMustShareLaw" (65 : Nat) ({ cls := "NextMustShareModel", name := "law", desc := "(II)I" } : Jvm.MethodName)) : Jvm.Cond) ∈ jTs := jTs_ix 1707 (by decide +kernel) rfl
theorem kz_1714 : ((Jvm.Cond.methodLink "NextMustShareLaw" (69 : Nat) ({ cls := "NextMustShareModel", name := "store", desc := "(II)I" } : Jvm.MethodName)) : Jvm.Cond) ∈ jTs := jTs_ix 1714 (by decide +kernel) rfl
theorem kz_1718 : ((Jvm.Cond.methodLink "NextMustShareLaw" (74 : Nat) ({ cls := "NextMustShareModel", name := "sheet", desc := "(IIII)I" } : Jvm.MethodName)) : Jvm.Cond) ∈ jTs := jTs_ix 1718 (by decide +kernel) rfl
theorem kz_1722 : ((Jvm.Cond.methodLink "NextMustShareLaw" (78 : Nat) ({ cls := "NextMustShareModel", name := "serve", desc := "(I)I" } : Jvm.MethodName)) : Jvm.Cond) ∈ jTs := jTs_ix 1722 (by decide +kernel) rfl
theorem kz_1753 : ((Jvm.Cond.methodLink "NextMustShareLaw" (82 : Nat) ({ cls := "NextMustShareModel", name := "back", desc := "()I" } : Jvm.MethodName)) : Jvm.Cond) ∈ jTs := jTs_ix 1753 (by decide +kernel) rfl
theorem kz_1757 : ((Jvm.Cond.methodLink "NextMustShareLaw" (86 : Nat) ({ cls := "NextMustShareModel", name := "over", desc := "()I" } : Jvm.MethodName)) : Jvm.Cond) ∈ jTs := jTs_ix 1757 (by decide +kernel) rfl
theorem kz_1761 : ((Jvm.Cond.methodLink "NextMustShareLaw" (90 : Nat) ({ cls := "NextMustShareModel", name := "can", desc := "()I" } : Jvm.MethodName)) : Jvm.Cond) ∈ jTs := jTs_ix 1761 (by decide +kernel) rfl
theorem kz_1765 : ((Jvm.Cond.methodLink "NextMustShareLaw" (94 : Nat) ({ cls := "NextMustShareModel", name := "menu", desc := "(I)I" } : Jvm.MethodName)) : Jvm.Cond) ∈ jTs := jTs_ix 1765 (by decide +kernel) rfl
theorem kz_1769 : ((Jvm.Cond.methodLink "NextMustShareLaw" (98 : Nat) ({ cls := "NextMustShareModel", name := "look", desc := "(I)I" } : Jvm.MethodName)) : Jvm.Cond) ∈ jTs := jTs_ix 1769 (by decide +kernel) rfl
theorem kz_1789 : ((Jvm.Cond.methodLink "NextMustShareLaw" (103 : Nat) ({ cls := "NextMustShareModel", name := "swap", desc := "(III)Z" } : Jvm.MethodName)) : Jvm.Cond) ∈ jTs := jTs_ix 1789 (by decide +kernel) rfl
theorem kz_1793 : ((Jvm.Cond.methodLink "NextMustShareLaw" (107 : Nat) ({ cls := "NextMustShareModel", name := "turn", desc := "(I)Z" } : Jvm.MethodName)) : Jvm.Cond) ∈ jTs := jTs_ix 1793 (by decide +kernel) rfl
theorem kz_1797 : ((Jvm.Cond.methodLink "NextMustShareLaw" (111 : Nat) ({ cls := "NextMustShareModel", name := "joined", desc := "(II)I" } : Jvm.MethodName)) : Jvm.Cond) ∈ jTs := jTs_ix 1797 (by decide +kernel) rfl
theorem kz_1805 : ((Jvm.Cond.methodLink "NextMustShareLaw" (116 : Nat) ({ cls := "NextMustShareModel", name := "falls", desc := "(III)I" } : Jvm.MethodName)) : Jvm.Cond) ∈ jTs := jTs_ix 1805 (by decide +kernel) rfl
theorem kz_1813 : ((Jvm.Cond.methodLink "NextMustShareLaw" (120 : Nat) ({ cls := "NextMustShareModel", name := "longest", desc := "()I" } : Jvm.MethodName)) : Jvm.Cond) ∈ jTs := jTs_ix 1813 (by decide +kernel) rfl
theorem kz_1851 : ((Jvm.Cond.methodLink "NextMustShareLaw" (125 : Nat) ({ cls := "NextMustShareModel", name := "ways", desc := "(I)J" } : Jvm.MethodName)) : Jvm.Cond) ∈ jTs := jTs_ix 1851 (by decide +kernel) rfl
theorem kz_1856 : ((Jvm.Cond.methodLink "NextMustShareLaw" (129 : Nat) ({ cls := "NextMustShareModel", name := "between", desc := "(II)I" } : Jvm.MethodName)) : Jvm.Cond) ∈ jTs := jTs_ix 1856 (by decide +kernel) rfl
theorem kz_1868 : ((Jvm.Cond.methodLink "NextMustShareLaw" (133 : Nat) ({ cls := "NextMustShareModel", name := "shortest", desc := "(II)I" } : Jvm.MethodName)) : Jvm.Cond) ∈ jTs := jTs_ix 1868 (by decide +kernel) rfl
theorem kz_1872 : ((Jvm.Cond.methodLink "NextMustShareLaw" (137 : Nat) ({ cls := "NextMustShareModel", name := "bears", desc := "(I)I" } : Jvm.MethodName)) : Jvm.Cond) ∈ jTs := jTs_ix 1872 (by decide +kernel) rfl
theorem kz_1876 : ((Jvm.Cond.methodLink "NextMustShareLaw" (141 : Nat) ({ cls := "NextMustShareModel", name := "beside", desc := "(I)I" } : Jvm.MethodName)) : Jvm.Cond) ∈ jTs := jTs_ix 1876 (by decide +kernel) rfl
theorem kz_1884 : ((Jvm.Cond.methodLink "NextMustShareLaw" (145 : Nat) ({ cls := "NextMustShareModel", name := "parts", desc := "()I" } : Jvm.MethodName)) : Jvm.Cond) ∈ jTs := jTs_ix 1884 (by decide +kernel) rfl
theorem kz_1888 : ((Jvm.Cond.methodLink "NextMustShareLaw" (149 : Nat) ({ cls := "NextMustShareModel", name := "rare", desc := "()I" } : Jvm.MethodName)) : Jvm.Cond) ∈ jTs := jTs_ix 1888 (by decide +kernel) rfl
theorem kz_1892 : ((Jvm.Cond.methodLink "NextMustShareLaw" (153 : Nat) ({ cls := "NextMustShareModel", name := "round", desc := "()I" } : Jvm.MethodName)) : Jvm.Cond) ∈ jTs := jTs_ix 1892 (by decide +kernel) rfl
theorem kz_1896 : ((Jvm.Cond.methodLink "NextMustShareLaw" (157 : Nat) ({ cls := "NextMustShareModel", name := "shut", desc := "(I)I" } : Jvm.MethodName)) : Jvm.Cond) ∈ jTs := jTs_ix 1896 (by decide +kernel) rfl
theorem kz_1900 : ((Jvm.Cond.methodLink "NextMustShareLaw" (161 : Nat) ({ cls := "NextMustShareModel", name := "best", desc := "(II)I" } : Jvm.MethodName)) : Jvm.Cond) ∈ jTs := jTs_ix 1900 (by decide +kernel) rfl
theorem kz_1926 : ((Jvm.Cond.methodLink "NextMustShareLaw" (165 : Nat) ({ cls := "NextMustShareModel", name := "fair", desc := "(II)I" } : Jvm.MethodName)) : Jvm.Cond) ∈ jTs := jTs_ix 1926 (by decide +kernel) rfl
theorem kz_1930 : ((Jvm.Cond.methodLink "NextMustShareLaw" (169 : Nat) ({ cls := "NextMustShareModel", name := "cheap", desc := "(I)I" } : Jvm.MethodName)) : Jvm.Cond) ∈ jTs := jTs_ix 1930 (by decide +kernel) rfl
theorem kz_1939 : ((Jvm.Cond.methodLink "NextMustShareLaw" (173 : Nat) ({ cls := "NextMustShareModel", name := "dear", desc := "(I)I" } : Jvm.MethodName)) : Jvm.Cond) ∈ jTs := jTs_ix 1939 (by decide +kernel) rfl
theorem kz_1943 : ((Jvm.Cond.methodLink "NextMustShareLaw" (177 : Nat) ({ cls := "NextMustShareModel", name := "game", desc := "()I" } : Jvm.MethodName)) : Jvm.Cond) ∈ jTs := jTs_ix 1943 (by decide +kernel) rfl
theorem kz_1955 : ((Jvm.Cond.methodLink "NextMustShareLaw" (181 : Nat) ({ cls := "NextMustShareModel", name := "greedy", desc := "()I" } : Jvm.MethodName)) : Jvm.Cond) ∈ jTs := jTs_ix 1955 (by decide +kernel) rfl
theorem kz_1963 : ((Jvm.Cond.methodLink "NextMustShareLaw" (185 : Nat) ({ cls := "NextMustShareModel", name := "mend", desc := "(II)I" } : Jvm.MethodName)) : Jvm.Cond) ∈ jTs := jTs_ix 1963 (by decide +kernel) rfl
theorem kz_1975 : ((Jvm.Cond.methodLink "NextMustShareLaw" (189 : Nat) ({ cls := "NextMustShareModel", name := "fills", desc := "(I)J" } : Jvm.MethodName)) : Jvm.Cond) ∈ jTs := jTs_ix 1975 (by decide +kernel) rfl
theorem kz_1988 : ((Jvm.Cond.methodLink "NextMustShareLaw" (193 : Nat) ({ cls := "NextMustShareModel", name := "sure", desc := "(II)I" } : Jvm.MethodName)) : Jvm.Cond) ∈ jTs := jTs_ix 1988 (by decide +kernel) rfl
theorem kz_1992 : ((Jvm.Cond.methodLink "NextMustShareLaw" (197 : Nat) ({ cls := "NextMustShareModel", name := "hearths", desc := "(I)I" } : Jvm.MethodName)) : Jvm.Cond) ∈ jTs := jTs_ix 1992 (by decide +kernel) rfl
theorem kz_1996 : ((Jvm.Cond.methodLink "NextMustShareLaw" (201 : Nat) ({ cls := "NextMustShareModel", name := "late", desc := "(II)I" } : Jvm.MethodName)) : Jvm.Cond) ∈ jTs := jTs_ix 1996 (by decide +kernel) rfl
theorem kz_2000 : ((Jvm.Cond.methodLink "NextMustShareLaw" (205 : Nat) ({ cls := "NextMustShareModel", name := "poison", desc := "(II)I" } : Jvm.MethodName)) : Jvm.Cond) ∈ jTs := jTs_ix 2000 (by decide +kernel) rfl
theorem kz_2008 : ((Jvm.Cond.methodLink "NextMustShareLaw" (209 : Nat) ({ cls := "NextMustShareModel", name := "eats", desc := "(II)I" } : Jvm.MethodName)) : Jvm.Cond) ∈ jTs := jTs_ix 2008 (by decide +kernel) rfl
theorem kz_2012 : ((Jvm.Cond.methodLink "NextMustShareLaw" (213 : Nat) ({ cls := "NextMustShareModel", name := "made", desc := "()I" } : Jvm.MethodName)) : Jvm.Cond) ∈ jTs := jTs_ix 2012 (by decide +kernel) rfl
theorem kz_2020 : ((Jvm.Cond.methodLink "NextMustShareLaw" (217 : Nat) ({ cls := "NextMustShareModel", name := "keep", desc := "(I)Z" } : Jvm.MethodName)) : Jvm.Cond) ∈ jTs := jTs_ix 2020 (by decide +kernel) rfl
theorem kz_2024 : ((Jvm.Cond.methodLink "NextMustShareLaw" (221 : Nat) ({ cls := "NextMustShareModel", name := "again", desc := "(I)Z" } : Jvm.MethodName)) : Jvm.Cond) ∈ jTs := jTs_ix 2024 (by decide +kernel) rfl
theorem kz_2028 : ((Jvm.Cond.methodLink "NextMustShareLaw" (225 : Nat) ({ cls := "NextMustShareModel", name := "count", desc := "(I)I" } : Jvm.MethodName)) : Jvm.Cond) ∈ jTs := jTs_ix 2028 (by decide +kernel) rfl
theorem kz_2032 : ((Jvm.Cond.methodLink "NextMustShareLaw" (229 : Nat) ({ cls := "NextMustShareModel", name := "row", desc := "(I)I" } : Jvm.MethodName)) : Jvm.Cond) ∈ jTs := jTs_ix 2032 (by decide +kernel) rfl
theorem jq_X11_again : jIs[201]? = some (yX11_again, cX11_again, 2, (some .boolean), T_X11_again, 1, false) := by rfl
theorem jq_X11_back : jIs[157]? = some (yX11_back, cX11_back, 1, (some .int), T_X11_back, 0, false) := by rfl
theorem jq_X11_bears : jIs[172]? = some (yX11_bears, cX11_bears, 2, (some .int), T_X11_bears, 1, false) := by rfl
theorem jq_X11_beside : jIs[173]? = some (yX11_beside, cX11_beside, 2, (some .int), T_X11_beside, 1, false) := by rfl
theorem jq_X11_best : jIs[183]? = some (yX11_best, cX11_best, 4, (some .int), T_X11_best, 2, false) := by rfl
theorem jq_X11_between : jIs[170]? = some (yX11_between, cX11_between, 3, (some .int), T_X11_between, 2, false) := by rfl
theorem jq_X11_can : jIs[159]? = some (yX11_can, cX11_can, 3, (some .int), T_X11_can, 0, false) := by rfl
theorem jq_X11_cheap : jIs[185]? = some (yX11_cheap, cX11_cheap, 2, (some .int), T_X11_cheap, 1, false) := by rfl
theorem jq_X11_count : jIs[202]? = some (yX11_count, cX11_count, 2, (some .int), T_X11_count, 1, false) := by rfl
theorem jq_X11_dear : jIs[186]? = some (yX11_dear, cX11_dear, 2, (some .int), T_X11_dear, 1, false) := by rfl
theorem jq_X11_eats : jIs[198]? = some (yX11_eats, cX11_eats, 7, (some .int), T_X11_eats, 2, false) := by rfl
theorem jq_X11_end : jIs[146]? = some (yX11_end, cX11_end, 2, (some .boolean), T_X11_end, 1, false) := by rfl
theorem jq_X11_fair : jIs[184]? = some (yX11_fair, cX11_fair, 5, (some .int), T_X11_fair, 2, false) := by rfl
theorem jq_X11_falls : jIs[165]? = some (yX11_falls, cX11_falls, 6, (some .int), T_X11_falls, 3, false) := by rfl
theorem jq_X11_fills : jIs[192]? = some (yX11_fills, cX11_fills, 3, (some .long), T_X11_fills, 1, false) := by rfl
theorem jq_X11_game : jIs[189]? = some (yX11_game, cX11_game, 1, (some .int), T_X11_game, 0, false) := by rfl
theorem jq_X11_greedy : jIs[190]? = some (yX11_greedy, cX11_greedy, 1, (some .int), T_X11_greedy, 0, false) := by rfl
theorem jq_X11_hearths : jIs[195]? = some (yX11_hearths, cX11_hearths, 4, (some .int), T_X11_hearths, 1, false) := by rfl
theorem jq_X11_joined : jIs[164]? = some (yX11_joined, cX11_joined, 4, (some .int), T_X11_joined, 2, false) := by rfl
theorem jq_X11_keep : jIs[200]? = some (yX11_keep, cX11_keep, 2, (some .boolean), T_X11_keep, 1, false) := by rfl
theorem jq_X11_kitchen : jIs[147]? = some (yX11_kitchen, cX11_kitchen, 2, (some .int), T_X11_kitchen, 0, false) := by rfl
theorem jq_X11_late : jIs[196]? = some (yX11_late, cX11_late, 3, (some .int), T_X11_late, 2, false) := by rfl
theorem jq_X11_law : jIs[152]? = some (yX11_law, cX11_law, 3, (some .int), T_X11_law, 2, false) := by rfl
theorem jq_X11_longest : jIs[168]? = some (yX11_longest, cX11_longest, 1, (some .int), T_X11_longest, 0, false) := by rfl
theorem jq_X11_look : jIs[161]? = some (yX11_look, cX11_look, 5, (some .int), T_X11_look, 1, false) := by rfl
theorem jq_X11_made : jIs[199]? = some (yX11_made, cX11_made, 2, (some .int), T_X11_made, 0, false) := by rfl
theorem jq_X11_mend : jIs[191]? = some (yX11_mend, cX11_mend, 3, (some .int), T_X11_mend, 2, false) := by rfl
theorem jq_X11_menu : jIs[160]? = some (yX11_menu, cX11_menu, 3, (some .int), T_X11_menu, 1, false) := by rfl
theorem jq_X11_over : jIs[158]? = some (yX11_over, cX11_over, 2, (some .int), T_X11_over, 0, false) := by rfl
theorem jq_X11_parts : jIs[174]? = some (yX11_parts, cX11_parts, 4, (some .int), T_X11_parts, 0, false) := by rfl
theorem jq_X11_poison : jIs[197]? = some (yX11_poison, cX11_poison, 6, (some .int), T_X11_poison, 2, false) := by rfl
theorem jq_X11_rare : jIs[175]? = some (yX11_rare, cX11_rare, 5, (some .int), T_X11_rare, 0, false) := by rfl
theorem jq_X11_round : jIs[176]? = some (yX11_round, cX11_round, 5, (some .int), T_X11_round, 0, false) := by rfl
theorem jq_X11_rule : jIs[148]? = some (yX11_rule, cX11_rule, 2, (some .int), T_X11_rule, 0, false) := by rfl
theorem jq_X11_serve : jIs[156]? = some (yX11_serve, cX11_serve, 3, (some .int), T_X11_serve, 1, false) := by rfl
theorem jq_X11_sheet : jIs[154]? = some (yX11_sheet, cX11_sheet, 8, (some .int), T_X11_sheet, 4, false) := by rfl
theorem jq_X11_shortest : jIs[171]? = some (yX11_shortest, cX11_shortest, 3, (some .int), T_X11_shortest, 2, false) := by rfl
theorem jq_X11_shut : jIs[177]? = some (yX11_shut, cX11_shut, 2, (some .int), T_X11_shut, 1, false) := by rfl
theorem jq_X11_sign : jIs[145]? = some (yX11_sign, cX11_sign, 2, (some .int), T_X11_sign, 1, false) := by rfl
theorem jq_X11_store : jIs[153]? = some (yX11_store, cX11_store, 4, (some .int), T_X11_store, 2, false) := by rfl
theorem jq_X11_sure : jIs[193]? = some (yX11_sure, cX11_sure, 5, (some .int), T_X11_sure, 2, false) := by rfl
theorem jq_X11_swap : jIs[162]? = some (yX11_swap, cX11_swap, 4, (some .boolean), T_X11_swap, 3, false) := by rfl
theorem jq_X11_turn : jIs[163]? = some (yX11_turn, cX11_turn, 2, (some .boolean), T_X11_turn, 1, false) := by rfl
theorem jq_X11_ways : jIs[169]? = some (yX11_ways, cX11_ways, 2, (some .long), T_X11_ways, 1, false) := by rfl
theorem jq_X12_again : jIs[312]? = some (yX12_again, cX12_again, 4, (some .boolean), T_X12_again, 1, false) := by rfl
theorem jq_X12_back : jIs[246]? = some (yX12_back, cX12_back, 1, (some .int), T_X12_back, 0, false) := by rfl
theorem jq_X12_bears : jIs[275]? = some (yX12_bears, cX12_bears, 4, (some .int), T_X12_bears, 1, false) := by rfl
theorem jq_X12_beside : jIs[277]? = some (yX12_beside, cX12_beside, 2, (some .int), T_X12_beside, 1, false) := by rfl
theorem jq_X12_best : jIs[287]? = some (yX12_best, cX12_best, 3, (some .int), T_X12_best, 2, false) := by rfl
theorem jq_X12_between : jIs[273]? = some (yX12_between, cX12_between, 3, (some .int), T_X12_between, 2, false) := by rfl
theorem jq_X12_can : jIs[248]? = some (yX12_can, cX12_can, 3, (some .int), T_X12_can, 0, false) := by rfl
theorem jq_X12_cheap : jIs[290]? = some (yX12_cheap, cX12_cheap, 6, (some .int), T_X12_cheap, 1, false) := by rfl
theorem jq_X12_count : jIs[313]? = some (yX12_count, cX12_count, 4, (some .int), T_X12_count, 1, false) := by rfl
theorem jq_X12_dear : jIs[291]? = some (yX12_dear, cX12_dear, 2, (some .int), T_X12_dear, 1, false) := by rfl
theorem jq_X12_dish : jIs[232]? = some (yX12_dish, cX12_dish, 5, (some .int), T_X12_dish, 2, false) := by rfl
theorem jq_X12_eats : jIs[308]? = some (yX12_eats, cX12_eats, 8, (some .int), T_X12_eats, 2, false) := by rfl
theorem jq_X12_end : jIs[213]? = some (yX12_end, cX12_end, 2, (some .boolean), T_X12_end, 1, false) := by rfl
theorem jq_X12_fair : jIs[288]? = some (yX12_fair, cX12_fair, 3, (some .int), T_X12_fair, 2, false) := by rfl
theorem jq_X12_falls : jIs[259]? = some (yX12_falls, cX12_falls, 9, (some .int), T_X12_falls, 3, false) := by rfl
theorem jq_X12_fills : jIs[302]? = some (yX12_fills, cX12_fills, 7, (some .long), T_X12_fills, 1, false) := by rfl
theorem jq_X12_game : jIs[294]? = some (yX12_game, cX12_game, 2, (some .int), T_X12_game, 0, false) := by rfl
theorem jq_X12_greedy : jIs[296]? = some (yX12_greedy, cX12_greedy, 3, (some .int), T_X12_greedy, 0, false) := by rfl
theorem jq_X12_guest : jIs[233]? = some (yX12_guest, cX12_guest, 3, (some .int), T_X12_guest, 2, false) := by rfl
theorem jq_X12_hearths : jIs[304]? = some (yX12_hearths, cX12_hearths, 6, (some .int), T_X12_hearths, 1, false) := by rfl
theorem jq_X12_joined : jIs[257]? = some (yX12_joined, cX12_joined, 4, (some .int), T_X12_joined, 2, false) := by rfl
theorem jq_X12_joy : jIs[234]? = some (yX12_joy, cX12_joy, 3, (some .int), T_X12_joy, 2, false) := by rfl
theorem jq_X12_keep : jIs[311]? = some (yX12_keep, cX12_keep, 4, (some .boolean), T_X12_keep, 1, false) := by rfl
theorem jq_X12_kitchen : jIs[221]? = some (yX12_kitchen, cX12_kitchen, 5, (some .int), T_X12_kitchen, 0, false) := by rfl
theorem jq_X12_late : jIs[305]? = some (yX12_late, cX12_late, 7, (some .int), T_X12_late, 2, false) := by rfl
theorem jq_X12_law : jIs[236]? = some (yX12_law, cX12_law, 4, (some .int), T_X12_law, 2, false) := by rfl
theorem jq_X12_longest : jIs[269]? = some (yX12_longest, cX12_longest, 1, (some .int), T_X12_longest, 0, false) := by rfl
theorem jq_X12_look : jIs[254]? = some (yX12_look, cX12_look, 3, (some .int), T_X12_look, 1, false) := by rfl
theorem jq_X12_made : jIs[310]? = some (yX12_made, cX12_made, 3, (some .int), T_X12_made, 0, false) := by rfl
theorem jq_X12_mend : jIs[298]? = some (yX12_mend, cX12_mend, 9, (some .int), T_X12_mend, 2, false) := by rfl
theorem jq_X12_menu : jIs[249]? = some (yX12_menu, cX12_menu, 3, (some .int), T_X12_menu, 1, false) := by rfl
theorem jq_X12_over : jIs[247]? = some (yX12_over, cX12_over, 3, (some .int), T_X12_over, 0, false) := by rfl
theorem jq_X12_parts : jIs[278]? = some (yX12_parts, cX12_parts, 6, (some .int), T_X12_parts, 0, false) := by rfl
theorem jq_X12_poison : jIs[307]? = some (yX12_poison, cX12_poison, 5, (some .int), T_X12_poison, 2, false) := by rfl
theorem jq_X12_rare : jIs[279]? = some (yX12_rare, cX12_rare, 6, (some .int), T_X12_rare, 0, false) := by rfl
theorem jq_X12_round : jIs[280]? = some (yX12_round, cX12_round, 5, (some .int), T_X12_round, 0, false) := by rfl
theorem jq_X12_row : jIs[314]? = some (yX12_row, cX12_row, 2, (some .int), T_X12_row, 1, false) := by rfl
theorem jq_X12_rule : jIs[228]? = some (yX12_rule, cX12_rule, 3, (some .int), T_X12_rule, 0, false) := by rfl
theorem jq_X12_serve : jIs[245]? = some (yX12_serve, cX12_serve, 3, (some .int), T_X12_serve, 1, false) := by rfl
theorem jq_X12_sheet : jIs[238]? = some (yX12_sheet, cX12_sheet, 9, (some .int), T_X12_sheet, 4, false) := by rfl
theorem jq_X12_shortest : jIs[274]? = some (yX12_shortest, cX12_shortest, 3, (some .int), T_X12_shortest, 2, false) := by rfl
theorem jq_X12_shut : jIs[281]? = some (yX12_shut, cX12_shut, 5, (some .int), T_X12_shut, 1, false) := by rfl
theorem jq_X12_sign : jIs[212]? = some (yX12_sign, cX12_sign, 3, (some .int), T_X12_sign, 1, false) := by rfl
theorem jq_X12_store : jIs[237]? = some (yX12_store, cX12_store, 4, (some .int), T_X12_store, 2, false) := by rfl
theorem jq_X12_sure : jIs[303]? = some (yX12_sure, cX12_sure, 8, (some .int), T_X12_sure, 2, false) := by rfl
theorem jq_X12_swap : jIs[255]? = some (yX12_swap, cX12_swap, 5, (some .boolean), T_X12_swap, 3, false) := by rfl
theorem jq_X12_thrown : jIs[205]? = some (yX12_thrown, cX12_thrown, 1, (some .int), T_X12_thrown, 0, false) := by rfl
theorem jq_X12_turn : jIs[256]? = some (yX12_turn, cX12_turn, 5, (some .boolean), T_X12_turn, 1, false) := by rfl
theorem jq_X12_ways : jIs[270]? = some (yX12_ways, cX12_ways, 6, (some .long), T_X12_ways, 1, false) := by rfl

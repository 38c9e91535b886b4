theorem db6_1 : (decode cL_law 1063 = .ok (.iadd, 1)) ∧ (decode cL_law 1064 = .ok (.iaload, 1)) ∧ (decode cL_law 1065 = .ok (.invokevirtual 245, 3)) ∧ (decode cL_law 1068 = .ok (.istore 6, 2)) ∧ (decode cL_law 1070 = .ok (.goto 1290, 3)) ∧ (decode cL_law 1073 = .ok (.aload_n 1, 1)) ∧ (decode cL_law 1074 = .ok (.aload_n 0, 1)) ∧ (decode cL_law 1075 = .ok (.iload 4, 2)) ∧ (decode cL_law 1077 = .ok (.iconst 1, 1)) ∧ (decode cL_law 1078 = .ok (.iadd, 1)) ∧ (decode cL_law 1079 = .ok (.iaload, 1)) ∧ (decode cL_law 1080 = .ok (.aload_n 0, 1)) ∧ (decode cL_law 1081 = .ok (.iload 4, 2)) ∧ (decode cL_law 1083 = .ok (.iconst 2, 1)) ∧ (decode cL_law 1084 = .ok (.iadd, 1)) ∧ (decode cL_law 1085 = .ok (.iaload, 1)) := by decide +kernel
theorem dL_law_1063 : decode cL_law 1063 = .ok (.iadd, 1) := db6_1.1
theorem dL_law_1064 : decode cL_law 1064 = .ok (.iaload, 1) := db6_1.2.1
theorem dL_law_1065 : decode cL_law 1065 = .ok (.invokevirtual 245, 3) := db6_1.2.2.1
theorem dL_law_1068 : decode cL_law 1068 = .ok (.istore 6, 2) := db6_1.2.2.2.1
theorem dL_law_1070 : decode cL_law 1070 = .ok (.goto 1290, 3) := db6_1.2.2.2.2.1
theorem dL_law_1073 : decode cL_law 1073 = .ok (.aload_n 1, 1) := db6_1.2.2.2.2.2.1
theorem dL_law_1074 : decode cL_law 1074 = .ok (.aload_n 0, 1) := db6_1.2.2.2.2.2.2.1
theorem dL_law_1075 : decode cL_law 1075 = .ok (.iload 4, 2) := db6_1.2.2.2.2.2.2.2.1
theorem dL_law_1077 : decode cL_law 1077 = .ok (.iconst 1, 1) := db6_1.2.2.2.2.2.2.2.2.1
theorem dL_law_1078 : decode cL_law 1078 = .ok (.iadd, 1) := db6_1.2.2.2.2.2.2.2.2.2.1
theorem dL_law_1079 : decode cL_law 1079 = .ok (.iaload, 1) := db6_1.2.2.2.2.2.2.2.2.2.2.1
theorem dL_law_1080 : decode cL_law 1080 = .ok (.aload_n 0, 1) := db6_1.2.2.2.2.2.2.2.2.2.2.2.1
theorem dL_law_1081 : decode cL_law 1081 = .ok (.iload 4, 2) := db6_1.2.2.2.2.2.2.2.2.2.2.2.2.1
theorem dL_law_1083 : decode cL_law 1083 = .ok (.iconst 2, 1) := db6_1.2.2.2.2.2.2.2.2.2.2.2.2.2.1
theorem dL_law_1084 : decode cL_law 1084 = .ok (.iadd, 1) := db6_1.2.2.2.2.2.2.2.2.2.2.2.2.2.2.1
theorem dL_law_1085 : decode cL_law 1085 = .ok (.iaload, 1) := db6_1.2.2.2.2.2.2.2.2.2.2.2.2.2.2.2
theorem db6_2 : (decode cL_law 1086 = .ok (.aload_n 3, 1)) ∧ (decode cL_law 1087 = .ok (.invokestatic 246, 3)) ∧ (decode cL_law 1090 = .ok (.istore 5, 2)) ∧ (decode cL_law 1092 = .ok (.aload_n 2, 1)) ∧ (decode cL_law 1093 = .ok (.aload_n 0, 1)) ∧ (decode cL_law 1094 = .ok (.iload 4, 2)) ∧ (decode cL_law 1096 = .ok (.iconst 1, 1)) ∧ (decode cL_law 1097 = .ok (.iadd, 1)) ∧ (decode cL_law 1098 = .ok (.iaload, 1)) ∧ (decode cL_law 1099 = .ok (.aload_n 0, 1)) ∧ (decode cL_law 1100 = .ok (.iload 4, 2)) ∧ (decode cL_law 1102 = .ok (.iconst 2, 1)) ∧ (decode cL_law 1103 = .ok (.iadd, 1)) ∧ (decode cL_law 1104 = .ok (.iaload, 1)) ∧ (decode cL_law 1105 = .ok (.invokevirtual 248, 3)) ∧ (decode cL_law 1108 = .ok (.istore 6, 2)) := by decide +kernel
theorem dL_law_1086 : decode cL_law 1086 = .ok (.aload_n 3, 1) := db6_2.1
theorem dL_law_1087 : decode cL_law 1087 = .ok (.invokestatic 246, 3) := db6_2.2.1
theorem dL_law_1090 : decode cL_law 1090 = .ok (.istore 5, 2) := db6_2.2.2.1
theorem dL_law_1092 : decode cL_law 1092 = .ok (.aload_n 2, 1) := db6_2.2.2.2.1
theorem dL_law_1093 : decode cL_law 1093 = .ok (.aload_n 0, 1) := db6_2.2.2.2.2.1
theorem dL_law_1094 : decode cL_law 1094 = .ok (.iload 4, 2) := db6_2.2.2.2.2.2.1
theorem dL_law_1096 : decode cL_law 1096 = .ok (.iconst 1, 1) := db6_2.2.2.2.2.2.2.1
theorem dL_law_1097 : decode cL_law 1097 = .ok (.iadd, 1) := db6_2.2.2.2.2.2.2.2.1
theorem dL_law_1098 : decode cL_law 1098 = .ok (.iaload, 1) := db6_2.2.2.2.2.2.2.2.2.1
theorem dL_law_1099 : decode cL_law 1099 = .ok (.aload_n 0, 1) := db6_2.2.2.2.2.2.2.2.2.2.1
theorem dL_law_1100 : decode cL_law 1100 = .ok (.iload 4, 2) := db6_2.2.2.2.2.2.2.2.2.2.2.1
theorem dL_law_1102 : decode cL_law 1102 = .ok (.iconst 2, 1) := db6_2.2.2.2.2.2.2.2.2.2.2.2.1
theorem dL_law_1103 : decode cL_law 1103 = .ok (.iadd, 1) := db6_2.2.2.2.2.2.2.2.2.2.2.2.2.1
theorem dL_law_1104 : decode cL_law 1104 = .ok (.iaload, 1) := db6_2.2.2.2.2.2.2.2.2.2.2.2.2.2.1
theorem dL_law_1105 : decode cL_law 1105 = .ok (.invokevirtual 248, 3) := db6_2.2.2.2.2.2.2.2.2.2.2.2.2.2.2.1
theorem dL_law_1108 : decode cL_law 1108 = .ok (.istore 6, 2) := db6_2.2.2.2.2.2.2.2.2.2.2.2.2.2.2.2
theorem db6_3 : (decode cL_law 1110 = .ok (.goto 1250, 3)) ∧ (decode cL_law 1113 = .ok (.aload_n 1, 1)) ∧ (decode cL_law 1114 = .ok (.aload_n 0, 1)) ∧ (decode cL_law 1115 = .ok (.iload 4, 2)) ∧ (decode cL_law 1117 = .ok (.iconst 1, 1)) ∧ (decode cL_law 1118 = .ok (.iadd, 1)) ∧ (decode cL_law 1119 = .ok (.iaload, 1)) ∧ (decode cL_law 1120 = .ok (.aload_n 0, 1)) ∧ (decode cL_law 1121 = .ok (.iload 4, 2)) ∧ (decode cL_law 1123 = .ok (.iconst 2, 1)) ∧ (decode cL_law 1124 = .ok (.iadd, 1)) ∧ (decode cL_law 1125 = .ok (.iaload, 1)) ∧ (decode cL_law 1126 = .ok (.aload_n 3, 1)) ∧ (decode cL_law 1127 = .ok (.invokestatic 249, 3)) ∧ (decode cL_law 1130 = .ok (.istore 5, 2)) ∧ (decode cL_law 1132 = .ok (.aload_n 2, 1)) := by decide +kernel
theorem dL_law_1110 : decode cL_law 1110 = .ok (.goto 1250, 3) := db6_3.1
theorem dL_law_1113 : decode cL_law 1113 = .ok (.aload_n 1, 1) := db6_3.2.1
theorem dL_law_1114 : decode cL_law 1114 = .ok (.aload_n 0, 1) := db6_3.2.2.1
theorem dL_law_1115 : decode cL_law 1115 = .ok (.iload 4, 2) := db6_3.2.2.2.1
theorem dL_law_1117 : decode cL_law 1117 = .ok (.iconst 1, 1) := db6_3.2.2.2.2.1
theorem dL_law_1118 : decode cL_law 1118 = .ok (.iadd, 1) := db6_3.2.2.2.2.2.1
theorem dL_law_1119 : decode cL_law 1119 = .ok (.iaload, 1) := db6_3.2.2.2.2.2.2.1
theorem dL_law_1120 : decode cL_law 1120 = .ok (.aload_n 0, 1) := db6_3.2.2.2.2.2.2.2.1
theorem dL_law_1121 : decode cL_law 1121 = .ok (.iload 4, 2) := db6_3.2.2.2.2.2.2.2.2.1
theorem dL_law_1123 : decode cL_law 1123 = .ok (.iconst 2, 1) := db6_3.2.2.2.2.2.2.2.2.2.1
theorem dL_law_1124 : decode cL_law 1124 = .ok (.iadd, 1) := db6_3.2.2.2.2.2.2.2.2.2.2.1
theorem dL_law_1125 : decode cL_law 1125 = .ok (.iaload, 1) := db6_3.2.2.2.2.2.2.2.2.2.2.2.1
theorem dL_law_1126 : decode cL_law 1126 = .ok (.aload_n 3, 1) := db6_3.2.2.2.2.2.2.2.2.2.2.2.2.1
theorem dL_law_1127 : decode cL_law 1127 = .ok (.invokestatic 249, 3) := db6_3.2.2.2.2.2.2.2.2.2.2.2.2.2.1
theorem dL_law_1130 : decode cL_law 1130 = .ok (.istore 5, 2) := db6_3.2.2.2.2.2.2.2.2.2.2.2.2.2.2.1
theorem dL_law_1132 : decode cL_law 1132 = .ok (.aload_n 2, 1) := db6_3.2.2.2.2.2.2.2.2.2.2.2.2.2.2.2
theorem db6_4 : (decode cL_law 1133 = .ok (.aload_n 0, 1)) ∧ (decode cL_law 1134 = .ok (.iload 4, 2)) ∧ (decode cL_law 1136 = .ok (.iconst 1, 1)) ∧ (decode cL_law 1137 = .ok (.iadd, 1)) ∧ (decode cL_law 1138 = .ok (.iaload, 1)) ∧ (decode cL_law 1139 = .ok (.aload_n 0, 1)) ∧ (decode cL_law 1140 = .ok (.iload 4, 2)) ∧ (decode cL_law 1142 = .ok (.iconst 2, 1)) ∧ (decode cL_law 1143 = .ok (.iadd, 1)) ∧ (decode cL_law 1144 = .ok (.iaload, 1)) ∧ (decode cL_law 1145 = .ok (.invokevirtual 251, 3)) ∧ (decode cL_law 1148 = .ok (.istore 6, 2)) ∧ (decode cL_law 1150 = .ok (.goto 1210, 3)) ∧ (decode cL_law 1153 = .ok (.aload_n 1, 1)) ∧ (decode cL_law 1154 = .ok (.aload_n 0, 1)) ∧ (decode cL_law 1155 = .ok (.iload 4, 2)) := by decide +kernel
theorem dL_law_1133 : decode cL_law 1133 = .ok (.aload_n 0, 1) := db6_4.1
theorem dL_law_1134 : decode cL_law 1134 = .ok (.iload 4, 2) := db6_4.2.1
theorem dL_law_1136 : decode cL_law 1136 = .ok (.iconst 1, 1) := db6_4.2.2.1
theorem dL_law_1137 : decode cL_law 1137 = .ok (.iadd, 1) := db6_4.2.2.2.1
theorem dL_law_1138 : decode cL_law 1138 = .ok (.iaload, 1) := db6_4.2.2.2.2.1
theorem dL_law_1139 : decode cL_law 1139 = .ok (.aload_n 0, 1) := db6_4.2.2.2.2.2.1
theorem dL_law_1140 : decode cL_law 1140 = .ok (.iload 4, 2) := db6_4.2.2.2.2.2.2.1
theorem dL_law_1142 : decode cL_law 1142 = .ok (.iconst 2, 1) := db6_4.2.2.2.2.2.2.2.1
theorem dL_law_1143 : decode cL_law 1143 = .ok (.iadd, 1) := db6_4.2.2.2.2.2.2.2.2.1
theorem dL_law_1144 : decode cL_law 1144 = .ok (.iaload, 1) := db6_4.2.2.2.2.2.2.2.2.2.1
theorem dL_law_1145 : decode cL_law 1145 = .ok (.invokevirtual 251, 3) := db6_4.2.2.2.2.2.2.2.2.2.2.1
theorem dL_law_1148 : decode cL_law 1148 = .ok (.istore 6, 2) := db6_4.2.2.2.2.2.2.2.2.2.2.2.1
theorem dL_law_1150 : decode cL_law 1150 = .ok (.goto 1210, 3) := db6_4.2.2.2.2.2.2.2.2.2.2.2.2.1
theorem dL_law_1153 : decode cL_law 1153 = .ok (.aload_n 1, 1) := db6_4.2.2.2.2.2.2.2.2.2.2.2.2.2.1
theorem dL_law_1154 : decode cL_law 1154 = .ok (.aload_n 0, 1) := db6_4.2.2.2.2.2.2.2.2.2.2.2.2.2.2.1
theorem dL_law_1155 : decode cL_law 1155 = .ok (.iload 4, 2) := db6_4.2.2.2.2.2.2.2.2.2.2.2.2.2.2.2
theorem db6_5 : (decode cL_law 1157 = .ok (.iconst 1, 1)) ∧ (decode cL_law 1158 = .ok (.iadd, 1)) ∧ (decode cL_law 1159 = .ok (.iaload, 1)) ∧ (decode cL_law 1160 = .ok (.aload_n 0, 1)) ∧ (decode cL_law 1161 = .ok (.iload 4, 2)) ∧ (decode cL_law 1163 = .ok (.iconst 2, 1)) ∧ (decode cL_law 1164 = .ok (.iadd, 1)) ∧ (decode cL_law 1165 = .ok (.iaload, 1)) ∧ (decode cL_law 1166 = .ok (.aload_n 3, 1)) ∧ (decode cL_law 1167 = .ok (.invokestatic 252, 3)) ∧ (decode cL_law 1170 = .ok (.istore 5, 2)) ∧ (decode cL_law 1172 = .ok (.aload_n 2, 1)) ∧ (decode cL_law 1173 = .ok (.aload_n 0, 1)) ∧ (decode cL_law 1174 = .ok (.iload 4, 2)) ∧ (decode cL_law 1176 = .ok (.iconst 1, 1)) ∧ (decode cL_law 1177 = .ok (.iadd, 1)) := by decide +kernel
theorem dL_law_1157 : decode cL_law 1157 = .ok (.iconst 1, 1) := db6_5.1
theorem dL_law_1158 : decode cL_law 1158 = .ok (.iadd, 1) := db6_5.2.1
theorem dL_law_1159 : decode cL_law 1159 = .ok (.iaload, 1) := db6_5.2.2.1
theorem dL_law_1160 : decode cL_law 1160 = .ok (.aload_n 0, 1) := db6_5.2.2.2.1
theorem dL_law_1161 : decode cL_law 1161 = .ok (.iload 4, 2) := db6_5.2.2.2.2.1
theorem dL_law_1163 : decode cL_law 1163 = .ok (.iconst 2, 1) := db6_5.2.2.2.2.2.1
theorem dL_law_1164 : decode cL_law 1164 = .ok (.iadd, 1) := db6_5.2.2.2.2.2.2.1
theorem dL_law_1165 : decode cL_law 1165 = .ok (.iaload, 1) := db6_5.2.2.2.2.2.2.2.1
theorem dL_law_1166 : decode cL_law 1166 = .ok (.aload_n 3, 1) := db6_5.2.2.2.2.2.2.2.2.1
theorem dL_law_1167 : decode cL_law 1167 = .ok (.invokestatic 252, 3) := db6_5.2.2.2.2.2.2.2.2.2.1
theorem dL_law_1170 : decode cL_law 1170 = .ok (.istore 5, 2) := db6_5.2.2.2.2.2.2.2.2.2.2.1
theorem dL_law_1172 : decode cL_law 1172 = .ok (.aload_n 2, 1) := db6_5.2.2.2.2.2.2.2.2.2.2.2.1
theorem dL_law_1173 : decode cL_law 1173 = .ok (.aload_n 0, 1) := db6_5.2.2.2.2.2.2.2.2.2.2.2.2.1
theorem dL_law_1174 : decode cL_law 1174 = .ok (.iload 4, 2) := db6_5.2.2.2.2.2.2.2.2.2.2.2.2.2.1
theorem dL_law_1176 : decode cL_law 1176 = .ok (.iconst 1, 1) := db6_5.2.2.2.2.2.2.2.2.2.2.2.2.2.2.1
theorem dL_law_1177 : decode cL_law 1177 = .ok (.iadd, 1) := db6_5.2.2.2.2.2.2.2.2.2.2.2.2.2.2.2
theorem db6_6 : (decode cL_law 1178 = .ok (.iaload, 1)) ∧ (decode cL_law 1179 = .ok (.aload_n 0, 1)) ∧ (decode cL_law 1180 = .ok (.iload 4, 2)) ∧ (decode cL_law 1182 = .ok (.iconst 2, 1)) ∧ (decode cL_law 1183 = .ok (.iadd, 1)) ∧ (decode cL_law 1184 = .ok (.iaload, 1)) ∧ (decode cL_law 1185 = .ok (.invokevirtual 254, 3)) ∧ (decode cL_law 1188 = .ok (.istore 6, 2)) ∧ (decode cL_law 1190 = .ok (.goto 1170, 3)) ∧ (decode cL_law 1193 = .ok (.aload_n 1, 1)) ∧ (decode cL_law 1194 = .ok (.aload_n 0, 1)) ∧ (decode cL_law 1195 = .ok (.iload 4, 2)) ∧ (decode cL_law 1197 = .ok (.iconst 1, 1)) ∧ (decode cL_law 1198 = .ok (.iadd, 1)) ∧ (decode cL_law 1199 = .ok (.iaload, 1)) ∧ (decode cL_law 1200 = .ok (.aload_n 0, 1)) := by decide +kernel
theorem dL_law_1178 : decode cL_law 1178 = .ok (.iaload, 1) := db6_6.1
theorem dL_law_1179 : decode cL_law 1179 = .ok (.aload_n 0, 1) := db6_6.2.1
theorem dL_law_1180 : decode cL_law 1180 = .ok (.iload 4, 2) := db6_6.2.2.1
theorem dL_law_1182 : decode cL_law 1182 = .ok (.iconst 2, 1) := db6_6.2.2.2.1
theorem dL_law_1183 : decode cL_law 1183 = .ok (.iadd, 1) := db6_6.2.2.2.2.1
theorem dL_law_1184 : decode cL_law 1184 = .ok (.iaload, 1) := db6_6.2.2.2.2.2.1
theorem dL_law_1185 : decode cL_law 1185 = .ok (.invokevirtual 254, 3) := db6_6.2.2.2.2.2.2.1
theorem dL_law_1188 : decode cL_law 1188 = .ok (.istore 6, 2) := db6_6.2.2.2.2.2.2.2.1
theorem dL_law_1190 : decode cL_law 1190 = .ok (.goto 1170, 3) := db6_6.2.2.2.2.2.2.2.2.1
theorem dL_law_1193 : decode cL_law 1193 = .ok (.aload_n 1, 1) := db6_6.2.2.2.2.2.2.2.2.2.1
theorem dL_law_1194 : decode cL_law 1194 = .ok (.aload_n 0, 1) := db6_6.2.2.2.2.2.2.2.2.2.2.1
theorem dL_law_1195 : decode cL_law 1195 = .ok (.iload 4, 2) := db6_6.2.2.2.2.2.2.2.2.2.2.2.1
theorem dL_law_1197 : decode cL_law 1197 = .ok (.iconst 1, 1) := db6_6.2.2.2.2.2.2.2.2.2.2.2.2.1
theorem dL_law_1198 : decode cL_law 1198 = .ok (.iadd, 1) := db6_6.2.2.2.2.2.2.2.2.2.2.2.2.2.1
theorem dL_law_1199 : decode cL_law 1199 = .ok (.iaload, 1) := db6_6.2.2.2.2.2.2.2.2.2.2.2.2.2.2.1
theorem dL_law_1200 : decode cL_law 1200 = .ok (.aload_n 0, 1) := db6_6.2.2.2.2.2.2.2.2.2.2.2.2.2.2.2
theorem db6_7 : (decode cL_law 1201 = .ok (.iload 4, 2)) ∧ (decode cL_law 1203 = .ok (.iconst 2, 1)) ∧ (decode cL_law 1204 = .ok (.iadd, 1)) ∧ (decode cL_law 1205 = .ok (.iaload, 1)) ∧ (decode cL_law 1206 = .ok (.aload_n 3, 1)) ∧ (decode cL_law 1207 = .ok (.invokestatic 255, 3)) ∧ (decode cL_law 1210 = .ok (.istore 5, 2)) ∧ (decode cL_law 1212 = .ok (.aload_n 2, 1)) ∧ (decode cL_law 1213 = .ok (.aload_n 0, 1)) ∧ (decode cL_law 1214 = .ok (.iload 4, 2)) ∧ (decode cL_law 1216 = .ok (.iconst 1, 1)) ∧ (decode cL_law 1217 = .ok (.iadd, 1)) ∧ (decode cL_law 1218 = .ok (.iaload, 1)) ∧ (decode cL_law 1219 = .ok (.aload_n 0, 1)) ∧ (decode cL_law 1220 = .ok (.iload 4, 2)) ∧ (decode cL_law 1222 = .ok (.iconst 2, 1)) := by decide +kernel
theorem dL_law_1201 : decode cL_law 1201 = .ok (.iload 4, 2) := db6_7.1
theorem dL_law_1203 : decode cL_law 1203 = .ok (.iconst 2, 1) := db6_7.2.1
theorem dL_law_1204 : decode cL_law 1204 = .ok (.iadd, 1) := db6_7.2.2.1
theorem dL_law_1205 : decode cL_law 1205 = .ok (.iaload, 1) := db6_7.2.2.2.1
theorem dL_law_1206 : decode cL_law 1206 = .ok (.aload_n 3, 1) := db6_7.2.2.2.2.1
theorem dL_law_1207 : decode cL_law 1207 = .ok (.invokestatic 255, 3) := db6_7.2.2.2.2.2.1
theorem dL_law_1210 : decode cL_law 1210 = .ok (.istore 5, 2) := db6_7.2.2.2.2.2.2.1
theorem dL_law_1212 : decode cL_law 1212 = .ok (.aload_n 2, 1) := db6_7.2.2.2.2.2.2.2.1
theorem dL_law_1213 : decode cL_law 1213 = .ok (.aload_n 0, 1) := db6_7.2.2.2.2.2.2.2.2.1
theorem dL_law_1214 : decode cL_law 1214 = .ok (.iload 4, 2) := db6_7.2.2.2.2.2.2.2.2.2.1
theorem dL_law_1216 : decode cL_law 1216 = .ok (.iconst 1, 1) := db6_7.2.2.2.2.2.2.2.2.2.2.1
theorem dL_law_1217 : decode cL_law 1217 = .ok (.iadd, 1) := db6_7.2.2.2.2.2.2.2.2.2.2.2.1
theorem dL_law_1218 : decode cL_law 1218 = .ok (.iaload, 1) := db6_7.2.2.2.2.2.2.2.2.2.2.2.2.1
theorem dL_law_1219 : decode cL_law 1219 = .ok (.aload_n 0, 1) := db6_7.2.2.2.2.2.2.2.2.2.2.2.2.2.1
theorem dL_law_1220 : decode cL_law 1220 = .ok (.iload 4, 2) := db6_7.2.2.2.2.2.2.2.2.2.2.2.2.2.2.1
theorem dL_law_1222 : decode cL_law 1222 = .ok (.iconst 2, 1) := db6_7.2.2.2.2.2.2.2.2.2.2.2.2.2.2.2
theorem db6_8 : (decode cL_law 1223 = .ok (.iadd, 1)) ∧ (decode cL_law 1224 = .ok (.iaload, 1)) ∧ (decode cL_law 1225 = .ok (.invokevirtual 257, 3)) ∧ (decode cL_law 1228 = .ok (.istore 6, 2)) ∧ (decode cL_law 1230 = .ok (.goto 1130, 3)) ∧ (decode cL_law 1233 = .ok (.aload_n 1, 1)) ∧ (decode cL_law 1234 = .ok (.aload_n 0, 1)) ∧ (decode cL_law 1235 = .ok (.iload 4, 2)) ∧ (decode cL_law 1237 = .ok (.iconst 1, 1)) ∧ (decode cL_law 1238 = .ok (.iadd, 1)) ∧ (decode cL_law 1239 = .ok (.iaload, 1)) ∧ (decode cL_law 1240 = .ok (.aload_n 0, 1)) ∧ (decode cL_law 1241 = .ok (.iload 4, 2)) ∧ (decode cL_law 1243 = .ok (.iconst 2, 1)) ∧ (decode cL_law 1244 = .ok (.iadd, 1)) ∧ (decode cL_law 1245 = .ok (.iaload, 1)) := by decide +kernel
theorem dL_law_1223 : decode cL_law 1223 = .ok (.iadd, 1) := db6_8.1
theorem dL_law_1224 : decode cL_law 1224 = .ok (.iaload, 1) := db6_8.2.1
theorem dL_law_1225 : decode cL_law 1225 = .ok (.invokevirtual 257, 3) := db6_8.2.2.1
theorem dL_law_1228 : decode cL_law 1228 = .ok (.istore 6, 2) := db6_8.2.2.2.1
theorem dL_law_1230 : decode cL_law 1230 = .ok (.goto 1130, 3) := db6_8.2.2.2.2.1
theorem dL_law_1233 : decode cL_law 1233 = .ok (.aload_n 1, 1) := db6_8.2.2.2.2.2.1
theorem dL_law_1234 : decode cL_law 1234 = .ok (.aload_n 0, 1) := db6_8.2.2.2.2.2.2.1
theorem dL_law_1235 : decode cL_law 1235 = .ok (.iload 4, 2) := db6_8.2.2.2.2.2.2.2.1
theorem dL_law_1237 : decode cL_law 1237 = .ok (.iconst 1, 1) := db6_8.2.2.2.2.2.2.2.2.1
theorem dL_law_1238 : decode cL_law 1238 = .ok (.iadd, 1) := db6_8.2.2.2.2.2.2.2.2.2.1
theorem dL_law_1239 : decode cL_law 1239 = .ok (.iaload, 1) := db6_8.2.2.2.2.2.2.2.2.2.2.1
theorem dL_law_1240 : decode cL_law 1240 = .ok (.aload_n 0, 1) := db6_8.2.2.2.2.2.2.2.2.2.2.2.1
theorem dL_law_1241 : decode cL_law 1241 = .ok (.iload 4, 2) := db6_8.2.2.2.2.2.2.2.2.2.2.2.2.1
theorem dL_law_1243 : decode cL_law 1243 = .ok (.iconst 2, 1) := db6_8.2.2.2.2.2.2.2.2.2.2.2.2.2.1
theorem dL_law_1244 : decode cL_law 1244 = .ok (.iadd, 1) := db6_8.2.2.2.2.2.2.2.2.2.2.2.2.2.2.1
theorem dL_law_1245 : decode cL_law 1245 = .ok (.iaload, 1) := db6_8.2.2.2.2.2.2.2.2.2.2.2.2.2.2.2
theorem db6_9 : (decode cL_law 1246 = .ok (.aload_n 0, 1)) ∧ (decode cL_law 1247 = .ok (.iload 4, 2)) ∧ (decode cL_law 1249 = .ok (.iconst 3, 1)) ∧ (decode cL_law 1250 = .ok (.iadd, 1)) ∧ (decode cL_law 1251 = .ok (.iaload, 1)) ∧ (decode cL_law 1252 = .ok (.aload_n 3, 1)) ∧ (decode cL_law 1253 = .ok (.invokestatic 258, 3)) ∧ (decode cL_law 1256 = .ok (.istore 5, 2)) ∧ (decode cL_law 1258 = .ok (.aload_n 2, 1)) ∧ (decode cL_law 1259 = .ok (.aload_n 0, 1)) ∧ (decode cL_law 1260 = .ok (.iload 4, 2)) ∧ (decode cL_law 1262 = .ok (.iconst 1, 1)) ∧ (decode cL_law 1263 = .ok (.iadd, 1)) ∧ (decode cL_law 1264 = .ok (.iaload, 1)) ∧ (decode cL_law 1265 = .ok (.aload_n 0, 1)) ∧ (decode cL_law 1266 = .ok (.iload 4, 2)) := by decide +kernel
theorem dL_law_1246 : decode cL_law 1246 = .ok (.aload_n 0, 1) := db6_9.1
theorem dL_law_1247 : decode cL_law 1247 = .ok (.iload 4, 2) := db6_9.2.1
theorem dL_law_1249 : decode cL_law 1249 = .ok (.iconst 3, 1) := db6_9.2.2.1
theorem dL_law_1250 : decode cL_law 1250 = .ok (.iadd, 1) := db6_9.2.2.2.1
theorem dL_law_1251 : decode cL_law 1251 = .ok (.iaload, 1) := db6_9.2.2.2.2.1
theorem dL_law_1252 : decode cL_law 1252 = .ok (.aload_n 3, 1) := db6_9.2.2.2.2.2.1
theorem dL_law_1253 : decode cL_law 1253 = .ok (.invokestatic 258, 3) := db6_9.2.2.2.2.2.2.1
theorem dL_law_1256 : decode cL_law 1256 = .ok (.istore 5, 2) := db6_9.2.2.2.2.2.2.2.1
theorem dL_law_1258 : decode cL_law 1258 = .ok (.aload_n 2, 1) := db6_9.2.2.2.2.2.2.2.2.1
theorem dL_law_1259 : decode cL_law 1259 = .ok (.aload_n 0, 1) := db6_9.2.2.2.2.2.2.2.2.2.1
theorem dL_law_1260 : decode cL_law 1260 = .ok (.iload 4, 2) := db6_9.2.2.2.2.2.2.2.2.2.2.1
theorem dL_law_1262 : decode cL_law 1262 = .ok (.iconst 1, 1) := db6_9.2.2.2.2.2.2.2.2.2.2.2.1
theorem dL_law_1263 : decode cL_law 1263 = .ok (.iadd, 1) := db6_9.2.2.2.2.2.2.2.2.2.2.2.2.1
theorem dL_law_1264 : decode cL_law 1264 = .ok (.iaload, 1) := db6_9.2.2.2.2.2.2.2.2.2.2.2.2.2.1
theorem dL_law_1265 : decode cL_law 1265 = .ok (.aload_n 0, 1) := db6_9.2.2.2.2.2.2.2.2.2.2.2.2.2.2.1
theorem dL_law_1266 : decode cL_law 1266 = .ok (.iload 4, 2) := db6_9.2.2.2.2.2.2.2.2.2.2.2.2.2.2.2
theorem db6_10 : (decode cL_law 1268 = .ok (.iconst 2, 1)) ∧ (decode cL_law 1269 = .ok (.iadd, 1)) ∧ (decode cL_law 1270 = .ok (.iaload, 1)) ∧ (decode cL_law 1271 = .ok (.aload_n 0, 1)) ∧ (decode cL_law 1272 = .ok (.iload 4, 2)) ∧ (decode cL_law 1274 = .ok (.iconst 3, 1)) ∧ (decode cL_law 1275 = .ok (.iadd, 1)) ∧ (decode cL_law 1276 = .ok (.iaload, 1)) ∧ (decode cL_law 1277 = .ok (.invokevirtual 260, 3)) ∧ (decode cL_law 1280 = .ok (.istore 6, 2)) ∧ (decode cL_law 1282 = .ok (.goto 1078, 3)) ∧ (decode cL_law 1285 = .ok (.aload_n 1, 1)) ∧ (decode cL_law 1286 = .ok (.aload_n 0, 1)) ∧ (decode cL_law 1287 = .ok (.iload 4, 2)) ∧ (decode cL_law 1289 = .ok (.iconst 1, 1)) ∧ (decode cL_law 1290 = .ok (.iadd, 1)) := by decide +kernel
theorem dL_law_1268 : decode cL_law 1268 = .ok (.iconst 2, 1) := db6_10.1
theorem dL_law_1269 : decode cL_law 1269 = .ok (.iadd, 1) := db6_10.2.1
theorem dL_law_1270 : decode cL_law 1270 = .ok (.iaload, 1) := db6_10.2.2.1
theorem dL_law_1271 : decode cL_law 1271 = .ok (.aload_n 0, 1) := db6_10.2.2.2.1
theorem dL_law_1272 : decode cL_law 1272 = .ok (.iload 4, 2) := db6_10.2.2.2.2.1
theorem dL_law_1274 : decode cL_law 1274 = .ok (.iconst 3, 1) := db6_10.2.2.2.2.2.1
theorem dL_law_1275 : decode cL_law 1275 = .ok (.iadd, 1) := db6_10.2.2.2.2.2.2.1
theorem dL_law_1276 : decode cL_law 1276 = .ok (.iaload, 1) := db6_10.2.2.2.2.2.2.2.1
theorem dL_law_1277 : decode cL_law 1277 = .ok (.invokevirtual 260, 3) := db6_10.2.2.2.2.2.2.2.2.1
theorem dL_law_1280 : decode cL_law 1280 = .ok (.istore 6, 2) := db6_10.2.2.2.2.2.2.2.2.2.1
theorem dL_law_1282 : decode cL_law 1282 = .ok (.goto 1078, 3) := db6_10.2.2.2.2.2.2.2.2.2.2.1
theorem dL_law_1285 : decode cL_law 1285 = .ok (.aload_n 1, 1) := db6_10.2.2.2.2.2.2.2.2.2.2.2.1
theorem dL_law_1286 : decode cL_law 1286 = .ok (.aload_n 0, 1) := db6_10.2.2.2.2.2.2.2.2.2.2.2.2.1
theorem dL_law_1287 : decode cL_law 1287 = .ok (.iload 4, 2) := db6_10.2.2.2.2.2.2.2.2.2.2.2.2.2.1
theorem dL_law_1289 : decode cL_law 1289 = .ok (.iconst 1, 1) := db6_10.2.2.2.2.2.2.2.2.2.2.2.2.2.2.1
theorem dL_law_1290 : decode cL_law 1290 = .ok (.iadd, 1) := db6_10.2.2.2.2.2.2.2.2.2.2.2.2.2.2.2
theorem db6_11 : (decode cL_law 1291 = .ok (.iaload, 1)) ∧ (decode cL_law 1292 = .ok (.aload_n 0, 1)) ∧ (decode cL_law 1293 = .ok (.iload 4, 2)) ∧ (decode cL_law 1295 = .ok (.iconst 2, 1)) ∧ (decode cL_law 1296 = .ok (.iadd, 1)) ∧ (decode cL_law 1297 = .ok (.iaload, 1)) ∧ (decode cL_law 1298 = .ok (.aload_n 0, 1)) ∧ (decode cL_law 1299 = .ok (.iload 4, 2)) ∧ (decode cL_law 1301 = .ok (.iconst 3, 1)) ∧ (decode cL_law 1302 = .ok (.iadd, 1)) ∧ (decode cL_law 1303 = .ok (.iaload, 1)) ∧ (decode cL_law 1304 = .ok (.aload_n 3, 1)) ∧ (decode cL_law 1305 = .ok (.invokestatic 261, 3)) ∧ (decode cL_law 1308 = .ok (.istore 5, 2)) ∧ (decode cL_law 1310 = .ok (.aload_n 2, 1)) ∧ (decode cL_law 1311 = .ok (.aload_n 0, 1)) := by decide +kernel
theorem dL_law_1291 : decode cL_law 1291 = .ok (.iaload, 1) := db6_11.1
theorem dL_law_1292 : decode cL_law 1292 = .ok (.aload_n 0, 1) := db6_11.2.1
theorem dL_law_1293 : decode cL_law 1293 = .ok (.iload 4, 2) := db6_11.2.2.1
theorem dL_law_1295 : decode cL_law 1295 = .ok (.iconst 2, 1) := db6_11.2.2.2.1
theorem dL_law_1296 : decode cL_law 1296 = .ok (.iadd, 1) := db6_11.2.2.2.2.1
theorem dL_law_1297 : decode cL_law 1297 = .ok (.iaload, 1) := db6_11.2.2.2.2.2.1
theorem dL_law_1298 : decode cL_law 1298 = .ok (.aload_n 0, 1) := db6_11.2.2.2.2.2.2.1
theorem dL_law_1299 : decode cL_law 1299 = .ok (.iload 4, 2) := db6_11.2.2.2.2.2.2.2.1
theorem dL_law_1301 : decode cL_law 1301 = .ok (.iconst 3, 1) := db6_11.2.2.2.2.2.2.2.2.1
theorem dL_law_1302 : decode cL_law 1302 = .ok (.iadd, 1) := db6_11.2.2.2.2.2.2.2.2.2.1
theorem dL_law_1303 : decode cL_law 1303 = .ok (.iaload, 1) := db6_11.2.2.2.2.2.2.2.2.2.2.1
theorem dL_law_1304 : decode cL_law 1304 = .ok (.aload_n 3, 1) := db6_11.2.2.2.2.2.2.2.2.2.2.2.1
theorem dL_law_1305 : decode cL_law 1305 = .ok (.invokestatic 261, 3) := db6_11.2.2.2.2.2.2.2.2.2.2.2.2.1
theorem dL_law_1308 : decode cL_law 1308 = .ok (.istore 5, 2) := db6_11.2.2.2.2.2.2.2.2.2.2.2.2.2.1
theorem dL_law_1310 : decode cL_law 1310 = .ok (.aload_n 2, 1) := db6_11.2.2.2.2.2.2.2.2.2.2.2.2.2.2.1
theorem dL_law_1311 : decode cL_law 1311 = .ok (.aload_n 0, 1) := db6_11.2.2.2.2.2.2.2.2.2.2.2.2.2.2.2
theorem db6_12 : (decode cL_law 1312 = .ok (.iload 4, 2)) ∧ (decode cL_law 1314 = .ok (.iconst 1, 1)) ∧ (decode cL_law 1315 = .ok (.iadd, 1)) ∧ (decode cL_law 1316 = .ok (.iaload, 1)) ∧ (decode cL_law 1317 = .ok (.aload_n 0, 1)) ∧ (decode cL_law 1318 = .ok (.iload 4, 2)) ∧ (decode cL_law 1320 = .ok (.iconst 2, 1)) ∧ (decode cL_law 1321 = .ok (.iadd, 1)) ∧ (decode cL_law 1322 = .ok (.iaload, 1)) ∧ (decode cL_law 1323 = .ok (.aload_n 0, 1)) ∧ (decode cL_law 1324 = .ok (.iload 4, 2)) ∧ (decode cL_law 1326 = .ok (.iconst 3, 1)) ∧ (decode cL_law 1327 = .ok (.iadd, 1)) ∧ (decode cL_law 1328 = .ok (.iaload, 1)) ∧ (decode cL_law 1329 = .ok (.invokevirtual 263, 3)) ∧ (decode cL_law 1332 = .ok (.istore 6, 2)) := by decide +kernel
theorem dL_law_1312 : decode cL_law 1312 = .ok (.iload 4, 2) := db6_12.1
theorem dL_law_1314 : decode cL_law 1314 = .ok (.iconst 1, 1) := db6_12.2.1
theorem dL_law_1315 : decode cL_law 1315 = .ok (.iadd, 1) := db6_12.2.2.1
theorem dL_law_1316 : decode cL_law 1316 = .ok (.iaload, 1) := db6_12.2.2.2.1
theorem dL_law_1317 : decode cL_law 1317 = .ok (.aload_n 0, 1) := db6_12.2.2.2.2.1
theorem dL_law_1318 : decode cL_law 1318 = .ok (.iload 4, 2) := db6_12.2.2.2.2.2.1
theorem dL_law_1320 : decode cL_law 1320 = .ok (.iconst 2, 1) := db6_12.2.2.2.2.2.2.1
theorem dL_law_1321 : decode cL_law 1321 = .ok (.iadd, 1) := db6_12.2.2.2.2.2.2.2.1
theorem dL_law_1322 : decode cL_law 1322 = .ok (.iaload, 1) := db6_12.2.2.2.2.2.2.2.2.1
theorem dL_law_1323 : decode cL_law 1323 = .ok (.aload_n 0, 1) := db6_12.2.2.2.2.2.2.2.2.2.1
theorem dL_law_1324 : decode cL_law 1324 = .ok (.iload 4, 2) := db6_12.2.2.2.2.2.2.2.2.2.2.1
theorem dL_law_1326 : decode cL_law 1326 = .ok (.iconst 3, 1) := db6_12.2.2.2.2.2.2.2.2.2.2.2.1
theorem dL_law_1327 : decode cL_law 1327 = .ok (.iadd, 1) := db6_12.2.2.2.2.2.2.2.2.2.2.2.2.1
theorem dL_law_1328 : decode cL_law 1328 = .ok (.iaload, 1) := db6_12.2.2.2.2.2.2.2.2.2.2.2.2.2.1
theorem dL_law_1329 : decode cL_law 1329 = .ok (.invokevirtual 263, 3) := db6_12.2.2.2.2.2.2.2.2.2.2.2.2.2.2.1
theorem dL_law_1332 : decode cL_law 1332 = .ok (.istore 6, 2) := db6_12.2.2.2.2.2.2.2.2.2.2.2.2.2.2.2
theorem db6_13 : (decode cL_law 1334 = .ok (.goto 1026, 3)) ∧ (decode cL_law 1337 = .ok (.aload_n 1, 1)) ∧ (decode cL_law 1338 = .ok (.aload_n 0, 1)) ∧ (decode cL_law 1339 = .ok (.iload 4, 2)) ∧ (decode cL_law 1341 = .ok (.iconst 1, 1)) ∧ (decode cL_law 1342 = .ok (.iadd, 1)) ∧ (decode cL_law 1343 = .ok (.iaload, 1)) ∧ (decode cL_law 1344 = .ok (.aload_n 0, 1)) ∧ (decode cL_law 1345 = .ok (.iload 4, 2)) ∧ (decode cL_law 1347 = .ok (.iconst 2, 1)) ∧ (decode cL_law 1348 = .ok (.iadd, 1)) ∧ (decode cL_law 1349 = .ok (.iaload, 1)) ∧ (decode cL_law 1350 = .ok (.aload_n 0, 1)) ∧ (decode cL_law 1351 = .ok (.iload 4, 2)) ∧ (decode cL_law 1353 = .ok (.iconst 3, 1)) ∧ (decode cL_law 1354 = .ok (.iadd, 1)) := by decide +kernel
theorem dL_law_1334 : decode cL_law 1334 = .ok (.goto 1026, 3) := db6_13.1
theorem dL_law_1337 : decode cL_law 1337 = .ok (.aload_n 1, 1) := db6_13.2.1
theorem dL_law_1338 : decode cL_law 1338 = .ok (.aload_n 0, 1) := db6_13.2.2.1
theorem dL_law_1339 : decode cL_law 1339 = .ok (.iload 4, 2) := db6_13.2.2.2.1
theorem dL_law_1341 : decode cL_law 1341 = .ok (.iconst 1, 1) := db6_13.2.2.2.2.1
theorem dL_law_1342 : decode cL_law 1342 = .ok (.iadd, 1) := db6_13.2.2.2.2.2.1
theorem dL_law_1343 : decode cL_law 1343 = .ok (.iaload, 1) := db6_13.2.2.2.2.2.2.1
theorem dL_law_1344 : decode cL_law 1344 = .ok (.aload_n 0, 1) := db6_13.2.2.2.2.2.2.2.1
theorem dL_law_1345 : decode cL_law 1345 = .ok (.iload 4, 2) := db6_13.2.2.2.2.2.2.2.2.1
theorem dL_law_1347 : decode cL_law 1347 = .ok (.iconst 2, 1) := db6_13.2.2.2.2.2.2.2.2.2.1
theorem dL_law_1348 : decode cL_law 1348 = .ok (.iadd, 1) := db6_13.2.2.2.2.2.2.2.2.2.2.1
theorem dL_law_1349 : decode cL_law 1349 = .ok (.iaload, 1) := db6_13.2.2.2.2.2.2.2.2.2.2.2.1
theorem dL_law_1350 : decode cL_law 1350 = .ok (.aload_n 0, 1) := db6_13.2.2.2.2.2.2.2.2.2.2.2.2.1
theorem dL_law_1351 : decode cL_law 1351 = .ok (.iload 4, 2) := db6_13.2.2.2.2.2.2.2.2.2.2.2.2.2.1
theorem dL_law_1353 : decode cL_law 1353 = .ok (.iconst 3, 1) := db6_13.2.2.2.2.2.2.2.2.2.2.2.2.2.2.1
theorem dL_law_1354 : decode cL_law 1354 = .ok (.iadd, 1) := db6_13.2.2.2.2.2.2.2.2.2.2.2.2.2.2.2
theorem db6_14 : (decode cL_law 1355 = .ok (.iaload, 1)) ∧ (decode cL_law 1356 = .ok (.aload_n 3, 1)) ∧ (decode cL_law 1357 = .ok (.invokestatic 264, 3)) ∧ (decode cL_law 1360 = .ok (.istore 5, 2)) ∧ (decode cL_law 1362 = .ok (.aload_n 2, 1)) ∧ (decode cL_law 1363 = .ok (.aload_n 0, 1)) ∧ (decode cL_law 1364 = .ok (.iload 4, 2)) ∧ (decode cL_law 1366 = .ok (.iconst 1, 1)) ∧ (decode cL_law 1367 = .ok (.iadd, 1)) ∧ (decode cL_law 1368 = .ok (.iaload, 1)) ∧ (decode cL_law 1369 = .ok (.aload_n 0, 1)) ∧ (decode cL_law 1370 = .ok (.iload 4, 2)) ∧ (decode cL_law 1372 = .ok (.iconst 2, 1)) ∧ (decode cL_law 1373 = .ok (.iadd, 1)) ∧ (decode cL_law 1374 = .ok (.iaload, 1)) ∧ (decode cL_law 1375 = .ok (.aload_n 0, 1)) := by decide +kernel
theorem dL_law_1355 : decode cL_law 1355 = .ok (.iaload, 1) := db6_14.1
theorem dL_law_1356 : decode cL_law 1356 = .ok (.aload_n 3, 1) := db6_14.2.1
theorem dL_law_1357 : decode cL_law 1357 = .ok (.invokestatic 264, 3) := db6_14.2.2.1
theorem dL_law_1360 : decode cL_law 1360 = .ok (.istore 5, 2) := db6_14.2.2.2.1
theorem dL_law_1362 : decode cL_law 1362 = .ok (.aload_n 2, 1) := db6_14.2.2.2.2.1
theorem dL_law_1363 : decode cL_law 1363 = .ok (.aload_n 0, 1) := db6_14.2.2.2.2.2.1
theorem dL_law_1364 : decode cL_law 1364 = .ok (.iload 4, 2) := db6_14.2.2.2.2.2.2.1
theorem dL_law_1366 : decode cL_law 1366 = .ok (.iconst 1, 1) := db6_14.2.2.2.2.2.2.2.1
theorem dL_law_1367 : decode cL_law 1367 = .ok (.iadd, 1) := db6_14.2.2.2.2.2.2.2.2.1
theorem dL_law_1368 : decode cL_law 1368 = .ok (.iaload, 1) := db6_14.2.2.2.2.2.2.2.2.2.1
theorem dL_law_1369 : decode cL_law 1369 = .ok (.aload_n 0, 1) := db6_14.2.2.2.2.2.2.2.2.2.2.1
theorem dL_law_1370 : decode cL_law 1370 = .ok (.iload 4, 2) := db6_14.2.2.2.2.2.2.2.2.2.2.2.1
theorem dL_law_1372 : decode cL_law 1372 = .ok (.iconst 2, 1) := db6_14.2.2.2.2.2.2.2.2.2.2.2.2.1
theorem dL_law_1373 : decode cL_law 1373 = .ok (.iadd, 1) := db6_14.2.2.2.2.2.2.2.2.2.2.2.2.2.1
theorem dL_law_1374 : decode cL_law 1374 = .ok (.iaload, 1) := db6_14.2.2.2.2.2.2.2.2.2.2.2.2.2.2.1
theorem dL_law_1375 : decode cL_law 1375 = .ok (.aload_n 0, 1) := db6_14.2.2.2.2.2.2.2.2.2.2.2.2.2.2.2
theorem db6_15 : (decode cL_law 1376 = .ok (.iload 4, 2)) ∧ (decode cL_law 1378 = .ok (.iconst 3, 1)) ∧ (decode cL_law 1379 = .ok (.iadd, 1)) ∧ (decode cL_law 1380 = .ok (.iaload, 1)) ∧ (decode cL_law 1381 = .ok (.invokevirtual 266, 3)) ∧ (decode cL_law 1384 = .ok (.istore 6, 2)) ∧ (decode cL_law 1386 = .ok (.goto 974, 3)) ∧ (decode cL_law 1389 = .ok (.aload_n 1, 1)) ∧ (decode cL_law 1390 = .ok (.aload_n 0, 1)) ∧ (decode cL_law 1391 = .ok (.iload 4, 2)) ∧ (decode cL_law 1393 = .ok (.iconst 1, 1)) ∧ (decode cL_law 1394 = .ok (.iadd, 1)) ∧ (decode cL_law 1395 = .ok (.iaload, 1)) ∧ (decode cL_law 1396 = .ok (.aload_n 0, 1)) ∧ (decode cL_law 1397 = .ok (.iload 4, 2)) ∧ (decode cL_law 1399 = .ok (.iconst 2, 1)) := by decide +kernel
theorem dL_law_1376 : decode cL_law 1376 = .ok (.iload 4, 2) := db6_15.1
theorem dL_law_1378 : decode cL_law 1378 = .ok (.iconst 3, 1) := db6_15.2.1
theorem dL_law_1379 : decode cL_law 1379 = .ok (.iadd, 1) := db6_15.2.2.1
theorem dL_law_1380 : decode cL_law 1380 = .ok (.iaload, 1) := db6_15.2.2.2.1
theorem dL_law_1381 : decode cL_law 1381 = .ok (.invokevirtual 266, 3) := db6_15.2.2.2.2.1
theorem dL_law_1384 : decode cL_law 1384 = .ok (.istore 6, 2) := db6_15.2.2.2.2.2.1
theorem dL_law_1386 : decode cL_law 1386 = .ok (.goto 974, 3) := db6_15.2.2.2.2.2.2.1
theorem dL_law_1389 : decode cL_law 1389 = .ok (.aload_n 1, 1) := db6_15.2.2.2.2.2.2.2.1
theorem dL_law_1390 : decode cL_law 1390 = .ok (.aload_n 0, 1) := db6_15.2.2.2.2.2.2.2.2.1
theorem dL_law_1391 : decode cL_law 1391 = .ok (.iload 4, 2) := db6_15.2.2.2.2.2.2.2.2.2.1
theorem dL_law_1393 : decode cL_law 1393 = .ok (.iconst 1, 1) := db6_15.2.2.2.2.2.2.2.2.2.2.1
theorem dL_law_1394 : decode cL_law 1394 = .ok (.iadd, 1) := db6_15.2.2.2.2.2.2.2.2.2.2.2.1
theorem dL_law_1395 : decode cL_law 1395 = .ok (.iaload, 1) := db6_15.2.2.2.2.2.2.2.2.2.2.2.2.1
theorem dL_law_1396 : decode cL_law 1396 = .ok (.aload_n 0, 1) := db6_15.2.2.2.2.2.2.2.2.2.2.2.2.2.1
theorem dL_law_1397 : decode cL_law 1397 = .ok (.iload 4, 2) := db6_15.2.2.2.2.2.2.2.2.2.2.2.2.2.2.1
theorem dL_law_1399 : decode cL_law 1399 = .ok (.iconst 2, 1) := db6_15.2.2.2.2.2.2.2.2.2.2.2.2.2.2.2
theorem db6_16 : (decode cL_law 1400 = .ok (.iadd, 1)) ∧ (decode cL_law 1401 = .ok (.iaload, 1)) ∧ (decode cL_law 1402 = .ok (.aload_n 0, 1)) ∧ (decode cL_law 1403 = .ok (.iload 4, 2)) ∧ (decode cL_law 1405 = .ok (.iconst 3, 1)) ∧ (decode cL_law 1406 = .ok (.iadd, 1)) ∧ (decode cL_law 1407 = .ok (.iaload, 1)) ∧ (decode cL_law 1408 = .ok (.aload_n 3, 1)) ∧ (decode cL_law 1409 = .ok (.invokestatic 267, 3)) ∧ (decode cL_law 1412 = .ok (.istore 5, 2)) ∧ (decode cL_law 1414 = .ok (.aload_n 2, 1)) ∧ (decode cL_law 1415 = .ok (.aload_n 0, 1)) ∧ (decode cL_law 1416 = .ok (.iload 4, 2)) ∧ (decode cL_law 1418 = .ok (.iconst 1, 1)) ∧ (decode cL_law 1419 = .ok (.iadd, 1)) ∧ (decode cL_law 1420 = .ok (.iaload, 1)) := by decide +kernel
theorem dL_law_1400 : decode cL_law 1400 = .ok (.iadd, 1) := db6_16.1
theorem dL_law_1401 : decode cL_law 1401 = .ok (.iaload, 1) := db6_16.2.1
theorem dL_law_1402 : decode cL_law 1402 = .ok (.aload_n 0, 1) := db6_16.2.2.1
theorem dL_law_1403 : decode cL_law 1403 = .ok (.iload 4, 2) := db6_16.2.2.2.1
theorem dL_law_1405 : decode cL_law 1405 = .ok (.iconst 3, 1) := db6_16.2.2.2.2.1
theorem dL_law_1406 : decode cL_law 1406 = .ok (.iadd, 1) := db6_16.2.2.2.2.2.1
theorem dL_law_1407 : decode cL_law 1407 = .ok (.iaload, 1) := db6_16.2.2.2.2.2.2.1
theorem dL_law_1408 : decode cL_law 1408 = .ok (.aload_n 3, 1) := db6_16.2.2.2.2.2.2.2.1
theorem dL_law_1409 : decode cL_law 1409 = .ok (.invokestatic 267, 3) := db6_16.2.2.2.2.2.2.2.2.1
theorem dL_law_1412 : decode cL_law 1412 = .ok (.istore 5, 2) := db6_16.2.2.2.2.2.2.2.2.2.1
theorem dL_law_1414 : decode cL_law 1414 = .ok (.aload_n 2, 1) := db6_16.2.2.2.2.2.2.2.2.2.2.1
theorem dL_law_1415 : decode cL_law 1415 = .ok (.aload_n 0, 1) := db6_16.2.2.2.2.2.2.2.2.2.2.2.1
theorem dL_law_1416 : decode cL_law 1416 = .ok (.iload 4, 2) := db6_16.2.2.2.2.2.2.2.2.2.2.2.2.1
theorem dL_law_1418 : decode cL_law 1418 = .ok (.iconst 1, 1) := db6_16.2.2.2.2.2.2.2.2.2.2.2.2.2.1
theorem dL_law_1419 : decode cL_law 1419 = .ok (.iadd, 1) := db6_16.2.2.2.2.2.2.2.2.2.2.2.2.2.2.1
theorem dL_law_1420 : decode cL_law 1420 = .ok (.iaload, 1) := db6_16.2.2.2.2.2.2.2.2.2.2.2.2.2.2.2
theorem db6_17 : (decode cL_law 1421 = .ok (.aload_n 0, 1)) ∧ (decode cL_law 1422 = .ok (.iload 4, 2)) ∧ (decode cL_law 1424 = .ok (.iconst 2, 1)) ∧ (decode cL_law 1425 = .ok (.iadd, 1)) ∧ (decode cL_law 1426 = .ok (.iaload, 1)) ∧ (decode cL_law 1427 = .ok (.aload_n 0, 1)) ∧ (decode cL_law 1428 = .ok (.iload 4, 2)) ∧ (decode cL_law 1430 = .ok (.iconst 3, 1)) ∧ (decode cL_law 1431 = .ok (.iadd, 1)) ∧ (decode cL_law 1432 = .ok (.iaload, 1)) ∧ (decode cL_law 1433 = .ok (.invokevirtual 269, 3)) ∧ (decode cL_law 1436 = .ok (.astore 6, 2)) ∧ (decode cL_law 1438 = .ok (.goto 922, 3)) ∧ (decode cL_law 1441 = .ok (.aload_n 1, 1)) ∧ (decode cL_law 1442 = .ok (.aload_n 0, 1)) ∧ (decode cL_law 1443 = .ok (.iload 4, 2)) := by decide +kernel
theorem dL_law_1421 : decode cL_law 1421 = .ok (.aload_n 0, 1) := db6_17.1
theorem dL_law_1422 : decode cL_law 1422 = .ok (.iload 4, 2) := db6_17.2.1
theorem dL_law_1424 : decode cL_law 1424 = .ok (.iconst 2, 1) := db6_17.2.2.1
theorem dL_law_1425 : decode cL_law 1425 = .ok (.iadd, 1) := db6_17.2.2.2.1
theorem dL_law_1426 : decode cL_law 1426 = .ok (.iaload, 1) := db6_17.2.2.2.2.1
theorem dL_law_1427 : decode cL_law 1427 = .ok (.aload_n 0, 1) := db6_17.2.2.2.2.2.1
theorem dL_law_1428 : decode cL_law 1428 = .ok (.iload 4, 2) := db6_17.2.2.2.2.2.2.1
theorem dL_law_1430 : decode cL_law 1430 = .ok (.iconst 3, 1) := db6_17.2.2.2.2.2.2.2.1
theorem dL_law_1431 : decode cL_law 1431 = .ok (.iadd, 1) := db6_17.2.2.2.2.2.2.2.2.1
theorem dL_law_1432 : decode cL_law 1432 = .ok (.iaload, 1) := db6_17.2.2.2.2.2.2.2.2.2.1
theorem dL_law_1433 : decode cL_law 1433 = .ok (.invokevirtual 269, 3) := db6_17.2.2.2.2.2.2.2.2.2.2.1
theorem dL_law_1436 : decode cL_law 1436 = .ok (.astore 6, 2) := db6_17.2.2.2.2.2.2.2.2.2.2.2.1
theorem dL_law_1438 : decode cL_law 1438 = .ok (.goto 922, 3) := db6_17.2.2.2.2.2.2.2.2.2.2.2.2.1
theorem dL_law_1441 : decode cL_law 1441 = .ok (.aload_n 1, 1) := db6_17.2.2.2.2.2.2.2.2.2.2.2.2.2.1
theorem dL_law_1442 : decode cL_law 1442 = .ok (.aload_n 0, 1) := db6_17.2.2.2.2.2.2.2.2.2.2.2.2.2.2.1
theorem dL_law_1443 : decode cL_law 1443 = .ok (.iload 4, 2) := db6_17.2.2.2.2.2.2.2.2.2.2.2.2.2.2.2
theorem db6_18 : (decode cL_law 1445 = .ok (.iconst 1, 1)) ∧ (decode cL_law 1446 = .ok (.iadd, 1)) ∧ (decode cL_law 1447 = .ok (.iaload, 1)) ∧ (decode cL_law 1448 = .ok (.aload_n 0, 1)) ∧ (decode cL_law 1449 = .ok (.iload 4, 2)) ∧ (decode cL_law 1451 = .ok (.iconst 2, 1)) ∧ (decode cL_law 1452 = .ok (.iadd, 1)) ∧ (decode cL_law 1453 = .ok (.iaload, 1)) ∧ (decode cL_law 1454 = .ok (.aload_n 3, 1)) ∧ (decode cL_law 1455 = .ok (.invokestatic 270, 3)) ∧ (decode cL_law 1458 = .ok (.istore 5, 2)) ∧ (decode cL_law 1460 = .ok (.aload_n 2, 1)) ∧ (decode cL_law 1461 = .ok (.aload_n 0, 1)) ∧ (decode cL_law 1462 = .ok (.iload 4, 2)) ∧ (decode cL_law 1464 = .ok (.iconst 1, 1)) ∧ (decode cL_law 1465 = .ok (.iadd, 1)) := by decide +kernel
theorem dL_law_1445 : decode cL_law 1445 = .ok (.iconst 1, 1) := db6_18.1
theorem dL_law_1446 : decode cL_law 1446 = .ok (.iadd, 1) := db6_18.2.1
theorem dL_law_1447 : decode cL_law 1447 = .ok (.iaload, 1) := db6_18.2.2.1
theorem dL_law_1448 : decode cL_law 1448 = .ok (.aload_n 0, 1) := db6_18.2.2.2.1
theorem dL_law_1449 : decode cL_law 1449 = .ok (.iload 4, 2) := db6_18.2.2.2.2.1
theorem dL_law_1451 : decode cL_law 1451 = .ok (.iconst 2, 1) := db6_18.2.2.2.2.2.1
theorem dL_law_1452 : decode cL_law 1452 = .ok (.iadd, 1) := db6_18.2.2.2.2.2.2.1
theorem dL_law_1453 : decode cL_law 1453 = .ok (.iaload, 1) := db6_18.2.2.2.2.2.2.2.1
theorem dL_law_1454 : decode cL_law 1454 = .ok (.aload_n 3, 1) := db6_18.2.2.2.2.2.2.2.2.1
theorem dL_law_1455 : decode cL_law 1455 = .ok (.invokestatic 270, 3) := db6_18.2.2.2.2.2.2.2.2.2.1
theorem dL_law_1458 : decode cL_law 1458 = .ok (.istore 5, 2) := db6_18.2.2.2.2.2.2.2.2.2.2.1
theorem dL_law_1460 : decode cL_law 1460 = .ok (.aload_n 2, 1) := db6_18.2.2.2.2.2.2.2.2.2.2.2.1
theorem dL_law_1461 : decode cL_law 1461 = .ok (.aload_n 0, 1) := db6_18.2.2.2.2.2.2.2.2.2.2.2.2.1
theorem dL_law_1462 : decode cL_law 1462 = .ok (.iload 4, 2) := db6_18.2.2.2.2.2.2.2.2.2.2.2.2.2.1
theorem dL_law_1464 : decode cL_law 1464 = .ok (.iconst 1, 1) := db6_18.2.2.2.2.2.2.2.2.2.2.2.2.2.2.1
theorem dL_law_1465 : decode cL_law 1465 = .ok (.iadd, 1) := db6_18.2.2.2.2.2.2.2.2.2.2.2.2.2.2.2
theorem db6_19 : (decode cL_law 1466 = .ok (.iaload, 1)) ∧ (decode cL_law 1467 = .ok (.aload_n 0, 1)) ∧ (decode cL_law 1468 = .ok (.iload 4, 2)) ∧ (decode cL_law 1470 = .ok (.iconst 2, 1)) ∧ (decode cL_law 1471 = .ok (.iadd, 1)) ∧ (decode cL_law 1472 = .ok (.iaload, 1)) ∧ (decode cL_law 1473 = .ok (.invokevirtual 272, 3)) ∧ (decode cL_law 1476 = .ok (.istore 6, 2)) ∧ (decode cL_law 1478 = .ok (.goto 882, 3)) ∧ (decode cL_law 1481 = .ok (.aload_n 1, 1)) ∧ (decode cL_law 1482 = .ok (.aload_n 0, 1)) ∧ (decode cL_law 1483 = .ok (.iload 4, 2)) ∧ (decode cL_law 1485 = .ok (.iconst 1, 1)) ∧ (decode cL_law 1486 = .ok (.iadd, 1)) ∧ (decode cL_law 1487 = .ok (.iaload, 1)) ∧ (decode cL_law 1488 = .ok (.aload_n 3, 1)) := by decide +kernel
theorem dL_law_1466 : decode cL_law 1466 = .ok (.iaload, 1) := db6_19.1
theorem dL_law_1467 : decode cL_law 1467 = .ok (.aload_n 0, 1) := db6_19.2.1
theorem dL_law_1468 : decode cL_law 1468 = .ok (.iload 4, 2) := db6_19.2.2.1
theorem dL_law_1470 : decode cL_law 1470 = .ok (.iconst 2, 1) := db6_19.2.2.2.1
theorem dL_law_1471 : decode cL_law 1471 = .ok (.iadd, 1) := db6_19.2.2.2.2.1
theorem dL_law_1472 : decode cL_law 1472 = .ok (.iaload, 1) := db6_19.2.2.2.2.2.1
theorem dL_law_1473 : decode cL_law 1473 = .ok (.invokevirtual 272, 3) := db6_19.2.2.2.2.2.2.1
theorem dL_law_1476 : decode cL_law 1476 = .ok (.istore 6, 2) := db6_19.2.2.2.2.2.2.2.1
theorem dL_law_1478 : decode cL_law 1478 = .ok (.goto 882, 3) := db6_19.2.2.2.2.2.2.2.2.1
theorem dL_law_1481 : decode cL_law 1481 = .ok (.aload_n 1, 1) := db6_19.2.2.2.2.2.2.2.2.2.1
theorem dL_law_1482 : decode cL_law 1482 = .ok (.aload_n 0, 1) := db6_19.2.2.2.2.2.2.2.2.2.2.1
theorem dL_law_1483 : decode cL_law 1483 = .ok (.iload 4, 2) := db6_19.2.2.2.2.2.2.2.2.2.2.2.1
theorem dL_law_1485 : decode cL_law 1485 = .ok (.iconst 1, 1) := db6_19.2.2.2.2.2.2.2.2.2.2.2.2.1
theorem dL_law_1486 : decode cL_law 1486 = .ok (.iadd, 1) := db6_19.2.2.2.2.2.2.2.2.2.2.2.2.2.1
theorem dL_law_1487 : decode cL_law 1487 = .ok (.iaload, 1) := db6_19.2.2.2.2.2.2.2.2.2.2.2.2.2.2.1
theorem dL_law_1488 : decode cL_law 1488 = .ok (.aload_n 3, 1) := db6_19.2.2.2.2.2.2.2.2.2.2.2.2.2.2.2
theorem db6_20 : (decode cL_law 1489 = .ok (.invokestatic 273, 3)) ∧ (decode cL_law 1492 = .ok (.istore 5, 2)) ∧ (decode cL_law 1494 = .ok (.aload_n 2, 1)) ∧ (decode cL_law 1495 = .ok (.aload_n 0, 1)) ∧ (decode cL_law 1496 = .ok (.iload 4, 2)) ∧ (decode cL_law 1498 = .ok (.iconst 1, 1)) ∧ (decode cL_law 1499 = .ok (.iadd, 1)) ∧ (decode cL_law 1500 = .ok (.iaload, 1)) ∧ (decode cL_law 1501 = .ok (.invokevirtual 275, 3)) ∧ (decode cL_law 1504 = .ok (.istore 6, 2)) ∧ (decode cL_law 1506 = .ok (.goto 854, 3)) ∧ (decode cL_law 1509 = .ok (.aload_n 1, 1)) ∧ (decode cL_law 1510 = .ok (.aload_n 0, 1)) ∧ (decode cL_law 1511 = .ok (.iload 4, 2)) ∧ (decode cL_law 1513 = .ok (.iconst 1, 1)) ∧ (decode cL_law 1514 = .ok (.iadd, 1)) := by decide +kernel
theorem dL_law_1489 : decode cL_law 1489 = .ok (.invokestatic 273, 3) := db6_20.1
theorem dL_law_1492 : decode cL_law 1492 = .ok (.istore 5, 2) := db6_20.2.1
theorem dL_law_1494 : decode cL_law 1494 = .ok (.aload_n 2, 1) := db6_20.2.2.1
theorem dL_law_1495 : decode cL_law 1495 = .ok (.aload_n 0, 1) := db6_20.2.2.2.1
theorem dL_law_1496 : decode cL_law 1496 = .ok (.iload 4, 2) := db6_20.2.2.2.2.1
theorem dL_law_1498 : decode cL_law 1498 = .ok (.iconst 1, 1) := db6_20.2.2.2.2.2.1
theorem dL_law_1499 : decode cL_law 1499 = .ok (.iadd, 1) := db6_20.2.2.2.2.2.2.1
theorem dL_law_1500 : decode cL_law 1500 = .ok (.iaload, 1) := db6_20.2.2.2.2.2.2.2.1
theorem dL_law_1501 : decode cL_law 1501 = .ok (.invokevirtual 275, 3) := db6_20.2.2.2.2.2.2.2.2.1
theorem dL_law_1504 : decode cL_law 1504 = .ok (.istore 6, 2) := db6_20.2.2.2.2.2.2.2.2.2.1
theorem dL_law_1506 : decode cL_law 1506 = .ok (.goto 854, 3) := db6_20.2.2.2.2.2.2.2.2.2.2.1
theorem dL_law_1509 : decode cL_law 1509 = .ok (.aload_n 1, 1) := db6_20.2.2.2.2.2.2.2.2.2.2.2.1
theorem dL_law_1510 : decode cL_law 1510 = .ok (.aload_n 0, 1) := db6_20.2.2.2.2.2.2.2.2.2.2.2.2.1
theorem dL_law_1511 : decode cL_law 1511 = .ok (.iload 4, 2) := db6_20.2.2.2.2.2.2.2.2.2.2.2.2.2.1
theorem dL_law_1513 : decode cL_law 1513 = .ok (.iconst 1, 1) := db6_20.2.2.2.2.2.2.2.2.2.2.2.2.2.2.1
theorem dL_law_1514 : decode cL_law 1514 = .ok (.iadd, 1) := db6_20.2.2.2.2.2.2.2.2.2.2.2.2.2.2.2
theorem db6_21 : (decode cL_law 1515 = .ok (.iaload, 1)) ∧ (decode cL_law 1516 = .ok (.aload_n 0, 1)) ∧ (decode cL_law 1517 = .ok (.iload 4, 2)) ∧ (decode cL_law 1519 = .ok (.iconst 2, 1)) ∧ (decode cL_law 1520 = .ok (.iadd, 1)) ∧ (decode cL_law 1521 = .ok (.iaload, 1)) ∧ (decode cL_law 1522 = .ok (.aload_n 3, 1)) ∧ (decode cL_law 1523 = .ok (.invokestatic 276, 3)) ∧ (decode cL_law 1526 = .ok (.istore 5, 2)) ∧ (decode cL_law 1528 = .ok (.aload_n 2, 1)) ∧ (decode cL_law 1529 = .ok (.aload_n 0, 1)) ∧ (decode cL_law 1530 = .ok (.iload 4, 2)) ∧ (decode cL_law 1532 = .ok (.iconst 1, 1)) ∧ (decode cL_law 1533 = .ok (.iadd, 1)) ∧ (decode cL_law 1534 = .ok (.iaload, 1)) ∧ (decode cL_law 1535 = .ok (.aload_n 0, 1)) := by decide +kernel
theorem dL_law_1515 : decode cL_law 1515 = .ok (.iaload, 1) := db6_21.1
theorem dL_law_1516 : decode cL_law 1516 = .ok (.aload_n 0, 1) := db6_21.2.1
theorem dL_law_1517 : decode cL_law 1517 = .ok (.iload 4, 2) := db6_21.2.2.1
theorem dL_law_1519 : decode cL_law 1519 = .ok (.iconst 2, 1) := db6_21.2.2.2.1
theorem dL_law_1520 : decode cL_law 1520 = .ok (.iadd, 1) := db6_21.2.2.2.2.1
theorem dL_law_1521 : decode cL_law 1521 = .ok (.iaload, 1) := db6_21.2.2.2.2.2.1
theorem dL_law_1522 : decode cL_law 1522 = .ok (.aload_n 3, 1) := db6_21.2.2.2.2.2.2.1
theorem dL_law_1523 : decode cL_law 1523 = .ok (.invokestatic 276, 3) := db6_21.2.2.2.2.2.2.2.1
theorem dL_law_1526 : decode cL_law 1526 = .ok (.istore 5, 2) := db6_21.2.2.2.2.2.2.2.2.1
theorem dL_law_1528 : decode cL_law 1528 = .ok (.aload_n 2, 1) := db6_21.2.2.2.2.2.2.2.2.2.1
theorem dL_law_1529 : decode cL_law 1529 = .ok (.aload_n 0, 1) := db6_21.2.2.2.2.2.2.2.2.2.2.1
theorem dL_law_1530 : decode cL_law 1530 = .ok (.iload 4, 2) := db6_21.2.2.2.2.2.2.2.2.2.2.2.1
theorem dL_law_1532 : decode cL_law 1532 = .ok (.iconst 1, 1) := db6_21.2.2.2.2.2.2.2.2.2.2.2.2.1
theorem dL_law_1533 : decode cL_law 1533 = .ok (.iadd, 1) := db6_21.2.2.2.2.2.2.2.2.2.2.2.2.2.1
theorem dL_law_1534 : decode cL_law 1534 = .ok (.iaload, 1) := db6_21.2.2.2.2.2.2.2.2.2.2.2.2.2.2.1
theorem dL_law_1535 : decode cL_law 1535 = .ok (.aload_n 0, 1) := db6_21.2.2.2.2.2.2.2.2.2.2.2.2.2.2.2
theorem db6_22 : (decode cL_law 1536 = .ok (.iload 4, 2)) ∧ (decode cL_law 1538 = .ok (.iconst 2, 1)) ∧ (decode cL_law 1539 = .ok (.iadd, 1)) ∧ (decode cL_law 1540 = .ok (.iaload, 1)) ∧ (decode cL_law 1541 = .ok (.invokevirtual 278, 3)) ∧ (decode cL_law 1544 = .ok (.istore 6, 2)) ∧ (decode cL_law 1546 = .ok (.goto 814, 3)) ∧ (decode cL_law 1549 = .ok (.aload_n 1, 1)) ∧ (decode cL_law 1550 = .ok (.aload_n 0, 1)) ∧ (decode cL_law 1551 = .ok (.iload 4, 2)) ∧ (decode cL_law 1553 = .ok (.iconst 1, 1)) ∧ (decode cL_law 1554 = .ok (.iadd, 1)) ∧ (decode cL_law 1555 = .ok (.iaload, 1)) ∧ (decode cL_law 1556 = .ok (.aload_n 0, 1)) ∧ (decode cL_law 1557 = .ok (.iload 4, 2)) ∧ (decode cL_law 1559 = .ok (.iconst 2, 1)) := by decide +kernel
theorem dL_law_1536 : decode cL_law 1536 = .ok (.iload 4, 2) := db6_22.1
theorem dL_law_1538 : decode cL_law 1538 = .ok (.iconst 2, 1) := db6_22.2.1
theorem dL_law_1539 : decode cL_law 1539 = .ok (.iadd, 1) := db6_22.2.2.1
theorem dL_law_1540 : decode cL_law 1540 = .ok (.iaload, 1) := db6_22.2.2.2.1
theorem dL_law_1541 : decode cL_law 1541 = .ok (.invokevirtual 278, 3) := db6_22.2.2.2.2.1
theorem dL_law_1544 : decode cL_law 1544 = .ok (.istore 6, 2) := db6_22.2.2.2.2.2.1
theorem dL_law_1546 : decode cL_law 1546 = .ok (.goto 814, 3) := db6_22.2.2.2.2.2.2.1
theorem dL_law_1549 : decode cL_law 1549 = .ok (.aload_n 1, 1) := db6_22.2.2.2.2.2.2.2.1
theorem dL_law_1550 : decode cL_law 1550 = .ok (.aload_n 0, 1) := db6_22.2.2.2.2.2.2.2.2.1
theorem dL_law_1551 : decode cL_law 1551 = .ok (.iload 4, 2) := db6_22.2.2.2.2.2.2.2.2.2.1
theorem dL_law_1553 : decode cL_law 1553 = .ok (.iconst 1, 1) := db6_22.2.2.2.2.2.2.2.2.2.2.1
theorem dL_law_1554 : decode cL_law 1554 = .ok (.iadd, 1) := db6_22.2.2.2.2.2.2.2.2.2.2.2.1
theorem dL_law_1555 : decode cL_law 1555 = .ok (.iaload, 1) := db6_22.2.2.2.2.2.2.2.2.2.2.2.2.1
theorem dL_law_1556 : decode cL_law 1556 = .ok (.aload_n 0, 1) := db6_22.2.2.2.2.2.2.2.2.2.2.2.2.2.1
theorem dL_law_1557 : decode cL_law 1557 = .ok (.iload 4, 2) := db6_22.2.2.2.2.2.2.2.2.2.2.2.2.2.2.1
theorem dL_law_1559 : decode cL_law 1559 = .ok (.iconst 2, 1) := db6_22.2.2.2.2.2.2.2.2.2.2.2.2.2.2.2
theorem db6_23 : (decode cL_law 1560 = .ok (.iadd, 1)) ∧ (decode cL_law 1561 = .ok (.iaload, 1)) ∧ (decode cL_law 1562 = .ok (.aload_n 3, 1)) ∧ (decode cL_law 1563 = .ok (.invokestatic 279, 3)) ∧ (decode cL_law 1566 = .ok (.istore 5, 2)) ∧ (decode cL_law 1568 = .ok (.aload_n 2, 1)) ∧ (decode cL_law 1569 = .ok (.aload_n 0, 1)) ∧ (decode cL_law 1570 = .ok (.iload 4, 2)) ∧ (decode cL_law 1572 = .ok (.iconst 1, 1)) ∧ (decode cL_law 1573 = .ok (.iadd, 1)) ∧ (decode cL_law 1574 = .ok (.iaload, 1)) ∧ (decode cL_law 1575 = .ok (.aload_n 0, 1)) ∧ (decode cL_law 1576 = .ok (.iload 4, 2)) ∧ (decode cL_law 1578 = .ok (.iconst 2, 1)) ∧ (decode cL_law 1579 = .ok (.iadd, 1)) ∧ (decode cL_law 1580 = .ok (.iaload, 1)) := by decide +kernel
theorem dL_law_1560 : decode cL_law 1560 = .ok (.iadd, 1) := db6_23.1
theorem dL_law_1561 : decode cL_law 1561 = .ok (.iaload, 1) := db6_23.2.1
theorem dL_law_1562 : decode cL_law 1562 = .ok (.aload_n 3, 1) := db6_23.2.2.1
theorem dL_law_1563 : decode cL_law 1563 = .ok (.invokestatic 279, 3) := db6_23.2.2.2.1
theorem dL_law_1566 : decode cL_law 1566 = .ok (.istore 5, 2) := db6_23.2.2.2.2.1
theorem dL_law_1568 : decode cL_law 1568 = .ok (.aload_n 2, 1) := db6_23.2.2.2.2.2.1
theorem dL_law_1569 : decode cL_law 1569 = .ok (.aload_n 0, 1) := db6_23.2.2.2.2.2.2.1
theorem dL_law_1570 : decode cL_law 1570 = .ok (.iload 4, 2) := db6_23.2.2.2.2.2.2.2.1
theorem dL_law_1572 : decode cL_law 1572 = .ok (.iconst 1, 1) := db6_23.2.2.2.2.2.2.2.2.1
theorem dL_law_1573 : decode cL_law 1573 = .ok (.iadd, 1) := db6_23.2.2.2.2.2.2.2.2.2.1
theorem dL_law_1574 : decode cL_law 1574 = .ok (.iaload, 1) := db6_23.2.2.2.2.2.2.2.2.2.2.1
theorem dL_law_1575 : decode cL_law 1575 = .ok (.aload_n 0, 1) := db6_23.2.2.2.2.2.2.2.2.2.2.2.1
theorem dL_law_1576 : decode cL_law 1576 = .ok (.iload 4, 2) := db6_23.2.2.2.2.2.2.2.2.2.2.2.2.1
theorem dL_law_1578 : decode cL_law 1578 = .ok (.iconst 2, 1) := db6_23.2.2.2.2.2.2.2.2.2.2.2.2.2.1
theorem dL_law_1579 : decode cL_law 1579 = .ok (.iadd, 1) := db6_23.2.2.2.2.2.2.2.2.2.2.2.2.2.2.1
theorem dL_law_1580 : decode cL_law 1580 = .ok (.iaload, 1) := db6_23.2.2.2.2.2.2.2.2.2.2.2.2.2.2.2
theorem db6_24 : (decode cL_law 1581 = .ok (.invokevirtual 281, 3)) ∧ (decode cL_law 1584 = .ok (.istore 6, 2)) ∧ (decode cL_law 1586 = .ok (.goto 774, 3)) ∧ (decode cL_law 1589 = .ok (.aload_n 1, 1)) ∧ (decode cL_law 1590 = .ok (.aload_n 0, 1)) ∧ (decode cL_law 1591 = .ok (.iload 4, 2)) ∧ (decode cL_law 1593 = .ok (.iconst 1, 1)) ∧ (decode cL_law 1594 = .ok (.iadd, 1)) ∧ (decode cL_law 1595 = .ok (.iaload, 1)) ∧ (decode cL_law 1596 = .ok (.aload_n 3, 1)) ∧ (decode cL_law 1597 = .ok (.invokestatic 282, 3)) ∧ (decode cL_law 1600 = .ok (.istore 5, 2)) ∧ (decode cL_law 1602 = .ok (.aload_n 2, 1)) ∧ (decode cL_law 1603 = .ok (.aload_n 0, 1)) ∧ (decode cL_law 1604 = .ok (.iload 4, 2)) ∧ (decode cL_law 1606 = .ok (.iconst 1, 1)) := by decide +kernel
theorem dL_law_1581 : decode cL_law 1581 = .ok (.invokevirtual 281, 3) := db6_24.1
theorem dL_law_1584 : decode cL_law 1584 = .ok (.istore 6, 2) := db6_24.2.1
theorem dL_law_1586 : decode cL_law 1586 = .ok (.goto 774, 3) := db6_24.2.2.1
theorem dL_law_1589 : decode cL_law 1589 = .ok (.aload_n 1, 1) := db6_24.2.2.2.1
theorem dL_law_1590 : decode cL_law 1590 = .ok (.aload_n 0, 1) := db6_24.2.2.2.2.1
theorem dL_law_1591 : decode cL_law 1591 = .ok (.iload 4, 2) := db6_24.2.2.2.2.2.1
theorem dL_law_1593 : decode cL_law 1593 = .ok (.iconst 1, 1) := db6_24.2.2.2.2.2.2.1
theorem dL_law_1594 : decode cL_law 1594 = .ok (.iadd, 1) := db6_24.2.2.2.2.2.2.2.1
theorem dL_law_1595 : decode cL_law 1595 = .ok (.iaload, 1) := db6_24.2.2.2.2.2.2.2.2.1
theorem dL_law_1596 : decode cL_law 1596 = .ok (.aload_n 3, 1) := db6_24.2.2.2.2.2.2.2.2.2.1
theorem dL_law_1597 : decode cL_law 1597 = .ok (.invokestatic 282, 3) := db6_24.2.2.2.2.2.2.2.2.2.2.1
theorem dL_law_1600 : decode cL_law 1600 = .ok (.istore 5, 2) := db6_24.2.2.2.2.2.2.2.2.2.2.2.1
theorem dL_law_1602 : decode cL_law 1602 = .ok (.aload_n 2, 1) := db6_24.2.2.2.2.2.2.2.2.2.2.2.2.1
theorem dL_law_1603 : decode cL_law 1603 = .ok (.aload_n 0, 1) := db6_24.2.2.2.2.2.2.2.2.2.2.2.2.2.1
theorem dL_law_1604 : decode cL_law 1604 = .ok (.iload 4, 2) := db6_24.2.2.2.2.2.2.2.2.2.2.2.2.2.2.1
theorem dL_law_1606 : decode cL_law 1606 = .ok (.iconst 1, 1) := db6_24.2.2.2.2.2.2.2.2.2.2.2.2.2.2.2
theorem db6_25 : (decode cL_law 1607 = .ok (.iadd, 1)) ∧ (decode cL_law 1608 = .ok (.iaload, 1)) ∧ (decode cL_law 1609 = .ok (.invokevirtual 284, 3)) ∧ (decode cL_law 1612 = .ok (.istore 6, 2)) ∧ (decode cL_law 1614 = .ok (.goto 746, 3)) ∧ (decode cL_law 1617 = .ok (.aload_n 1, 1)) ∧ (decode cL_law 1618 = .ok (.aload_n 0, 1)) ∧ (decode cL_law 1619 = .ok (.iload 4, 2)) ∧ (decode cL_law 1621 = .ok (.iconst 1, 1)) ∧ (decode cL_law 1622 = .ok (.iadd, 1)) ∧ (decode cL_law 1623 = .ok (.iaload, 1)) ∧ (decode cL_law 1624 = .ok (.aload_n 0, 1)) ∧ (decode cL_law 1625 = .ok (.iload 4, 2)) ∧ (decode cL_law 1627 = .ok (.iconst 2, 1)) ∧ (decode cL_law 1628 = .ok (.iadd, 1)) ∧ (decode cL_law 1629 = .ok (.iaload, 1)) := by decide +kernel
theorem dL_law_1607 : decode cL_law 1607 = .ok (.iadd, 1) := db6_25.1
theorem dL_law_1608 : decode cL_law 1608 = .ok (.iaload, 1) := db6_25.2.1
theorem dL_law_1609 : decode cL_law 1609 = .ok (.invokevirtual 284, 3) := db6_25.2.2.1
theorem dL_law_1612 : decode cL_law 1612 = .ok (.istore 6, 2) := db6_25.2.2.2.1
theorem dL_law_1614 : decode cL_law 1614 = .ok (.goto 746, 3) := db6_25.2.2.2.2.1
theorem dL_law_1617 : decode cL_law 1617 = .ok (.aload_n 1, 1) := db6_25.2.2.2.2.2.1
theorem dL_law_1618 : decode cL_law 1618 = .ok (.aload_n 0, 1) := db6_25.2.2.2.2.2.2.1
theorem dL_law_1619 : decode cL_law 1619 = .ok (.iload 4, 2) := db6_25.2.2.2.2.2.2.2.1
theorem dL_law_1621 : decode cL_law 1621 = .ok (.iconst 1, 1) := db6_25.2.2.2.2.2.2.2.2.1
theorem dL_law_1622 : decode cL_law 1622 = .ok (.iadd, 1) := db6_25.2.2.2.2.2.2.2.2.2.1
theorem dL_law_1623 : decode cL_law 1623 = .ok (.iaload, 1) := db6_25.2.2.2.2.2.2.2.2.2.2.1
theorem dL_law_1624 : decode cL_law 1624 = .ok (.aload_n 0, 1) := db6_25.2.2.2.2.2.2.2.2.2.2.2.1
theorem dL_law_1625 : decode cL_law 1625 = .ok (.iload 4, 2) := db6_25.2.2.2.2.2.2.2.2.2.2.2.2.1
theorem dL_law_1627 : decode cL_law 1627 = .ok (.iconst 2, 1) := db6_25.2.2.2.2.2.2.2.2.2.2.2.2.2.1
theorem dL_law_1628 : decode cL_law 1628 = .ok (.iadd, 1) := db6_25.2.2.2.2.2.2.2.2.2.2.2.2.2.2.1
theorem dL_law_1629 : decode cL_law 1629 = .ok (.iaload, 1) := db6_25.2.2.2.2.2.2.2.2.2.2.2.2.2.2.2
theorem db6_26 : (decode cL_law 1630 = .ok (.aload_n 0, 1)) ∧ (decode cL_law 1631 = .ok (.iload 4, 2)) ∧ (decode cL_law 1633 = .ok (.iconst 3, 1)) ∧ (decode cL_law 1634 = .ok (.iadd, 1)) ∧ (decode cL_law 1635 = .ok (.iaload, 1)) ∧ (decode cL_law 1636 = .ok (.aload_n 3, 1)) ∧ (decode cL_law 1637 = .ok (.invokestatic 285, 3)) ∧ (decode cL_law 1640 = .ok (.istore 5, 2)) ∧ (decode cL_law 1642 = .ok (.aload_n 2, 1)) ∧ (decode cL_law 1643 = .ok (.aload_n 0, 1)) ∧ (decode cL_law 1644 = .ok (.iload 4, 2)) ∧ (decode cL_law 1646 = .ok (.iconst 1, 1)) ∧ (decode cL_law 1647 = .ok (.iadd, 1)) ∧ (decode cL_law 1648 = .ok (.iaload, 1)) ∧ (decode cL_law 1649 = .ok (.aload_n 0, 1)) ∧ (decode cL_law 1650 = .ok (.iload 4, 2)) := by decide +kernel
theorem dL_law_1630 : decode cL_law 1630 = .ok (.aload_n 0, 1) := db6_26.1
theorem dL_law_1631 : decode cL_law 1631 = .ok (.iload 4, 2) := db6_26.2.1
theorem dL_law_1633 : decode cL_law 1633 = .ok (.iconst 3, 1) := db6_26.2.2.1
theorem dL_law_1634 : decode cL_law 1634 = .ok (.iadd, 1) := db6_26.2.2.2.1
theorem dL_law_1635 : decode cL_law 1635 = .ok (.iaload, 1) := db6_26.2.2.2.2.1
theorem dL_law_1636 : decode cL_law 1636 = .ok (.aload_n 3, 1) := db6_26.2.2.2.2.2.1
theorem dL_law_1637 : decode cL_law 1637 = .ok (.invokestatic 285, 3) := db6_26.2.2.2.2.2.2.1
theorem dL_law_1640 : decode cL_law 1640 = .ok (.istore 5, 2) := db6_26.2.2.2.2.2.2.2.1
theorem dL_law_1642 : decode cL_law 1642 = .ok (.aload_n 2, 1) := db6_26.2.2.2.2.2.2.2.2.1
theorem dL_law_1643 : decode cL_law 1643 = .ok (.aload_n 0, 1) := db6_26.2.2.2.2.2.2.2.2.2.1
theorem dL_law_1644 : decode cL_law 1644 = .ok (.iload 4, 2) := db6_26.2.2.2.2.2.2.2.2.2.2.1
theorem dL_law_1646 : decode cL_law 1646 = .ok (.iconst 1, 1) := db6_26.2.2.2.2.2.2.2.2.2.2.2.1
theorem dL_law_1647 : decode cL_law 1647 = .ok (.iadd, 1) := db6_26.2.2.2.2.2.2.2.2.2.2.2.2.1
theorem dL_law_1648 : decode cL_law 1648 = .ok (.iaload, 1) := db6_26.2.2.2.2.2.2.2.2.2.2.2.2.2.1
theorem dL_law_1649 : decode cL_law 1649 = .ok (.aload_n 0, 1) := db6_26.2.2.2.2.2.2.2.2.2.2.2.2.2.2.1
theorem dL_law_1650 : decode cL_law 1650 = .ok (.iload 4, 2) := db6_26.2.2.2.2.2.2.2.2.2.2.2.2.2.2.2
theorem db6_27 : (decode cL_law 1652 = .ok (.iconst 2, 1)) ∧ (decode cL_law 1653 = .ok (.iadd, 1)) ∧ (decode cL_law 1654 = .ok (.iaload, 1)) ∧ (decode cL_law 1655 = .ok (.aload_n 0, 1)) ∧ (decode cL_law 1656 = .ok (.iload 4, 2)) ∧ (decode cL_law 1658 = .ok (.iconst 3, 1)) ∧ (decode cL_law 1659 = .ok (.iadd, 1)) ∧ (decode cL_law 1660 = .ok (.iaload, 1)) ∧ (decode cL_law 1661 = .ok (.invokevirtual 287, 3)) ∧ (decode cL_law 1664 = .ok (.istore 6, 2)) ∧ (decode cL_law 1666 = .ok (.goto 694, 3)) ∧ (decode cL_law 1669 = .ok (.aload_n 1, 1)) ∧ (decode cL_law 1670 = .ok (.aload_n 0, 1)) ∧ (decode cL_law 1671 = .ok (.iload 4, 2)) ∧ (decode cL_law 1673 = .ok (.iconst 1, 1)) ∧ (decode cL_law 1674 = .ok (.iadd, 1)) := by decide +kernel
theorem dL_law_1652 : decode cL_law 1652 = .ok (.iconst 2, 1) := db6_27.1
theorem dL_law_1653 : decode cL_law 1653 = .ok (.iadd, 1) := db6_27.2.1
theorem dL_law_1654 : decode cL_law 1654 = .ok (.iaload, 1) := db6_27.2.2.1
theorem dL_law_1655 : decode cL_law 1655 = .ok (.aload_n 0, 1) := db6_27.2.2.2.1
theorem dL_law_1656 : decode cL_law 1656 = .ok (.iload 4, 2) := db6_27.2.2.2.2.1
theorem dL_law_1658 : decode cL_law 1658 = .ok (.iconst 3, 1) := db6_27.2.2.2.2.2.1
theorem dL_law_1659 : decode cL_law 1659 = .ok (.iadd, 1) := db6_27.2.2.2.2.2.2.1
theorem dL_law_1660 : decode cL_law 1660 = .ok (.iaload, 1) := db6_27.2.2.2.2.2.2.2.1
theorem dL_law_1661 : decode cL_law 1661 = .ok (.invokevirtual 287, 3) := db6_27.2.2.2.2.2.2.2.2.1
theorem dL_law_1664 : decode cL_law 1664 = .ok (.istore 6, 2) := db6_27.2.2.2.2.2.2.2.2.2.1
theorem dL_law_1666 : decode cL_law 1666 = .ok (.goto 694, 3) := db6_27.2.2.2.2.2.2.2.2.2.2.1
theorem dL_law_1669 : decode cL_law 1669 = .ok (.aload_n 1, 1) := db6_27.2.2.2.2.2.2.2.2.2.2.2.1
theorem dL_law_1670 : decode cL_law 1670 = .ok (.aload_n 0, 1) := db6_27.2.2.2.2.2.2.2.2.2.2.2.2.1
theorem dL_law_1671 : decode cL_law 1671 = .ok (.iload 4, 2) := db6_27.2.2.2.2.2.2.2.2.2.2.2.2.2.1
theorem dL_law_1673 : decode cL_law 1673 = .ok (.iconst 1, 1) := db6_27.2.2.2.2.2.2.2.2.2.2.2.2.2.2.1
theorem dL_law_1674 : decode cL_law 1674 = .ok (.iadd, 1) := db6_27.2.2.2.2.2.2.2.2.2.2.2.2.2.2.2
theorem db6_28 : (decode cL_law 1675 = .ok (.iaload, 1)) ∧ (decode cL_law 1676 = .ok (.aload_n 0, 1)) ∧ (decode cL_law 1677 = .ok (.iload 4, 2)) ∧ (decode cL_law 1679 = .ok (.iconst 2, 1)) ∧ (decode cL_law 1680 = .ok (.iadd, 1)) ∧ (decode cL_law 1681 = .ok (.iaload, 1)) ∧ (decode cL_law 1682 = .ok (.aload_n 0, 1)) ∧ (decode cL_law 1683 = .ok (.iload 4, 2)) ∧ (decode cL_law 1685 = .ok (.iconst 3, 1)) ∧ (decode cL_law 1686 = .ok (.iadd, 1)) ∧ (decode cL_law 1687 = .ok (.iaload, 1)) ∧ (decode cL_law 1688 = .ok (.aload_n 3, 1)) ∧ (decode cL_law 1689 = .ok (.invokestatic 288, 3)) ∧ (decode cL_law 1692 = .ok (.istore 5, 2)) ∧ (decode cL_law 1694 = .ok (.aload_n 2, 1)) ∧ (decode cL_law 1695 = .ok (.aload_n 0, 1)) := by decide +kernel
theorem dL_law_1675 : decode cL_law 1675 = .ok (.iaload, 1) := db6_28.1
theorem dL_law_1676 : decode cL_law 1676 = .ok (.aload_n 0, 1) := db6_28.2.1
theorem dL_law_1677 : decode cL_law 1677 = .ok (.iload 4, 2) := db6_28.2.2.1
theorem dL_law_1679 : decode cL_law 1679 = .ok (.iconst 2, 1) := db6_28.2.2.2.1
theorem dL_law_1680 : decode cL_law 1680 = .ok (.iadd, 1) := db6_28.2.2.2.2.1
theorem dL_law_1681 : decode cL_law 1681 = .ok (.iaload, 1) := db6_28.2.2.2.2.2.1
theorem dL_law_1682 : decode cL_law 1682 = .ok (.aload_n 0, 1) := db6_28.2.2.2.2.2.2.1
theorem dL_law_1683 : decode cL_law 1683 = .ok (.iload 4, 2) := db6_28.2.2.2.2.2.2.2.1
theorem dL_law_1685 : decode cL_law 1685 = .ok (.iconst 3, 1) := db6_28.2.2.2.2.2.2.2.2.1
theorem dL_law_1686 : decode cL_law 1686 = .ok (.iadd, 1) := db6_28.2.2.2.2.2.2.2.2.2.1
theorem dL_law_1687 : decode cL_law 1687 = .ok (.iaload, 1) := db6_28.2.2.2.2.2.2.2.2.2.2.1
theorem dL_law_1688 : decode cL_law 1688 = .ok (.aload_n 3, 1) := db6_28.2.2.2.2.2.2.2.2.2.2.2.1
theorem dL_law_1689 : decode cL_law 1689 = .ok (.invokestatic 288, 3) := db6_28.2.2.2.2.2.2.2.2.2.2.2.2.1
theorem dL_law_1692 : decode cL_law 1692 = .ok (.istore 5, 2) := db6_28.2.2.2.2.2.2.2.2.2.2.2.2.2.1
theorem dL_law_1694 : decode cL_law 1694 = .ok (.aload_n 2, 1) := db6_28.2.2.2.2.2.2.2.2.2.2.2.2.2.2.1
theorem dL_law_1695 : decode cL_law 1695 = .ok (.aload_n 0, 1) := db6_28.2.2.2.2.2.2.2.2.2.2.2.2.2.2.2
theorem db6_29 : (decode cL_law 1696 = .ok (.iload 4, 2)) ∧ (decode cL_law 1698 = .ok (.iconst 1, 1)) ∧ (decode cL_law 1699 = .ok (.iadd, 1)) ∧ (decode cL_law 1700 = .ok (.iaload, 1)) ∧ (decode cL_law 1701 = .ok (.aload_n 0, 1)) ∧ (decode cL_law 1702 = .ok (.iload 4, 2)) ∧ (decode cL_law 1704 = .ok (.iconst 2, 1)) ∧ (decode cL_law 1705 = .ok (.iadd, 1)) ∧ (decode cL_law 1706 = .ok (.iaload, 1)) ∧ (decode cL_law 1707 = .ok (.aload_n 0, 1)) ∧ (decode cL_law 1708 = .ok (.iload 4, 2)) ∧ (decode cL_law 1710 = .ok (.iconst 3, 1)) ∧ (decode cL_law 1711 = .ok (.iadd, 1)) ∧ (decode cL_law 1712 = .ok (.iaload, 1)) ∧ (decode cL_law 1713 = .ok (.invokevirtual 290, 3)) ∧ (decode cL_law 1716 = .ok (.istore 6, 2)) := by decide +kernel
theorem dL_law_1696 : decode cL_law 1696 = .ok (.iload 4, 2) := db6_29.1
theorem dL_law_1698 : decode cL_law 1698 = .ok (.iconst 1, 1) := db6_29.2.1
theorem dL_law_1699 : decode cL_law 1699 = .ok (.iadd, 1) := db6_29.2.2.1
theorem dL_law_1700 : decode cL_law 1700 = .ok (.iaload, 1) := db6_29.2.2.2.1
theorem dL_law_1701 : decode cL_law 1701 = .ok (.aload_n 0, 1) := db6_29.2.2.2.2.1
theorem dL_law_1702 : decode cL_law 1702 = .ok (.iload 4, 2) := db6_29.2.2.2.2.2.1
theorem dL_law_1704 : decode cL_law 1704 = .ok (.iconst 2, 1) := db6_29.2.2.2.2.2.2.1
theorem dL_law_1705 : decode cL_law 1705 = .ok (.iadd, 1) := db6_29.2.2.2.2.2.2.2.1
theorem dL_law_1706 : decode cL_law 1706 = .ok (.iaload, 1) := db6_29.2.2.2.2.2.2.2.2.1
theorem dL_law_1707 : decode cL_law 1707 = .ok (.aload_n 0, 1) := db6_29.2.2.2.2.2.2.2.2.2.1
theorem dL_law_1708 : decode cL_law 1708 = .ok (.iload 4, 2) := db6_29.2.2.2.2.2.2.2.2.2.2.1
theorem dL_law_1710 : decode cL_law 1710 = .ok (.iconst 3, 1) := db6_29.2.2.2.2.2.2.2.2.2.2.2.1
theorem dL_law_1711 : decode cL_law 1711 = .ok (.iadd, 1) := db6_29.2.2.2.2.2.2.2.2.2.2.2.2.1
theorem dL_law_1712 : decode cL_law 1712 = .ok (.iaload, 1) := db6_29.2.2.2.2.2.2.2.2.2.2.2.2.2.1
theorem dL_law_1713 : decode cL_law 1713 = .ok (.invokevirtual 290, 3) := db6_29.2.2.2.2.2.2.2.2.2.2.2.2.2.2.1
theorem dL_law_1716 : decode cL_law 1716 = .ok (.istore 6, 2) := db6_29.2.2.2.2.2.2.2.2.2.2.2.2.2.2.2
theorem db6_30 : (decode cL_law 1718 = .ok (.goto 642, 3)) ∧ (decode cL_law 1721 = .ok (.aload_n 1, 1)) ∧ (decode cL_law 1722 = .ok (.aload_n 0, 1)) ∧ (decode cL_law 1723 = .ok (.iload 4, 2)) ∧ (decode cL_law 1725 = .ok (.iconst 1, 1)) ∧ (decode cL_law 1726 = .ok (.iadd, 1)) ∧ (decode cL_law 1727 = .ok (.iaload, 1)) ∧ (decode cL_law 1728 = .ok (.aload_n 0, 1)) ∧ (decode cL_law 1729 = .ok (.iload 4, 2)) ∧ (decode cL_law 1731 = .ok (.iconst 2, 1)) ∧ (decode cL_law 1732 = .ok (.iadd, 1)) ∧ (decode cL_law 1733 = .ok (.iaload, 1)) ∧ (decode cL_law 1734 = .ok (.aload_n 0, 1)) ∧ (decode cL_law 1735 = .ok (.iload 4, 2)) ∧ (decode cL_law 1737 = .ok (.iconst 3, 1)) ∧ (decode cL_law 1738 = .ok (.iadd, 1)) := by decide +kernel
theorem dL_law_1718 : decode cL_law 1718 = .ok (.goto 642, 3) := db6_30.1
theorem dL_law_1721 : decode cL_law 1721 = .ok (.aload_n 1, 1) := db6_30.2.1
theorem dL_law_1722 : decode cL_law 1722 = .ok (.aload_n 0, 1) := db6_30.2.2.1
theorem dL_law_1723 : decode cL_law 1723 = .ok (.iload 4, 2) := db6_30.2.2.2.1
theorem dL_law_1725 : decode cL_law 1725 = .ok (.iconst 1, 1) := db6_30.2.2.2.2.1
theorem dL_law_1726 : decode cL_law 1726 = .ok (.iadd, 1) := db6_30.2.2.2.2.2.1
theorem dL_law_1727 : decode cL_law 1727 = .ok (.iaload, 1) := db6_30.2.2.2.2.2.2.1
theorem dL_law_1728 : decode cL_law 1728 = .ok (.aload_n 0, 1) := db6_30.2.2.2.2.2.2.2.1
theorem dL_law_1729 : decode cL_law 1729 = .ok (.iload 4, 2) := db6_30.2.2.2.2.2.2.2.2.1
theorem dL_law_1731 : decode cL_law 1731 = .ok (.iconst 2, 1) := db6_30.2.2.2.2.2.2.2.2.2.1
theorem dL_law_1732 : decode cL_law 1732 = .ok (.iadd, 1) := db6_30.2.2.2.2.2.2.2.2.2.2.1
theorem dL_law_1733 : decode cL_law 1733 = .ok (.iaload, 1) := db6_30.2.2.2.2.2.2.2.2.2.2.2.1
theorem dL_law_1734 : decode cL_law 1734 = .ok (.aload_n 0, 1) := db6_30.2.2.2.2.2.2.2.2.2.2.2.2.1
theorem dL_law_1735 : decode cL_law 1735 = .ok (.iload 4, 2) := db6_30.2.2.2.2.2.2.2.2.2.2.2.2.2.1
theorem dL_law_1737 : decode cL_law 1737 = .ok (.iconst 3, 1) := db6_30.2.2.2.2.2.2.2.2.2.2.2.2.2.2.1
theorem dL_law_1738 : decode cL_law 1738 = .ok (.iadd, 1) := db6_30.2.2.2.2.2.2.2.2.2.2.2.2.2.2.2
theorem db6_31 : (decode cL_law 1739 = .ok (.iaload, 1)) ∧ (decode cL_law 1740 = .ok (.aload_n 3, 1)) ∧ (decode cL_law 1741 = .ok (.invokestatic 291, 3)) ∧ (decode cL_law 1744 = .ok (.istore 5, 2)) ∧ (decode cL_law 1746 = .ok (.aload_n 2, 1)) ∧ (decode cL_law 1747 = .ok (.aload_n 0, 1)) ∧ (decode cL_law 1748 = .ok (.iload 4, 2)) ∧ (decode cL_law 1750 = .ok (.iconst 1, 1)) ∧ (decode cL_law 1751 = .ok (.iadd, 1)) ∧ (decode cL_law 1752 = .ok (.iaload, 1)) ∧ (decode cL_law 1753 = .ok (.aload_n 0, 1)) ∧ (decode cL_law 1754 = .ok (.iload 4, 2)) ∧ (decode cL_law 1756 = .ok (.iconst 2, 1)) ∧ (decode cL_law 1757 = .ok (.iadd, 1)) ∧ (decode cL_law 1758 = .ok (.iaload, 1)) ∧ (decode cL_law 1759 = .ok (.aload_n 0, 1)) := by decide +kernel
theorem dL_law_1739 : decode cL_law 1739 = .ok (.iaload, 1) := db6_31.1
theorem dL_law_1740 : decode cL_law 1740 = .ok (.aload_n 3, 1) := db6_31.2.1
theorem dL_law_1741 : decode cL_law 1741 = .ok (.invokestatic 291, 3) := db6_31.2.2.1
theorem dL_law_1744 : decode cL_law 1744 = .ok (.istore 5, 2) := db6_31.2.2.2.1
theorem dL_law_1746 : decode cL_law 1746 = .ok (.aload_n 2, 1) := db6_31.2.2.2.2.1
theorem dL_law_1747 : decode cL_law 1747 = .ok (.aload_n 0, 1) := db6_31.2.2.2.2.2.1
theorem dL_law_1748 : decode cL_law 1748 = .ok (.iload 4, 2) := db6_31.2.2.2.2.2.2.1
theorem dL_law_1750 : decode cL_law 1750 = .ok (.iconst 1, 1) := db6_31.2.2.2.2.2.2.2.1
theorem dL_law_1751 : decode cL_law 1751 = .ok (.iadd, 1) := db6_31.2.2.2.2.2.2.2.2.1
theorem dL_law_1752 : decode cL_law 1752 = .ok (.iaload, 1) := db6_31.2.2.2.2.2.2.2.2.2.1
theorem dL_law_1753 : decode cL_law 1753 = .ok (.aload_n 0, 1) := db6_31.2.2.2.2.2.2.2.2.2.2.1
theorem dL_law_1754 : decode cL_law 1754 = .ok (.iload 4, 2) := db6_31.2.2.2.2.2.2.2.2.2.2.2.1
theorem dL_law_1756 : decode cL_law 1756 = .ok (.iconst 2, 1) := db6_31.2.2.2.2.2.2.2.2.2.2.2.2.1
theorem dL_law_1757 : decode cL_law 1757 = .ok (.iadd, 1) := db6_31.2.2.2.2.2.2.2.2.2.2.2.2.2.1
theorem dL_law_1758 : decode cL_law 1758 = .ok (.iaload, 1) := db6_31.2.2.2.2.2.2.2.2.2.2.2.2.2.2.1
theorem dL_law_1759 : decode cL_law 1759 = .ok (.aload_n 0, 1) := db6_31.2.2.2.2.2.2.2.2.2.2.2.2.2.2.2
theorem db6_32 : (decode cL_law 1760 = .ok (.iload 4, 2)) ∧ (decode cL_law 1762 = .ok (.iconst 3, 1)) ∧ (decode cL_law 1763 = .ok (.iadd, 1)) ∧ (decode cL_law 1764 = .ok (.iaload, 1)) ∧ (decode cL_law 1765 = .ok (.invokevirtual 293, 3)) ∧ (decode cL_law 1768 = .ok (.istore 6, 2)) ∧ (decode cL_law 1770 = .ok (.goto 590, 3)) ∧ (decode cL_law 1773 = .ok (.aload_n 1, 1)) ∧ (decode cL_law 1774 = .ok (.aload_n 0, 1)) ∧ (decode cL_law 1775 = .ok (.iload 4, 2)) ∧ (decode cL_law 1777 = .ok (.iconst 1, 1)) ∧ (decode cL_law 1778 = .ok (.iadd, 1)) ∧ (decode cL_law 1779 = .ok (.iaload, 1)) ∧ (decode cL_law 1780 = .ok (.aload_n 0, 1)) ∧ (decode cL_law 1781 = .ok (.iload 4, 2)) ∧ (decode cL_law 1783 = .ok (.iconst 2, 1)) := by decide +kernel
theorem dL_law_1760 : decode cL_law 1760 = .ok (.iload 4, 2) := db6_32.1
theorem dL_law_1762 : decode cL_law 1762 = .ok (.iconst 3, 1) := db6_32.2.1
theorem dL_law_1763 : decode cL_law 1763 = .ok (.iadd, 1) := db6_32.2.2.1
theorem dL_law_1764 : decode cL_law 1764 = .ok (.iaload, 1) := db6_32.2.2.2.1
theorem dL_law_1765 : decode cL_law 1765 = .ok (.invokevirtual 293, 3) := db6_32.2.2.2.2.1
theorem dL_law_1768 : decode cL_law 1768 = .ok (.istore 6, 2) := db6_32.2.2.2.2.2.1
theorem dL_law_1770 : decode cL_law 1770 = .ok (.goto 590, 3) := db6_32.2.2.2.2.2.2.1
theorem dL_law_1773 : decode cL_law 1773 = .ok (.aload_n 1, 1) := db6_32.2.2.2.2.2.2.2.1
theorem dL_law_1774 : decode cL_law 1774 = .ok (.aload_n 0, 1) := db6_32.2.2.2.2.2.2.2.2.1
theorem dL_law_1775 : decode cL_law 1775 = .ok (.iload 4, 2) := db6_32.2.2.2.2.2.2.2.2.2.1
theorem dL_law_1777 : decode cL_law 1777 = .ok (.iconst 1, 1) := db6_32.2.2.2.2.2.2.2.2.2.2.1
theorem dL_law_1778 : decode cL_law 1778 = .ok (.iadd, 1) := db6_32.2.2.2.2.2.2.2.2.2.2.2.1
theorem dL_law_1779 : decode cL_law 1779 = .ok (.iaload, 1) := db6_32.2.2.2.2.2.2.2.2.2.2.2.2.1
theorem dL_law_1780 : decode cL_law 1780 = .ok (.aload_n 0, 1) := db6_32.2.2.2.2.2.2.2.2.2.2.2.2.2.1
theorem dL_law_1781 : decode cL_law 1781 = .ok (.iload 4, 2) := db6_32.2.2.2.2.2.2.2.2.2.2.2.2.2.2.1
theorem dL_law_1783 : decode cL_law 1783 = .ok (.iconst 2, 1) := db6_32.2.2.2.2.2.2.2.2.2.2.2.2.2.2.2
theorem db6_33 : (decode cL_law 1784 = .ok (.iadd, 1)) ∧ (decode cL_law 1785 = .ok (.iaload, 1)) ∧ (decode cL_law 1786 = .ok (.aload_n 3, 1)) ∧ (decode cL_law 1787 = .ok (.invokestatic 294, 3)) ∧ (decode cL_law 1790 = .ok (.istore 5, 2)) ∧ (decode cL_law 1792 = .ok (.aload_n 2, 1)) ∧ (decode cL_law 1793 = .ok (.aload_n 0, 1)) ∧ (decode cL_law 1794 = .ok (.iload 4, 2)) ∧ (decode cL_law 1796 = .ok (.iconst 1, 1)) ∧ (decode cL_law 1797 = .ok (.iadd, 1)) ∧ (decode cL_law 1798 = .ok (.iaload, 1)) ∧ (decode cL_law 1799 = .ok (.aload_n 0, 1)) ∧ (decode cL_law 1800 = .ok (.iload 4, 2)) ∧ (decode cL_law 1802 = .ok (.iconst 2, 1)) ∧ (decode cL_law 1803 = .ok (.iadd, 1)) ∧ (decode cL_law 1804 = .ok (.iaload, 1)) := by decide +kernel
theorem dL_law_1784 : decode cL_law 1784 = .ok (.iadd, 1) := db6_33.1
theorem dL_law_1785 : decode cL_law 1785 = .ok (.iaload, 1) := db6_33.2.1
theorem dL_law_1786 : decode cL_law 1786 = .ok (.aload_n 3, 1) := db6_33.2.2.1
theorem dL_law_1787 : decode cL_law 1787 = .ok (.invokestatic 294, 3) := db6_33.2.2.2.1
theorem dL_law_1790 : decode cL_law 1790 = .ok (.istore 5, 2) := db6_33.2.2.2.2.1
theorem dL_law_1792 : decode cL_law 1792 = .ok (.aload_n 2, 1) := db6_33.2.2.2.2.2.1
theorem dL_law_1793 : decode cL_law 1793 = .ok (.aload_n 0, 1) := db6_33.2.2.2.2.2.2.1
theorem dL_law_1794 : decode cL_law 1794 = .ok (.iload 4, 2) := db6_33.2.2.2.2.2.2.2.1
theorem dL_law_1796 : decode cL_law 1796 = .ok (.iconst 1, 1) := db6_33.2.2.2.2.2.2.2.2.1
theorem dL_law_1797 : decode cL_law 1797 = .ok (.iadd, 1) := db6_33.2.2.2.2.2.2.2.2.2.1
theorem dL_law_1798 : decode cL_law 1798 = .ok (.iaload, 1) := db6_33.2.2.2.2.2.2.2.2.2.2.1
theorem dL_law_1799 : decode cL_law 1799 = .ok (.aload_n 0, 1) := db6_33.2.2.2.2.2.2.2.2.2.2.2.1
theorem dL_law_1800 : decode cL_law 1800 = .ok (.iload 4, 2) := db6_33.2.2.2.2.2.2.2.2.2.2.2.2.1
theorem dL_law_1802 : decode cL_law 1802 = .ok (.iconst 2, 1) := db6_33.2.2.2.2.2.2.2.2.2.2.2.2.2.1
theorem dL_law_1803 : decode cL_law 1803 = .ok (.iadd, 1) := db6_33.2.2.2.2.2.2.2.2.2.2.2.2.2.2.1
theorem dL_law_1804 : decode cL_law 1804 = .ok (.iaload, 1) := db6_33.2.2.2.2.2.2.2.2.2.2.2.2.2.2.2
theorem db6_34 : (decode cL_law 1805 = .ok (.invokevirtual 296, 3)) ∧ (decode cL_law 1808 = .ok (.istore 6, 2)) ∧ (decode cL_law 1810 = .ok (.goto 550, 3)) ∧ (decode cL_law 1813 = .ok (.aload_n 1, 1)) ∧ (decode cL_law 1814 = .ok (.aload_n 0, 1)) ∧ (decode cL_law 1815 = .ok (.iload 4, 2)) ∧ (decode cL_law 1817 = .ok (.iconst 1, 1)) ∧ (decode cL_law 1818 = .ok (.iadd, 1)) ∧ (decode cL_law 1819 = .ok (.iaload, 1)) ∧ (decode cL_law 1820 = .ok (.aload_n 0, 1)) ∧ (decode cL_law 1821 = .ok (.iload 4, 2)) ∧ (decode cL_law 1823 = .ok (.iconst 2, 1)) ∧ (decode cL_law 1824 = .ok (.iadd, 1)) ∧ (decode cL_law 1825 = .ok (.iaload, 1)) ∧ (decode cL_law 1826 = .ok (.aload_n 0, 1)) ∧ (decode cL_law 1827 = .ok (.iload 4, 2)) := by decide +kernel
theorem dL_law_1805 : decode cL_law 1805 = .ok (.invokevirtual 296, 3) := db6_34.1
theorem dL_law_1808 : decode cL_law 1808 = .ok (.istore 6, 2) := db6_34.2.1
theorem dL_law_1810 : decode cL_law 1810 = .ok (.goto 550, 3) := db6_34.2.2.1
theorem dL_law_1813 : decode cL_law 1813 = .ok (.aload_n 1, 1) := db6_34.2.2.2.1
theorem dL_law_1814 : decode cL_law 1814 = .ok (.aload_n 0, 1) := db6_34.2.2.2.2.1
theorem dL_law_1815 : decode cL_law 1815 = .ok (.iload 4, 2) := db6_34.2.2.2.2.2.1
theorem dL_law_1817 : decode cL_law 1817 = .ok (.iconst 1, 1) := db6_34.2.2.2.2.2.2.1
theorem dL_law_1818 : decode cL_law 1818 = .ok (.iadd, 1) := db6_34.2.2.2.2.2.2.2.1
theorem dL_law_1819 : decode cL_law 1819 = .ok (.iaload, 1) := db6_34.2.2.2.2.2.2.2.2.1
theorem dL_law_1820 : decode cL_law 1820 = .ok (.aload_n 0, 1) := db6_34.2.2.2.2.2.2.2.2.2.1
theorem dL_law_1821 : decode cL_law 1821 = .ok (.iload 4, 2) := db6_34.2.2.2.2.2.2.2.2.2.2.1
theorem dL_law_1823 : decode cL_law 1823 = .ok (.iconst 2, 1) := db6_34.2.2.2.2.2.2.2.2.2.2.2.1
theorem dL_law_1824 : decode cL_law 1824 = .ok (.iadd, 1) := db6_34.2.2.2.2.2.2.2.2.2.2.2.2.1
theorem dL_law_1825 : decode cL_law 1825 = .ok (.iaload, 1) := db6_34.2.2.2.2.2.2.2.2.2.2.2.2.2.1
theorem dL_law_1826 : decode cL_law 1826 = .ok (.aload_n 0, 1) := db6_34.2.2.2.2.2.2.2.2.2.2.2.2.2.2.1
theorem dL_law_1827 : decode cL_law 1827 = .ok (.iload 4, 2) := db6_34.2.2.2.2.2.2.2.2.2.2.2.2.2.2.2
theorem db6_35 : (decode cL_law 1829 = .ok (.iconst 3, 1)) ∧ (decode cL_law 1830 = .ok (.iadd, 1)) ∧ (decode cL_law 1831 = .ok (.iaload, 1)) ∧ (decode cL_law 1832 = .ok (.ifCond .eq 7, 3)) ∧ (decode cL_law 1835 = .ok (.iconst 1, 1)) ∧ (decode cL_law 1836 = .ok (.goto 4, 3)) ∧ (decode cL_law 1839 = .ok (.iconst 0, 1)) ∧ (decode cL_law 1840 = .ok (.aload_n 3, 1)) ∧ (decode cL_law 1841 = .ok (.invokestatic 297, 3)) ∧ (decode cL_law 1844 = .ok (.istore 5, 2)) ∧ (decode cL_law 1846 = .ok (.aload_n 2, 1)) ∧ (decode cL_law 1847 = .ok (.aload_n 0, 1)) ∧ (decode cL_law 1848 = .ok (.iload 4, 2)) ∧ (decode cL_law 1850 = .ok (.iconst 1, 1)) ∧ (decode cL_law 1851 = .ok (.iadd, 1)) ∧ (decode cL_law 1852 = .ok (.iaload, 1)) := by decide +kernel
theorem dL_law_1829 : decode cL_law 1829 = .ok (.iconst 3, 1) := db6_35.1
theorem dL_law_1830 : decode cL_law 1830 = .ok (.iadd, 1) := db6_35.2.1
theorem dL_law_1831 : decode cL_law 1831 = .ok (.iaload, 1) := db6_35.2.2.1
theorem dL_law_1832 : decode cL_law 1832 = .ok (.ifCond .eq 7, 3) := db6_35.2.2.2.1
theorem dL_law_1835 : decode cL_law 1835 = .ok (.iconst 1, 1) := db6_35.2.2.2.2.1
theorem dL_law_1836 : decode cL_law 1836 = .ok (.goto 4, 3) := db6_35.2.2.2.2.2.1
theorem dL_law_1839 : decode cL_law 1839 = .ok (.iconst 0, 1) := db6_35.2.2.2.2.2.2.1
theorem dL_law_1840 : decode cL_law 1840 = .ok (.aload_n 3, 1) := db6_35.2.2.2.2.2.2.2.1
theorem dL_law_1841 : decode cL_law 1841 = .ok (.invokestatic 297, 3) := db6_35.2.2.2.2.2.2.2.2.1
theorem dL_law_1844 : decode cL_law 1844 = .ok (.istore 5, 2) := db6_35.2.2.2.2.2.2.2.2.2.1
theorem dL_law_1846 : decode cL_law 1846 = .ok (.aload_n 2, 1) := db6_35.2.2.2.2.2.2.2.2.2.2.1
theorem dL_law_1847 : decode cL_law 1847 = .ok (.aload_n 0, 1) := db6_35.2.2.2.2.2.2.2.2.2.2.2.1
theorem dL_law_1848 : decode cL_law 1848 = .ok (.iload 4, 2) := db6_35.2.2.2.2.2.2.2.2.2.2.2.2.1
theorem dL_law_1850 : decode cL_law 1850 = .ok (.iconst 1, 1) := db6_35.2.2.2.2.2.2.2.2.2.2.2.2.2.1
theorem dL_law_1851 : decode cL_law 1851 = .ok (.iadd, 1) := db6_35.2.2.2.2.2.2.2.2.2.2.2.2.2.2.1
theorem dL_law_1852 : decode cL_law 1852 = .ok (.iaload, 1) := db6_35.2.2.2.2.2.2.2.2.2.2.2.2.2.2.2
theorem db6_36 : (decode cL_law 1853 = .ok (.aload_n 0, 1)) ∧ (decode cL_law 1854 = .ok (.iload 4, 2)) ∧ (decode cL_law 1856 = .ok (.iconst 2, 1)) ∧ (decode cL_law 1857 = .ok (.iadd, 1)) ∧ (decode cL_law 1858 = .ok (.iaload, 1)) ∧ (decode cL_law 1859 = .ok (.aload_n 0, 1)) ∧ (decode cL_law 1860 = .ok (.iload 4, 2)) ∧ (decode cL_law 1862 = .ok (.iconst 3, 1)) ∧ (decode cL_law 1863 = .ok (.iadd, 1)) ∧ (decode cL_law 1864 = .ok (.iaload, 1)) ∧ (decode cL_law 1865 = .ok (.ifCond .eq 7, 3)) ∧ (decode cL_law 1868 = .ok (.iconst 1, 1)) ∧ (decode cL_law 1869 = .ok (.goto 4, 3)) ∧ (decode cL_law 1872 = .ok (.iconst 0, 1)) ∧ (decode cL_law 1873 = .ok (.invokevirtual 300, 3)) ∧ (decode cL_law 1876 = .ok (.istore 6, 2)) := by decide +kernel
theorem dL_law_1853 : decode cL_law 1853 = .ok (.aload_n 0, 1) := db6_36.1
theorem dL_law_1854 : decode cL_law 1854 = .ok (.iload 4, 2) := db6_36.2.1
theorem dL_law_1856 : decode cL_law 1856 = .ok (.iconst 2, 1) := db6_36.2.2.1
theorem dL_law_1857 : decode cL_law 1857 = .ok (.iadd, 1) := db6_36.2.2.2.1
theorem dL_law_1858 : decode cL_law 1858 = .ok (.iaload, 1) := db6_36.2.2.2.2.1
theorem dL_law_1859 : decode cL_law 1859 = .ok (.aload_n 0, 1) := db6_36.2.2.2.2.2.1
theorem dL_law_1860 : decode cL_law 1860 = .ok (.iload 4, 2) := db6_36.2.2.2.2.2.2.1
theorem dL_law_1862 : decode cL_law 1862 = .ok (.iconst 3, 1) := db6_36.2.2.2.2.2.2.2.1
theorem dL_law_1863 : decode cL_law 1863 = .ok (.iadd, 1) := db6_36.2.2.2.2.2.2.2.2.1
theorem dL_law_1864 : decode cL_law 1864 = .ok (.iaload, 1) := db6_36.2.2.2.2.2.2.2.2.2.1
theorem dL_law_1865 : decode cL_law 1865 = .ok (.ifCond .eq 7, 3) := db6_36.2.2.2.2.2.2.2.2.2.2.1
theorem dL_law_1868 : decode cL_law 1868 = .ok (.iconst 1, 1) := db6_36.2.2.2.2.2.2.2.2.2.2.2.1
theorem dL_law_1869 : decode cL_law 1869 = .ok (.goto 4, 3) := db6_36.2.2.2.2.2.2.2.2.2.2.2.2.1
theorem dL_law_1872 : decode cL_law 1872 = .ok (.iconst 0, 1) := db6_36.2.2.2.2.2.2.2.2.2.2.2.2.2.1
theorem dL_law_1873 : decode cL_law 1873 = .ok (.invokevirtual 300, 3) := db6_36.2.2.2.2.2.2.2.2.2.2.2.2.2.2.1
theorem dL_law_1876 : decode cL_law 1876 = .ok (.istore 6, 2) := db6_36.2.2.2.2.2.2.2.2.2.2.2.2.2.2.2
theorem db6_37 : (decode cL_law 1878 = .ok (.goto 482, 3)) ∧ (decode cL_law 1881 = .ok (.aload_n 1, 1)) ∧ (decode cL_law 1882 = .ok (.aload_n 0, 1)) ∧ (decode cL_law 1883 = .ok (.iload 4, 2)) ∧ (decode cL_law 1885 = .ok (.iconst 1, 1)) ∧ (decode cL_law 1886 = .ok (.iadd, 1)) ∧ (decode cL_law 1887 = .ok (.iaload, 1)) ∧ (decode cL_law 1888 = .ok (.aload_n 0, 1)) ∧ (decode cL_law 1889 = .ok (.iload 4, 2)) ∧ (decode cL_law 1891 = .ok (.iconst 2, 1)) ∧ (decode cL_law 1892 = .ok (.iadd, 1)) ∧ (decode cL_law 1893 = .ok (.iaload, 1)) ∧ (decode cL_law 1894 = .ok (.aload_n 0, 1)) ∧ (decode cL_law 1895 = .ok (.iload 4, 2)) ∧ (decode cL_law 1897 = .ok (.iconst 3, 1)) ∧ (decode cL_law 1898 = .ok (.iadd, 1)) := by decide +kernel
theorem dL_law_1878 : decode cL_law 1878 = .ok (.goto 482, 3) := db6_37.1
theorem dL_law_1881 : decode cL_law 1881 = .ok (.aload_n 1, 1) := db6_37.2.1
theorem dL_law_1882 : decode cL_law 1882 = .ok (.aload_n 0, 1) := db6_37.2.2.1
theorem dL_law_1883 : decode cL_law 1883 = .ok (.iload 4, 2) := db6_37.2.2.2.1
theorem dL_law_1885 : decode cL_law 1885 = .ok (.iconst 1, 1) := db6_37.2.2.2.2.1
theorem dL_law_1886 : decode cL_law 1886 = .ok (.iadd, 1) := db6_37.2.2.2.2.2.1
theorem dL_law_1887 : decode cL_law 1887 = .ok (.iaload, 1) := db6_37.2.2.2.2.2.2.1
theorem dL_law_1888 : decode cL_law 1888 = .ok (.aload_n 0, 1) := db6_37.2.2.2.2.2.2.2.1
theorem dL_law_1889 : decode cL_law 1889 = .ok (.iload 4, 2) := db6_37.2.2.2.2.2.2.2.2.1
theorem dL_law_1891 : decode cL_law 1891 = .ok (.iconst 2, 1) := db6_37.2.2.2.2.2.2.2.2.2.1
theorem dL_law_1892 : decode cL_law 1892 = .ok (.iadd, 1) := db6_37.2.2.2.2.2.2.2.2.2.2.1
theorem dL_law_1893 : decode cL_law 1893 = .ok (.iaload, 1) := db6_37.2.2.2.2.2.2.2.2.2.2.2.1
theorem dL_law_1894 : decode cL_law 1894 = .ok (.aload_n 0, 1) := db6_37.2.2.2.2.2.2.2.2.2.2.2.2.1
theorem dL_law_1895 : decode cL_law 1895 = .ok (.iload 4, 2) := db6_37.2.2.2.2.2.2.2.2.2.2.2.2.2.1
theorem dL_law_1897 : decode cL_law 1897 = .ok (.iconst 3, 1) := db6_37.2.2.2.2.2.2.2.2.2.2.2.2.2.2.1
theorem dL_law_1898 : decode cL_law 1898 = .ok (.iadd, 1) := db6_37.2.2.2.2.2.2.2.2.2.2.2.2.2.2.2
theorem db6_38 : (decode cL_law 1899 = .ok (.iaload, 1)) ∧ (decode cL_law 1900 = .ok (.ifCond .eq 7, 3)) ∧ (decode cL_law 1903 = .ok (.iconst 1, 1)) ∧ (decode cL_law 1904 = .ok (.goto 4, 3)) ∧ (decode cL_law 1907 = .ok (.iconst 0, 1)) ∧ (decode cL_law 1908 = .ok (.aload_n 3, 1)) ∧ (decode cL_law 1909 = .ok (.invokestatic 301, 3)) ∧ (decode cL_law 1912 = .ok (.istore 5, 2)) ∧ (decode cL_law 1914 = .ok (.aload_n 2, 1)) ∧ (decode cL_law 1915 = .ok (.aload_n 0, 1)) ∧ (decode cL_law 1916 = .ok (.iload 4, 2)) ∧ (decode cL_law 1918 = .ok (.iconst 1, 1)) ∧ (decode cL_law 1919 = .ok (.iadd, 1)) ∧ (decode cL_law 1920 = .ok (.iaload, 1)) ∧ (decode cL_law 1921 = .ok (.aload_n 0, 1)) ∧ (decode cL_law 1922 = .ok (.iload 4, 2)) := by decide +kernel
theorem dL_law_1899 : decode cL_law 1899 = .ok (.iaload, 1) := db6_38.1
theorem dL_law_1900 : decode cL_law 1900 = .ok (.ifCond .eq 7, 3) := db6_38.2.1
theorem dL_law_1903 : decode cL_law 1903 = .ok (.iconst 1, 1) := db6_38.2.2.1
theorem dL_law_1904 : decode cL_law 1904 = .ok (.goto 4, 3) := db6_38.2.2.2.1
theorem dL_law_1907 : decode cL_law 1907 = .ok (.iconst 0, 1) := db6_38.2.2.2.2.1
theorem dL_law_1908 : decode cL_law 1908 = .ok (.aload_n 3, 1) := db6_38.2.2.2.2.2.1
theorem dL_law_1909 : decode cL_law 1909 = .ok (.invokestatic 301, 3) := db6_38.2.2.2.2.2.2.1
theorem dL_law_1912 : decode cL_law 1912 = .ok (.istore 5, 2) := db6_38.2.2.2.2.2.2.2.1
theorem dL_law_1914 : decode cL_law 1914 = .ok (.aload_n 2, 1) := db6_38.2.2.2.2.2.2.2.2.1
theorem dL_law_1915 : decode cL_law 1915 = .ok (.aload_n 0, 1) := db6_38.2.2.2.2.2.2.2.2.2.1
theorem dL_law_1916 : decode cL_law 1916 = .ok (.iload 4, 2) := db6_38.2.2.2.2.2.2.2.2.2.2.1
theorem dL_law_1918 : decode cL_law 1918 = .ok (.iconst 1, 1) := db6_38.2.2.2.2.2.2.2.2.2.2.2.1
theorem dL_law_1919 : decode cL_law 1919 = .ok (.iadd, 1) := db6_38.2.2.2.2.2.2.2.2.2.2.2.2.1
theorem dL_law_1920 : decode cL_law 1920 = .ok (.iaload, 1) := db6_38.2.2.2.2.2.2.2.2.2.2.2.2.2.1
theorem dL_law_1921 : decode cL_law 1921 = .ok (.aload_n 0, 1) := db6_38.2.2.2.2.2.2.2.2.2.2.2.2.2.2.1
theorem dL_law_1922 : decode cL_law 1922 = .ok (.iload 4, 2) := db6_38.2.2.2.2.2.2.2.2.2.2.2.2.2.2.2
theorem db6_39 : (decode cL_law 1924 = .ok (.iconst 2, 1)) ∧ (decode cL_law 1925 = .ok (.iadd, 1)) ∧ (decode cL_law 1926 = .ok (.iaload, 1)) ∧ (decode cL_law 1927 = .ok (.aload_n 0, 1)) ∧ (decode cL_law 1928 = .ok (.iload 4, 2)) ∧ (decode cL_law 1930 = .ok (.iconst 3, 1)) ∧ (decode cL_law 1931 = .ok (.iadd, 1)) ∧ (decode cL_law 1932 = .ok (.iaload, 1)) ∧ (decode cL_law 1933 = .ok (.ifCond .eq 7, 3)) ∧ (decode cL_law 1936 = .ok (.iconst 1, 1)) ∧ (decode cL_law 1937 = .ok (.goto 4, 3)) ∧ (decode cL_law 1940 = .ok (.iconst 0, 1)) ∧ (decode cL_law 1941 = .ok (.invokevirtual 303, 3)) ∧ (decode cL_law 1944 = .ok (.istore 6, 2)) ∧ (decode cL_law 1946 = .ok (.goto 414, 3)) ∧ (decode cL_law 1949 = .ok (.aload_n 1, 1)) := by decide +kernel
theorem dL_law_1924 : decode cL_law 1924 = .ok (.iconst 2, 1) := db6_39.1
theorem dL_law_1925 : decode cL_law 1925 = .ok (.iadd, 1) := db6_39.2.1
theorem dL_law_1926 : decode cL_law 1926 = .ok (.iaload, 1) := db6_39.2.2.1
theorem dL_law_1927 : decode cL_law 1927 = .ok (.aload_n 0, 1) := db6_39.2.2.2.1
theorem dL_law_1928 : decode cL_law 1928 = .ok (.iload 4, 2) := db6_39.2.2.2.2.1
theorem dL_law_1930 : decode cL_law 1930 = .ok (.iconst 3, 1) := db6_39.2.2.2.2.2.1
theorem dL_law_1931 : decode cL_law 1931 = .ok (.iadd, 1) := db6_39.2.2.2.2.2.2.1
theorem dL_law_1932 : decode cL_law 1932 = .ok (.iaload, 1) := db6_39.2.2.2.2.2.2.2.1
theorem dL_law_1933 : decode cL_law 1933 = .ok (.ifCond .eq 7, 3) := db6_39.2.2.2.2.2.2.2.2.1
theorem dL_law_1936 : decode cL_law 1936 = .ok (.iconst 1, 1) := db6_39.2.2.2.2.2.2.2.2.2.1
theorem dL_law_1937 : decode cL_law 1937 = .ok (.goto 4, 3) := db6_39.2.2.2.2.2.2.2.2.2.2.1
theorem dL_law_1940 : decode cL_law 1940 = .ok (.iconst 0, 1) := db6_39.2.2.2.2.2.2.2.2.2.2.2.1
theorem dL_law_1941 : decode cL_law 1941 = .ok (.invokevirtual 303, 3) := db6_39.2.2.2.2.2.2.2.2.2.2.2.2.1
theorem dL_law_1944 : decode cL_law 1944 = .ok (.istore 6, 2) := db6_39.2.2.2.2.2.2.2.2.2.2.2.2.2.1
theorem dL_law_1946 : decode cL_law 1946 = .ok (.goto 414, 3) := db6_39.2.2.2.2.2.2.2.2.2.2.2.2.2.2.1
theorem dL_law_1949 : decode cL_law 1949 = .ok (.aload_n 1, 1) := db6_39.2.2.2.2.2.2.2.2.2.2.2.2.2.2.2
theorem db6_40 : (decode cL_law 1950 = .ok (.aload_n 0, 1)) ∧ (decode cL_law 1951 = .ok (.iload 4, 2)) ∧ (decode cL_law 1953 = .ok (.iconst 1, 1)) ∧ (decode cL_law 1954 = .ok (.iadd, 1)) ∧ (decode cL_law 1955 = .ok (.iaload, 1)) ∧ (decode cL_law 1956 = .ok (.aload_n 0, 1)) ∧ (decode cL_law 1957 = .ok (.iload 4, 2)) ∧ (decode cL_law 1959 = .ok (.iconst 2, 1)) ∧ (decode cL_law 1960 = .ok (.iadd, 1)) ∧ (decode cL_law 1961 = .ok (.iaload, 1)) ∧ (decode cL_law 1962 = .ok (.aload_n 3, 1)) ∧ (decode cL_law 1963 = .ok (.invokestatic 304, 3)) ∧ (decode cL_law 1966 = .ok (.istore 5, 2)) ∧ (decode cL_law 1968 = .ok (.aload_n 2, 1)) ∧ (decode cL_law 1969 = .ok (.aload_n 0, 1)) ∧ (decode cL_law 1970 = .ok (.iload 4, 2)) := by decide +kernel
theorem dL_law_1950 : decode cL_law 1950 = .ok (.aload_n 0, 1) := db6_40.1
theorem dL_law_1951 : decode cL_law 1951 = .ok (.iload 4, 2) := db6_40.2.1
theorem dL_law_1953 : decode cL_law 1953 = .ok (.iconst 1, 1) := db6_40.2.2.1
theorem dL_law_1954 : decode cL_law 1954 = .ok (.iadd, 1) := db6_40.2.2.2.1
theorem dL_law_1955 : decode cL_law 1955 = .ok (.iaload, 1) := db6_40.2.2.2.2.1
theorem dL_law_1956 : decode cL_law 1956 = .ok (.aload_n 0, 1) := db6_40.2.2.2.2.2.1
theorem dL_law_1957 : decode cL_law 1957 = .ok (.iload 4, 2) := db6_40.2.2.2.2.2.2.1
theorem dL_law_1959 : decode cL_law 1959 = .ok (.iconst 2, 1) := db6_40.2.2.2.2.2.2.2.1
theorem dL_law_1960 : decode cL_law 1960 = .ok (.iadd, 1) := db6_40.2.2.2.2.2.2.2.2.1
theorem dL_law_1961 : decode cL_law 1961 = .ok (.iaload, 1) := db6_40.2.2.2.2.2.2.2.2.2.1
theorem dL_law_1962 : decode cL_law 1962 = .ok (.aload_n 3, 1) := db6_40.2.2.2.2.2.2.2.2.2.2.1
theorem dL_law_1963 : decode cL_law 1963 = .ok (.invokestatic 304, 3) := db6_40.2.2.2.2.2.2.2.2.2.2.2.1
theorem dL_law_1966 : decode cL_law 1966 = .ok (.istore 5, 2) := db6_40.2.2.2.2.2.2.2.2.2.2.2.2.1
theorem dL_law_1968 : decode cL_law 1968 = .ok (.aload_n 2, 1) := db6_40.2.2.2.2.2.2.2.2.2.2.2.2.2.1
theorem dL_law_1969 : decode cL_law 1969 = .ok (.aload_n 0, 1) := db6_40.2.2.2.2.2.2.2.2.2.2.2.2.2.2.1
theorem dL_law_1970 : decode cL_law 1970 = .ok (.iload 4, 2) := db6_40.2.2.2.2.2.2.2.2.2.2.2.2.2.2.2
theorem db6_41 : (decode cL_law 1972 = .ok (.iconst 1, 1)) ∧ (decode cL_law 1973 = .ok (.iadd, 1)) ∧ (decode cL_law 1974 = .ok (.iaload, 1)) ∧ (decode cL_law 1975 = .ok (.aload_n 0, 1)) ∧ (decode cL_law 1976 = .ok (.iload 4, 2)) ∧ (decode cL_law 1978 = .ok (.iconst 2, 1)) ∧ (decode cL_law 1979 = .ok (.iadd, 1)) ∧ (decode cL_law 1980 = .ok (.iaload, 1)) ∧ (decode cL_law 1981 = .ok (.invokevirtual 306, 3)) ∧ (decode cL_law 1984 = .ok (.istore 6, 2)) ∧ (decode cL_law 1986 = .ok (.goto 374, 3)) ∧ (decode cL_law 1989 = .ok (.aload_n 1, 1)) ∧ (decode cL_law 1990 = .ok (.aload_n 0, 1)) ∧ (decode cL_law 1991 = .ok (.iload 4, 2)) ∧ (decode cL_law 1993 = .ok (.iconst 1, 1)) ∧ (decode cL_law 1994 = .ok (.iadd, 1)) := by decide +kernel
theorem dL_law_1972 : decode cL_law 1972 = .ok (.iconst 1, 1) := db6_41.1
theorem dL_law_1973 : decode cL_law 1973 = .ok (.iadd, 1) := db6_41.2.1
theorem dL_law_1974 : decode cL_law 1974 = .ok (.iaload, 1) := db6_41.2.2.1
theorem dL_law_1975 : decode cL_law 1975 = .ok (.aload_n 0, 1) := db6_41.2.2.2.1
theorem dL_law_1976 : decode cL_law 1976 = .ok (.iload 4, 2) := db6_41.2.2.2.2.1
theorem dL_law_1978 : decode cL_law 1978 = .ok (.iconst 2, 1) := db6_41.2.2.2.2.2.1
theorem dL_law_1979 : decode cL_law 1979 = .ok (.iadd, 1) := db6_41.2.2.2.2.2.2.1
theorem dL_law_1980 : decode cL_law 1980 = .ok (.iaload, 1) := db6_41.2.2.2.2.2.2.2.1
theorem dL_law_1981 : decode cL_law 1981 = .ok (.invokevirtual 306, 3) := db6_41.2.2.2.2.2.2.2.2.1
theorem dL_law_1984 : decode cL_law 1984 = .ok (.istore 6, 2) := db6_41.2.2.2.2.2.2.2.2.2.1
theorem dL_law_1986 : decode cL_law 1986 = .ok (.goto 374, 3) := db6_41.2.2.2.2.2.2.2.2.2.2.1
theorem dL_law_1989 : decode cL_law 1989 = .ok (.aload_n 1, 1) := db6_41.2.2.2.2.2.2.2.2.2.2.2.1
theorem dL_law_1990 : decode cL_law 1990 = .ok (.aload_n 0, 1) := db6_41.2.2.2.2.2.2.2.2.2.2.2.2.1
theorem dL_law_1991 : decode cL_law 1991 = .ok (.iload 4, 2) := db6_41.2.2.2.2.2.2.2.2.2.2.2.2.2.1
theorem dL_law_1993 : decode cL_law 1993 = .ok (.iconst 1, 1) := db6_41.2.2.2.2.2.2.2.2.2.2.2.2.2.2.1
theorem dL_law_1994 : decode cL_law 1994 = .ok (.iadd, 1) := db6_41.2.2.2.2.2.2.2.2.2.2.2.2.2.2.2
theorem db6_42 : (decode cL_law 1995 = .ok (.iaload, 1)) ∧ (decode cL_law 1996 = .ok (.aload_n 3, 1)) ∧ (decode cL_law 1997 = .ok (.invokestatic 307, 3)) ∧ (decode cL_law 2000 = .ok (.istore 5, 2)) ∧ (decode cL_law 2002 = .ok (.aload_n 2, 1)) ∧ (decode cL_law 2003 = .ok (.aload_n 0, 1)) ∧ (decode cL_law 2004 = .ok (.iload 4, 2)) ∧ (decode cL_law 2006 = .ok (.iconst 1, 1)) ∧ (decode cL_law 2007 = .ok (.iadd, 1)) ∧ (decode cL_law 2008 = .ok (.iaload, 1)) ∧ (decode cL_law 2009 = .ok (.invokevirtual 309, 3)) ∧ (decode cL_law 2012 = .ok (.istore 6, 2)) ∧ (decode cL_law 2014 = .ok (.goto 346, 3)) ∧ (decode cL_law 2017 = .ok (.aload_n 1, 1)) ∧ (decode cL_law 2018 = .ok (.aload_n 0, 1)) ∧ (decode cL_law 2019 = .ok (.iload 4, 2)) := by decide +kernel
theorem dL_law_1995 : decode cL_law 1995 = .ok (.iaload, 1) := db6_42.1
theorem dL_law_1996 : decode cL_law 1996 = .ok (.aload_n 3, 1) := db6_42.2.1
theorem dL_law_1997 : decode cL_law 1997 = .ok (.invokestatic 307, 3) := db6_42.2.2.1
theorem dL_law_2000 : decode cL_law 2000 = .ok (.istore 5, 2) := db6_42.2.2.2.1
theorem dL_law_2002 : decode cL_law 2002 = .ok (.aload_n 2, 1) := db6_42.2.2.2.2.1
theorem dL_law_2003 : decode cL_law 2003 = .ok (.aload_n 0, 1) := db6_42.2.2.2.2.2.1
theorem dL_law_2004 : decode cL_law 2004 = .ok (.iload 4, 2) := db6_42.2.2.2.2.2.2.1
theorem dL_law_2006 : decode cL_law 2006 = .ok (.iconst 1, 1) := db6_42.2.2.2.2.2.2.2.1
theorem dL_law_2007 : decode cL_law 2007 = .ok (.iadd, 1) := db6_42.2.2.2.2.2.2.2.2.1
theorem dL_law_2008 : decode cL_law 2008 = .ok (.iaload, 1) := db6_42.2.2.2.2.2.2.2.2.2.1
theorem dL_law_2009 : decode cL_law 2009 = .ok (.invokevirtual 309, 3) := db6_42.2.2.2.2.2.2.2.2.2.2.1
theorem dL_law_2012 : decode cL_law 2012 = .ok (.istore 6, 2) := db6_42.2.2.2.2.2.2.2.2.2.2.2.1
theorem dL_law_2014 : decode cL_law 2014 = .ok (.goto 346, 3) := db6_42.2.2.2.2.2.2.2.2.2.2.2.2.1
theorem dL_law_2017 : decode cL_law 2017 = .ok (.aload_n 1, 1) := db6_42.2.2.2.2.2.2.2.2.2.2.2.2.2.1
theorem dL_law_2018 : decode cL_law 2018 = .ok (.aload_n 0, 1) := db6_42.2.2.2.2.2.2.2.2.2.2.2.2.2.2.1
theorem dL_law_2019 : decode cL_law 2019 = .ok (.iload 4, 2) := db6_42.2.2.2.2.2.2.2.2.2.2.2.2.2.2.2
theorem db6_43 : (decode cL_law 2021 = .ok (.iconst 1, 1)) ∧ (decode cL_law 2022 = .ok (.iadd, 1)) ∧ (decode cL_law 2023 = .ok (.iaload, 1)) ∧ (decode cL_law 2024 = .ok (.aload_n 3, 1)) ∧ (decode cL_law 2025 = .ok (.invokestatic 310, 3)) ∧ (decode cL_law 2028 = .ok (.istore 5, 2)) ∧ (decode cL_law 2030 = .ok (.aload_n 2, 1)) ∧ (decode cL_law 2031 = .ok (.aload_n 0, 1)) ∧ (decode cL_law 2032 = .ok (.iload 4, 2)) ∧ (decode cL_law 2034 = .ok (.iconst 1, 1)) ∧ (decode cL_law 2035 = .ok (.iadd, 1)) ∧ (decode cL_law 2036 = .ok (.iaload, 1)) ∧ (decode cL_law 2037 = .ok (.invokevirtual 312, 3)) ∧ (decode cL_law 2040 = .ok (.istore 6, 2)) ∧ (decode cL_law 2042 = .ok (.goto 318, 3)) ∧ (decode cL_law 2045 = .ok (.aload_n 1, 1)) := by decide +kernel
theorem dL_law_2021 : decode cL_law 2021 = .ok (.iconst 1, 1) := db6_43.1
theorem dL_law_2022 : decode cL_law 2022 = .ok (.iadd, 1) := db6_43.2.1
theorem dL_law_2023 : decode cL_law 2023 = .ok (.iaload, 1) := db6_43.2.2.1
theorem dL_law_2024 : decode cL_law 2024 = .ok (.aload_n 3, 1) := db6_43.2.2.2.1
theorem dL_law_2025 : decode cL_law 2025 = .ok (.invokestatic 310, 3) := db6_43.2.2.2.2.1
theorem dL_law_2028 : decode cL_law 2028 = .ok (.istore 5, 2) := db6_43.2.2.2.2.2.1
theorem dL_law_2030 : decode cL_law 2030 = .ok (.aload_n 2, 1) := db6_43.2.2.2.2.2.2.1
theorem dL_law_2031 : decode cL_law 2031 = .ok (.aload_n 0, 1) := db6_43.2.2.2.2.2.2.2.1
theorem dL_law_2032 : decode cL_law 2032 = .ok (.iload 4, 2) := db6_43.2.2.2.2.2.2.2.2.1
theorem dL_law_2034 : decode cL_law 2034 = .ok (.iconst 1, 1) := db6_43.2.2.2.2.2.2.2.2.2.1
theorem dL_law_2035 : decode cL_law 2035 = .ok (.iadd, 1) := db6_43.2.2.2.2.2.2.2.2.2.2.1
theorem dL_law_2036 : decode cL_law 2036 = .ok (.iaload, 1) := db6_43.2.2.2.2.2.2.2.2.2.2.2.1
theorem dL_law_2037 : decode cL_law 2037 = .ok (.invokevirtual 312, 3) := db6_43.2.2.2.2.2.2.2.2.2.2.2.2.1
theorem dL_law_2040 : decode cL_law 2040 = .ok (.istore 6, 2) := db6_43.2.2.2.2.2.2.2.2.2.2.2.2.2.1
theorem dL_law_2042 : decode cL_law 2042 = .ok (.goto 318, 3) := db6_43.2.2.2.2.2.2.2.2.2.2.2.2.2.2.1
theorem dL_law_2045 : decode cL_law 2045 = .ok (.aload_n 1, 1) := db6_43.2.2.2.2.2.2.2.2.2.2.2.2.2.2.2
theorem db6_44 : (decode cL_law 2046 = .ok (.aload_n 0, 1)) ∧ (decode cL_law 2047 = .ok (.iload 4, 2)) ∧ (decode cL_law 2049 = .ok (.iconst 1, 1)) ∧ (decode cL_law 2050 = .ok (.iadd, 1)) ∧ (decode cL_law 2051 = .ok (.iaload, 1)) ∧ (decode cL_law 2052 = .ok (.aload_n 3, 1)) ∧ (decode cL_law 2053 = .ok (.invokestatic 313, 3)) ∧ (decode cL_law 2056 = .ok (.istore 5, 2)) ∧ (decode cL_law 2058 = .ok (.aload_n 2, 1)) ∧ (decode cL_law 2059 = .ok (.aload_n 0, 1)) ∧ (decode cL_law 2060 = .ok (.iload 4, 2)) ∧ (decode cL_law 2062 = .ok (.iconst 1, 1)) ∧ (decode cL_law 2063 = .ok (.iadd, 1)) ∧ (decode cL_law 2064 = .ok (.iaload, 1)) ∧ (decode cL_law 2065 = .ok (.invokevirtual 315, 3)) ∧ (decode cL_law 2068 = .ok (.istore 6, 2)) := by decide +kernel
theorem dL_law_2046 : decode cL_law 2046 = .ok (.aload_n 0, 1) := db6_44.1
theorem dL_law_2047 : decode cL_law 2047 = .ok (.iload 4, 2) := db6_44.2.1
theorem dL_law_2049 : decode cL_law 2049 = .ok (.iconst 1, 1) := db6_44.2.2.1
theorem dL_law_2050 : decode cL_law 2050 = .ok (.iadd, 1) := db6_44.2.2.2.1
theorem dL_law_2051 : decode cL_law 2051 = .ok (.iaload, 1) := db6_44.2.2.2.2.1
theorem dL_law_2052 : decode cL_law 2052 = .ok (.aload_n 3, 1) := db6_44.2.2.2.2.2.1
theorem dL_law_2053 : decode cL_law 2053 = .ok (.invokestatic 313, 3) := db6_44.2.2.2.2.2.2.1
theorem dL_law_2056 : decode cL_law 2056 = .ok (.istore 5, 2) := db6_44.2.2.2.2.2.2.2.1
theorem dL_law_2058 : decode cL_law 2058 = .ok (.aload_n 2, 1) := db6_44.2.2.2.2.2.2.2.2.1
theorem dL_law_2059 : decode cL_law 2059 = .ok (.aload_n 0, 1) := db6_44.2.2.2.2.2.2.2.2.2.1
theorem dL_law_2060 : decode cL_law 2060 = .ok (.iload 4, 2) := db6_44.2.2.2.2.2.2.2.2.2.2.1
theorem dL_law_2062 : decode cL_law 2062 = .ok (.iconst 1, 1) := db6_44.2.2.2.2.2.2.2.2.2.2.2.1
theorem dL_law_2063 : decode cL_law 2063 = .ok (.iadd, 1) := db6_44.2.2.2.2.2.2.2.2.2.2.2.2.1
theorem dL_law_2064 : decode cL_law 2064 = .ok (.iaload, 1) := db6_44.2.2.2.2.2.2.2.2.2.2.2.2.2.1
theorem dL_law_2065 : decode cL_law 2065 = .ok (.invokevirtual 315, 3) := db6_44.2.2.2.2.2.2.2.2.2.2.2.2.2.2.1
theorem dL_law_2068 : decode cL_law 2068 = .ok (.istore 6, 2) := db6_44.2.2.2.2.2.2.2.2.2.2.2.2.2.2.2
theorem db6_45 : (decode cL_law 2070 = .ok (.goto 290, 3)) ∧ (decode cL_law 2073 = .ok (.aload_n 1, 1)) ∧ (decode cL_law 2074 = .ok (.aload_n 0, 1)) ∧ (decode cL_law 2075 = .ok (.iload 4, 2)) ∧ (decode cL_law 2077 = .ok (.iconst 1, 1)) ∧ (decode cL_law 2078 = .ok (.iadd, 1)) ∧ (decode cL_law 2079 = .ok (.iaload, 1)) ∧ (decode cL_law 2080 = .ok (.aload_n 3, 1)) ∧ (decode cL_law 2081 = .ok (.invokestatic 316, 3)) ∧ (decode cL_law 2084 = .ok (.istore 5, 2)) ∧ (decode cL_law 2086 = .ok (.aload_n 2, 1)) ∧ (decode cL_law 2087 = .ok (.aload_n 0, 1)) ∧ (decode cL_law 2088 = .ok (.iload 4, 2)) ∧ (decode cL_law 2090 = .ok (.iconst 1, 1)) ∧ (decode cL_law 2091 = .ok (.iadd, 1)) ∧ (decode cL_law 2092 = .ok (.iaload, 1)) := by decide +kernel
theorem dL_law_2070 : decode cL_law 2070 = .ok (.goto 290, 3) := db6_45.1
theorem dL_law_2073 : decode cL_law 2073 = .ok (.aload_n 1, 1) := db6_45.2.1
theorem dL_law_2074 : decode cL_law 2074 = .ok (.aload_n 0, 1) := db6_45.2.2.1
theorem dL_law_2075 : decode cL_law 2075 = .ok (.iload 4, 2) := db6_45.2.2.2.1
theorem dL_law_2077 : decode cL_law 2077 = .ok (.iconst 1, 1) := db6_45.2.2.2.2.1
theorem dL_law_2078 : decode cL_law 2078 = .ok (.iadd, 1) := db6_45.2.2.2.2.2.1
theorem dL_law_2079 : decode cL_law 2079 = .ok (.iaload, 1) := db6_45.2.2.2.2.2.2.1
theorem dL_law_2080 : decode cL_law 2080 = .ok (.aload_n 3, 1) := db6_45.2.2.2.2.2.2.2.1
theorem dL_law_2081 : decode cL_law 2081 = .ok (.invokestatic 316, 3) := db6_45.2.2.2.2.2.2.2.2.1
theorem dL_law_2084 : decode cL_law 2084 = .ok (.istore 5, 2) := db6_45.2.2.2.2.2.2.2.2.2.1
theorem dL_law_2086 : decode cL_law 2086 = .ok (.aload_n 2, 1) := db6_45.2.2.2.2.2.2.2.2.2.2.1
theorem dL_law_2087 : decode cL_law 2087 = .ok (.aload_n 0, 1) := db6_45.2.2.2.2.2.2.2.2.2.2.2.1
theorem dL_law_2088 : decode cL_law 2088 = .ok (.iload 4, 2) := db6_45.2.2.2.2.2.2.2.2.2.2.2.2.1
theorem dL_law_2090 : decode cL_law 2090 = .ok (.iconst 1, 1) := db6_45.2.2.2.2.2.2.2.2.2.2.2.2.2.1
theorem dL_law_2091 : decode cL_law 2091 = .ok (.iadd, 1) := db6_45.2.2.2.2.2.2.2.2.2.2.2.2.2.2.1
theorem dL_law_2092 : decode cL_law 2092 = .ok (.iaload, 1) := db6_45.2.2.2.2.2.2.2.2.2.2.2.2.2.2.2
theorem db6_46 : (decode cL_law 2093 = .ok (.invokevirtual 318, 3)) ∧ (decode cL_law 2096 = .ok (.istore 6, 2)) ∧ (decode cL_law 2098 = .ok (.goto 262, 3)) ∧ (decode cL_law 2101 = .ok (.aload_n 1, 1)) ∧ (decode cL_law 2102 = .ok (.aload_n 0, 1)) ∧ (decode cL_law 2103 = .ok (.iload 4, 2)) ∧ (decode cL_law 2105 = .ok (.iconst 1, 1)) ∧ (decode cL_law 2106 = .ok (.iadd, 1)) ∧ (decode cL_law 2107 = .ok (.iaload, 1)) ∧ (decode cL_law 2108 = .ok (.aload_n 3, 1)) ∧ (decode cL_law 2109 = .ok (.invokestatic 319, 3)) ∧ (decode cL_law 2112 = .ok (.istore 5, 2)) ∧ (decode cL_law 2114 = .ok (.aload_n 2, 1)) ∧ (decode cL_law 2115 = .ok (.aload_n 0, 1)) ∧ (decode cL_law 2116 = .ok (.iload 4, 2)) ∧ (decode cL_law 2118 = .ok (.iconst 1, 1)) := by decide +kernel
theorem dL_law_2093 : decode cL_law 2093 = .ok (.invokevirtual 318, 3) := db6_46.1
theorem dL_law_2096 : decode cL_law 2096 = .ok (.istore 6, 2) := db6_46.2.1
theorem dL_law_2098 : decode cL_law 2098 = .ok (.goto 262, 3) := db6_46.2.2.1
theorem dL_law_2101 : decode cL_law 2101 = .ok (.aload_n 1, 1) := db6_46.2.2.2.1
theorem dL_law_2102 : decode cL_law 2102 = .ok (.aload_n 0, 1) := db6_46.2.2.2.2.1
theorem dL_law_2103 : decode cL_law 2103 = .ok (.iload 4, 2) := db6_46.2.2.2.2.2.1
theorem dL_law_2105 : decode cL_law 2105 = .ok (.iconst 1, 1) := db6_46.2.2.2.2.2.2.1
theorem dL_law_2106 : decode cL_law 2106 = .ok (.iadd, 1) := db6_46.2.2.2.2.2.2.2.1
theorem dL_law_2107 : decode cL_law 2107 = .ok (.iaload, 1) := db6_46.2.2.2.2.2.2.2.2.1
theorem dL_law_2108 : decode cL_law 2108 = .ok (.aload_n 3, 1) := db6_46.2.2.2.2.2.2.2.2.2.1
theorem dL_law_2109 : decode cL_law 2109 = .ok (.invokestatic 319, 3) := db6_46.2.2.2.2.2.2.2.2.2.2.1
theorem dL_law_2112 : decode cL_law 2112 = .ok (.istore 5, 2) := db6_46.2.2.2.2.2.2.2.2.2.2.2.1
theorem dL_law_2114 : decode cL_law 2114 = .ok (.aload_n 2, 1) := db6_46.2.2.2.2.2.2.2.2.2.2.2.2.1
theorem dL_law_2115 : decode cL_law 2115 = .ok (.aload_n 0, 1) := db6_46.2.2.2.2.2.2.2.2.2.2.2.2.2.1
theorem dL_law_2116 : decode cL_law 2116 = .ok (.iload 4, 2) := db6_46.2.2.2.2.2.2.2.2.2.2.2.2.2.2.1
theorem dL_law_2118 : decode cL_law 2118 = .ok (.iconst 1, 1) := db6_46.2.2.2.2.2.2.2.2.2.2.2.2.2.2.2
theorem db6_47 : (decode cL_law 2119 = .ok (.iadd, 1)) ∧ (decode cL_law 2120 = .ok (.iaload, 1)) ∧ (decode cL_law 2121 = .ok (.invokevirtual 321, 3)) ∧ (decode cL_law 2124 = .ok (.istore 6, 2)) ∧ (decode cL_law 2126 = .ok (.goto 234, 3)) ∧ (decode cL_law 2129 = .ok (.aload_n 1, 1)) ∧ (decode cL_law 2130 = .ok (.aload_n 0, 1)) ∧ (decode cL_law 2131 = .ok (.iload 4, 2)) ∧ (decode cL_law 2133 = .ok (.iconst 1, 1)) ∧ (decode cL_law 2134 = .ok (.iadd, 1)) ∧ (decode cL_law 2135 = .ok (.iaload, 1)) ∧ (decode cL_law 2136 = .ok (.aload_n 3, 1)) ∧ (decode cL_law 2137 = .ok (.invokestatic 322, 3)) ∧ (decode cL_law 2140 = .ok (.istore 5, 2)) ∧ (decode cL_law 2142 = .ok (.aload_n 2, 1)) ∧ (decode cL_law 2143 = .ok (.aload_n 0, 1)) := by decide +kernel
theorem dL_law_2119 : decode cL_law 2119 = .ok (.iadd, 1) := db6_47.1
theorem dL_law_2120 : decode cL_law 2120 = .ok (.iaload, 1) := db6_47.2.1
theorem dL_law_2121 : decode cL_law 2121 = .ok (.invokevirtual 321, 3) := db6_47.2.2.1
theorem dL_law_2124 : decode cL_law 2124 = .ok (.istore 6, 2) := db6_47.2.2.2.1
theorem dL_law_2126 : decode cL_law 2126 = .ok (.goto 234, 3) := db6_47.2.2.2.2.1
theorem dL_law_2129 : decode cL_law 2129 = .ok (.aload_n 1, 1) := db6_47.2.2.2.2.2.1
theorem dL_law_2130 : decode cL_law 2130 = .ok (.aload_n 0, 1) := db6_47.2.2.2.2.2.2.1
theorem dL_law_2131 : decode cL_law 2131 = .ok (.iload 4, 2) := db6_47.2.2.2.2.2.2.2.1
theorem dL_law_2133 : decode cL_law 2133 = .ok (.iconst 1, 1) := db6_47.2.2.2.2.2.2.2.2.1
theorem dL_law_2134 : decode cL_law 2134 = .ok (.iadd, 1) := db6_47.2.2.2.2.2.2.2.2.2.1
theorem dL_law_2135 : decode cL_law 2135 = .ok (.iaload, 1) := db6_47.2.2.2.2.2.2.2.2.2.2.1
theorem dL_law_2136 : decode cL_law 2136 = .ok (.aload_n 3, 1) := db6_47.2.2.2.2.2.2.2.2.2.2.2.1
theorem dL_law_2137 : decode cL_law 2137 = .ok (.invokestatic 322, 3) := db6_47.2.2.2.2.2.2.2.2.2.2.2.2.1
theorem dL_law_2140 : decode cL_law 2140 = .ok (.istore 5, 2) := db6_47.2.2.2.2.2.2.2.2.2.2.2.2.2.1
theorem dL_law_2142 : decode cL_law 2142 = .ok (.aload_n 2, 1) := db6_47.2.2.2.2.2.2.2.2.2.2.2.2.2.2.1
theorem dL_law_2143 : decode cL_law 2143 = .ok (.aload_n 0, 1) := db6_47.2.2.2.2.2.2.2.2.2.2.2.2.2.2.2
theorem db6_48 : (decode cL_law 2144 = .ok (.iload 4, 2)) ∧ (decode cL_law 2146 = .ok (.iconst 1, 1)) ∧ (decode cL_law 2147 = .ok (.iadd, 1)) ∧ (decode cL_law 2148 = .ok (.iaload, 1)) ∧ (decode cL_law 2149 = .ok (.invokevirtual 324, 3)) ∧ (decode cL_law 2152 = .ok (.istore 6, 2)) ∧ (decode cL_law 2154 = .ok (.goto 206, 3)) ∧ (decode cL_law 2157 = .ok (.aload_n 1, 1)) ∧ (decode cL_law 2158 = .ok (.aload_n 0, 1)) ∧ (decode cL_law 2159 = .ok (.iload 4, 2)) ∧ (decode cL_law 2161 = .ok (.iconst 1, 1)) ∧ (decode cL_law 2162 = .ok (.iadd, 1)) ∧ (decode cL_law 2163 = .ok (.iaload, 1)) ∧ (decode cL_law 2164 = .ok (.aload_n 3, 1)) ∧ (decode cL_law 2165 = .ok (.invokestatic 325, 3)) ∧ (decode cL_law 2168 = .ok (.istore 5, 2)) := by decide +kernel
theorem dL_law_2144 : decode cL_law 2144 = .ok (.iload 4, 2) := db6_48.1
theorem dL_law_2146 : decode cL_law 2146 = .ok (.iconst 1, 1) := db6_48.2.1
theorem dL_law_2147 : decode cL_law 2147 = .ok (.iadd, 1) := db6_48.2.2.1
theorem dL_law_2148 : decode cL_law 2148 = .ok (.iaload, 1) := db6_48.2.2.2.1
theorem dL_law_2149 : decode cL_law 2149 = .ok (.invokevirtual 324, 3) := db6_48.2.2.2.2.1
theorem dL_law_2152 : decode cL_law 2152 = .ok (.istore 6, 2) := db6_48.2.2.2.2.2.1
theorem dL_law_2154 : decode cL_law 2154 = .ok (.goto 206, 3) := db6_48.2.2.2.2.2.2.1
theorem dL_law_2157 : decode cL_law 2157 = .ok (.aload_n 1, 1) := db6_48.2.2.2.2.2.2.2.1
theorem dL_law_2158 : decode cL_law 2158 = .ok (.aload_n 0, 1) := db6_48.2.2.2.2.2.2.2.2.1
theorem dL_law_2159 : decode cL_law 2159 = .ok (.iload 4, 2) := db6_48.2.2.2.2.2.2.2.2.2.1
theorem dL_law_2161 : decode cL_law 2161 = .ok (.iconst 1, 1) := db6_48.2.2.2.2.2.2.2.2.2.2.1
theorem dL_law_2162 : decode cL_law 2162 = .ok (.iadd, 1) := db6_48.2.2.2.2.2.2.2.2.2.2.2.1
theorem dL_law_2163 : decode cL_law 2163 = .ok (.iaload, 1) := db6_48.2.2.2.2.2.2.2.2.2.2.2.2.1
theorem dL_law_2164 : decode cL_law 2164 = .ok (.aload_n 3, 1) := db6_48.2.2.2.2.2.2.2.2.2.2.2.2.2.1
theorem dL_law_2165 : decode cL_law 2165 = .ok (.invokestatic 325, 3) := db6_48.2.2.2.2.2.2.2.2.2.2.2.2.2.2.1
theorem dL_law_2168 : decode cL_law 2168 = .ok (.istore 5, 2) := db6_48.2.2.2.2.2.2.2.2.2.2.2.2.2.2.2
theorem db6_49 : (decode cL_law 2170 = .ok (.aload_n 2, 1)) ∧ (decode cL_law 2171 = .ok (.aload_n 0, 1)) ∧ (decode cL_law 2172 = .ok (.iload 4, 2)) ∧ (decode cL_law 2174 = .ok (.iconst 1, 1)) ∧ (decode cL_law 2175 = .ok (.iadd, 1)) ∧ (decode cL_law 2176 = .ok (.iaload, 1)) ∧ (decode cL_law 2177 = .ok (.invokevirtual 327, 3)) ∧ (decode cL_law 2180 = .ok (.istore 6, 2)) ∧ (decode cL_law 2182 = .ok (.goto 178, 3)) ∧ (decode cL_law 2185 = .ok (.aload_n 1, 1)) ∧ (decode cL_law 2186 = .ok (.aload_n 0, 1)) ∧ (decode cL_law 2187 = .ok (.iload 4, 2)) ∧ (decode cL_law 2189 = .ok (.iconst 1, 1)) ∧ (decode cL_law 2190 = .ok (.iadd, 1)) ∧ (decode cL_law 2191 = .ok (.iaload, 1)) ∧ (decode cL_law 2192 = .ok (.aload_n 3, 1)) := by decide +kernel
theorem dL_law_2170 : decode cL_law 2170 = .ok (.aload_n 2, 1) := db6_49.1
theorem dL_law_2171 : decode cL_law 2171 = .ok (.aload_n 0, 1) := db6_49.2.1
theorem dL_law_2172 : decode cL_law 2172 = .ok (.iload 4, 2) := db6_49.2.2.1
theorem dL_law_2174 : decode cL_law 2174 = .ok (.iconst 1, 1) := db6_49.2.2.2.1
theorem dL_law_2175 : decode cL_law 2175 = .ok (.iadd, 1) := db6_49.2.2.2.2.1
theorem dL_law_2176 : decode cL_law 2176 = .ok (.iaload, 1) := db6_49.2.2.2.2.2.1
theorem dL_law_2177 : decode cL_law 2177 = .ok (.invokevirtual 327, 3) := db6_49.2.2.2.2.2.2.1
theorem dL_law_2180 : decode cL_law 2180 = .ok (.istore 6, 2) := db6_49.2.2.2.2.2.2.2.1
theorem dL_law_2182 : decode cL_law 2182 = .ok (.goto 178, 3) := db6_49.2.2.2.2.2.2.2.2.1
theorem dL_law_2185 : decode cL_law 2185 = .ok (.aload_n 1, 1) := db6_49.2.2.2.2.2.2.2.2.2.1
theorem dL_law_2186 : decode cL_law 2186 = .ok (.aload_n 0, 1) := db6_49.2.2.2.2.2.2.2.2.2.2.1
theorem dL_law_2187 : decode cL_law 2187 = .ok (.iload 4, 2) := db6_49.2.2.2.2.2.2.2.2.2.2.2.1
theorem dL_law_2189 : decode cL_law 2189 = .ok (.iconst 1, 1) := db6_49.2.2.2.2.2.2.2.2.2.2.2.2.1
theorem dL_law_2190 : decode cL_law 2190 = .ok (.iadd, 1) := db6_49.2.2.2.2.2.2.2.2.2.2.2.2.2.1
theorem dL_law_2191 : decode cL_law 2191 = .ok (.iaload, 1) := db6_49.2.2.2.2.2.2.2.2.2.2.2.2.2.2.1
theorem dL_law_2192 : decode cL_law 2192 = .ok (.aload_n 3, 1) := db6_49.2.2.2.2.2.2.2.2.2.2.2.2.2.2.2
theorem db6_50 : (decode cL_law 2193 = .ok (.invokestatic 328, 3)) ∧ (decode cL_law 2196 = .ok (.istore 5, 2)) ∧ (decode cL_law 2198 = .ok (.aload_n 2, 1)) ∧ (decode cL_law 2199 = .ok (.aload_n 0, 1)) ∧ (decode cL_law 2200 = .ok (.iload 4, 2)) ∧ (decode cL_law 2202 = .ok (.iconst 1, 1)) ∧ (decode cL_law 2203 = .ok (.iadd, 1)) ∧ (decode cL_law 2204 = .ok (.iaload, 1)) ∧ (decode cL_law 2205 = .ok (.invokevirtual 330, 3)) ∧ (decode cL_law 2208 = .ok (.astore 6, 2)) ∧ (decode cL_law 2210 = .ok (.goto 150, 3)) ∧ (decode cL_law 2213 = .ok (.aload_n 1, 1)) ∧ (decode cL_law 2214 = .ok (.aload_n 0, 1)) ∧ (decode cL_law 2215 = .ok (.iload 4, 2)) ∧ (decode cL_law 2217 = .ok (.iconst 1, 1)) ∧ (decode cL_law 2218 = .ok (.iadd, 1)) := by decide +kernel
theorem dL_law_2193 : decode cL_law 2193 = .ok (.invokestatic 328, 3) := db6_50.1
theorem dL_law_2196 : decode cL_law 2196 = .ok (.istore 5, 2) := db6_50.2.1
theorem dL_law_2198 : decode cL_law 2198 = .ok (.aload_n 2, 1) := db6_50.2.2.1
theorem dL_law_2199 : decode cL_law 2199 = .ok (.aload_n 0, 1) := db6_50.2.2.2.1
theorem dL_law_2200 : decode cL_law 2200 = .ok (.iload 4, 2) := db6_50.2.2.2.2.1
theorem dL_law_2202 : decode cL_law 2202 = .ok (.iconst 1, 1) := db6_50.2.2.2.2.2.1
theorem dL_law_2203 : decode cL_law 2203 = .ok (.iadd, 1) := db6_50.2.2.2.2.2.2.1
theorem dL_law_2204 : decode cL_law 2204 = .ok (.iaload, 1) := db6_50.2.2.2.2.2.2.2.1
theorem dL_law_2205 : decode cL_law 2205 = .ok (.invokevirtual 330, 3) := db6_50.2.2.2.2.2.2.2.2.1
theorem dL_law_2208 : decode cL_law 2208 = .ok (.astore 6, 2) := db6_50.2.2.2.2.2.2.2.2.2.1
theorem dL_law_2210 : decode cL_law 2210 = .ok (.goto 150, 3) := db6_50.2.2.2.2.2.2.2.2.2.2.1
theorem dL_law_2213 : decode cL_law 2213 = .ok (.aload_n 1, 1) := db6_50.2.2.2.2.2.2.2.2.2.2.2.1
theorem dL_law_2214 : decode cL_law 2214 = .ok (.aload_n 0, 1) := db6_50.2.2.2.2.2.2.2.2.2.2.2.2.1
theorem dL_law_2215 : decode cL_law 2215 = .ok (.iload 4, 2) := db6_50.2.2.2.2.2.2.2.2.2.2.2.2.2.1
theorem dL_law_2217 : decode cL_law 2217 = .ok (.iconst 1, 1) := db6_50.2.2.2.2.2.2.2.2.2.2.2.2.2.2.1
theorem dL_law_2218 : decode cL_law 2218 = .ok (.iadd, 1) := db6_50.2.2.2.2.2.2.2.2.2.2.2.2.2.2.2
theorem db6_51 : (decode cL_law 2219 = .ok (.iaload, 1)) ∧ (decode cL_law 2220 = .ok (.aload_n 0, 1)) ∧ (decode cL_law 2221 = .ok (.iload 4, 2)) ∧ (decode cL_law 2223 = .ok (.iconst 2, 1)) ∧ (decode cL_law 2224 = .ok (.iadd, 1)) ∧ (decode cL_law 2225 = .ok (.iaload, 1)) ∧ (decode cL_law 2226 = .ok (.aload_n 3, 1)) ∧ (decode cL_law 2227 = .ok (.invokestatic 331, 3)) ∧ (decode cL_law 2230 = .ok (.istore 5, 2)) ∧ (decode cL_law 2232 = .ok (.aload_n 2, 1)) ∧ (decode cL_law 2233 = .ok (.aload_n 0, 1)) ∧ (decode cL_law 2234 = .ok (.iload 4, 2)) ∧ (decode cL_law 2236 = .ok (.iconst 1, 1)) ∧ (decode cL_law 2237 = .ok (.iadd, 1)) ∧ (decode cL_law 2238 = .ok (.iaload, 1)) ∧ (decode cL_law 2239 = .ok (.aload_n 0, 1)) := by decide +kernel
theorem dL_law_2219 : decode cL_law 2219 = .ok (.iaload, 1) := db6_51.1
theorem dL_law_2220 : decode cL_law 2220 = .ok (.aload_n 0, 1) := db6_51.2.1
theorem dL_law_2221 : decode cL_law 2221 = .ok (.iload 4, 2) := db6_51.2.2.1
theorem dL_law_2223 : decode cL_law 2223 = .ok (.iconst 2, 1) := db6_51.2.2.2.1
theorem dL_law_2224 : decode cL_law 2224 = .ok (.iadd, 1) := db6_51.2.2.2.2.1
theorem dL_law_2225 : decode cL_law 2225 = .ok (.iaload, 1) := db6_51.2.2.2.2.2.1
theorem dL_law_2226 : decode cL_law 2226 = .ok (.aload_n 3, 1) := db6_51.2.2.2.2.2.2.1
theorem dL_law_2227 : decode cL_law 2227 = .ok (.invokestatic 331, 3) := db6_51.2.2.2.2.2.2.2.1
theorem dL_law_2230 : decode cL_law 2230 = .ok (.istore 5, 2) := db6_51.2.2.2.2.2.2.2.2.1
theorem dL_law_2232 : decode cL_law 2232 = .ok (.aload_n 2, 1) := db6_51.2.2.2.2.2.2.2.2.2.1
theorem dL_law_2233 : decode cL_law 2233 = .ok (.aload_n 0, 1) := db6_51.2.2.2.2.2.2.2.2.2.2.1
theorem dL_law_2234 : decode cL_law 2234 = .ok (.iload 4, 2) := db6_51.2.2.2.2.2.2.2.2.2.2.2.1
theorem dL_law_2236 : decode cL_law 2236 = .ok (.iconst 1, 1) := db6_51.2.2.2.2.2.2.2.2.2.2.2.2.1
theorem dL_law_2237 : decode cL_law 2237 = .ok (.iadd, 1) := db6_51.2.2.2.2.2.2.2.2.2.2.2.2.2.1
theorem dL_law_2238 : decode cL_law 2238 = .ok (.iaload, 1) := db6_51.2.2.2.2.2.2.2.2.2.2.2.2.2.2.1
theorem dL_law_2239 : decode cL_law 2239 = .ok (.aload_n 0, 1) := db6_51.2.2.2.2.2.2.2.2.2.2.2.2.2.2.2
theorem db6_52 : (decode cL_law 2240 = .ok (.iload 4, 2)) ∧ (decode cL_law 2242 = .ok (.iconst 2, 1)) ∧ (decode cL_law 2243 = .ok (.iadd, 1)) ∧ (decode cL_law 2244 = .ok (.iaload, 1)) ∧ (decode cL_law 2245 = .ok (.invokevirtual 333, 3)) ∧ (decode cL_law 2248 = .ok (.istore 6, 2)) ∧ (decode cL_law 2250 = .ok (.goto 110, 3)) ∧ (decode cL_law 2253 = .ok (.aload_n 1, 1)) ∧ (decode cL_law 2254 = .ok (.aload_n 0, 1)) ∧ (decode cL_law 2255 = .ok (.iload 4, 2)) ∧ (decode cL_law 2257 = .ok (.iconst 1, 1)) ∧ (decode cL_law 2258 = .ok (.iadd, 1)) ∧ (decode cL_law 2259 = .ok (.iaload, 1)) ∧ (decode cL_law 2260 = .ok (.aload_n 0, 1)) ∧ (decode cL_law 2261 = .ok (.iload 4, 2)) ∧ (decode cL_law 2263 = .ok (.iconst 2, 1)) := by decide +kernel
theorem dL_law_2240 : decode cL_law 2240 = .ok (.iload 4, 2) := db6_52.1
theorem dL_law_2242 : decode cL_law 2242 = .ok (.iconst 2, 1) := db6_52.2.1
theorem dL_law_2243 : decode cL_law 2243 = .ok (.iadd, 1) := db6_52.2.2.1
theorem dL_law_2244 : decode cL_law 2244 = .ok (.iaload, 1) := db6_52.2.2.2.1
theorem dL_law_2245 : decode cL_law 2245 = .ok (.invokevirtual 333, 3) := db6_52.2.2.2.2.1
theorem dL_law_2248 : decode cL_law 2248 = .ok (.istore 6, 2) := db6_52.2.2.2.2.2.1
theorem dL_law_2250 : decode cL_law 2250 = .ok (.goto 110, 3) := db6_52.2.2.2.2.2.2.1
theorem dL_law_2253 : decode cL_law 2253 = .ok (.aload_n 1, 1) := db6_52.2.2.2.2.2.2.2.1
theorem dL_law_2254 : decode cL_law 2254 = .ok (.aload_n 0, 1) := db6_52.2.2.2.2.2.2.2.2.1
theorem dL_law_2255 : decode cL_law 2255 = .ok (.iload 4, 2) := db6_52.2.2.2.2.2.2.2.2.2.1
theorem dL_law_2257 : decode cL_law 2257 = .ok (.iconst 1, 1) := db6_52.2.2.2.2.2.2.2.2.2.2.1
theorem dL_law_2258 : decode cL_law 2258 = .ok (.iadd, 1) := db6_52.2.2.2.2.2.2.2.2.2.2.2.1
theorem dL_law_2259 : decode cL_law 2259 = .ok (.iaload, 1) := db6_52.2.2.2.2.2.2.2.2.2.2.2.2.1
theorem dL_law_2260 : decode cL_law 2260 = .ok (.aload_n 0, 1) := db6_52.2.2.2.2.2.2.2.2.2.2.2.2.2.1
theorem dL_law_2261 : decode cL_law 2261 = .ok (.iload 4, 2) := db6_52.2.2.2.2.2.2.2.2.2.2.2.2.2.2.1
theorem dL_law_2263 : decode cL_law 2263 = .ok (.iconst 2, 1) := db6_52.2.2.2.2.2.2.2.2.2.2.2.2.2.2.2
theorem db6_53 : (decode cL_law 2264 = .ok (.iadd, 1)) ∧ (decode cL_law 2265 = .ok (.iaload, 1)) ∧ (decode cL_law 2266 = .ok (.aload_n 3, 1)) ∧ (decode cL_law 2267 = .ok (.invokestatic 334, 3)) ∧ (decode cL_law 2270 = .ok (.istore 5, 2)) ∧ (decode cL_law 2272 = .ok (.aload_n 2, 1)) ∧ (decode cL_law 2273 = .ok (.aload_n 0, 1)) ∧ (decode cL_law 2274 = .ok (.iload 4, 2)) ∧ (decode cL_law 2276 = .ok (.iconst 1, 1)) ∧ (decode cL_law 2277 = .ok (.iadd, 1)) ∧ (decode cL_law 2278 = .ok (.iaload, 1)) ∧ (decode cL_law 2279 = .ok (.aload_n 0, 1)) ∧ (decode cL_law 2280 = .ok (.iload 4, 2)) ∧ (decode cL_law 2282 = .ok (.iconst 2, 1)) ∧ (decode cL_law 2283 = .ok (.iadd, 1)) ∧ (decode cL_law 2284 = .ok (.iaload, 1)) := by decide +kernel
theorem dL_law_2264 : decode cL_law 2264 = .ok (.iadd, 1) := db6_53.1
theorem dL_law_2265 : decode cL_law 2265 = .ok (.iaload, 1) := db6_53.2.1
theorem dL_law_2266 : decode cL_law 2266 = .ok (.aload_n 3, 1) := db6_53.2.2.1
theorem dL_law_2267 : decode cL_law 2267 = .ok (.invokestatic 334, 3) := db6_53.2.2.2.1
theorem dL_law_2270 : decode cL_law 2270 = .ok (.istore 5, 2) := db6_53.2.2.2.2.1
theorem dL_law_2272 : decode cL_law 2272 = .ok (.aload_n 2, 1) := db6_53.2.2.2.2.2.1
theorem dL_law_2273 : decode cL_law 2273 = .ok (.aload_n 0, 1) := db6_53.2.2.2.2.2.2.1
theorem dL_law_2274 : decode cL_law 2274 = .ok (.iload 4, 2) := db6_53.2.2.2.2.2.2.2.1
theorem dL_law_2276 : decode cL_law 2276 = .ok (.iconst 1, 1) := db6_53.2.2.2.2.2.2.2.2.1
theorem dL_law_2277 : decode cL_law 2277 = .ok (.iadd, 1) := db6_53.2.2.2.2.2.2.2.2.2.1
theorem dL_law_2278 : decode cL_law 2278 = .ok (.iaload, 1) := db6_53.2.2.2.2.2.2.2.2.2.2.1
theorem dL_law_2279 : decode cL_law 2279 = .ok (.aload_n 0, 1) := db6_53.2.2.2.2.2.2.2.2.2.2.2.1
theorem dL_law_2280 : decode cL_law 2280 = .ok (.iload 4, 2) := db6_53.2.2.2.2.2.2.2.2.2.2.2.2.1
theorem dL_law_2282 : decode cL_law 2282 = .ok (.iconst 2, 1) := db6_53.2.2.2.2.2.2.2.2.2.2.2.2.2.1
theorem dL_law_2283 : decode cL_law 2283 = .ok (.iadd, 1) := db6_53.2.2.2.2.2.2.2.2.2.2.2.2.2.2.1
theorem dL_law_2284 : decode cL_law 2284 = .ok (.iaload, 1) := db6_53.2.2.2.2.2.2.2.2.2.2.2.2.2.2.2
theorem db6_54 : (decode cL_law 2285 = .ok (.invokevirtual 336, 3)) ∧ (decode cL_law 2288 = .ok (.istore 6, 2)) ∧ (decode cL_law 2290 = .ok (.goto 70, 3)) ∧ (decode cL_law 2293 = .ok (.aload_n 1, 1)) ∧ (decode cL_law 2294 = .ok (.aload_n 0, 1)) ∧ (decode cL_law 2295 = .ok (.iload 4, 2)) ∧ (decode cL_law 2297 = .ok (.iconst 1, 1)) ∧ (decode cL_law 2298 = .ok (.iadd, 1)) ∧ (decode cL_law 2299 = .ok (.iaload, 1)) ∧ (decode cL_law 2300 = .ok (.aload_n 3, 1)) ∧ (decode cL_law 2301 = .ok (.invokestatic 337, 3)) ∧ (decode cL_law 2304 = .ok (.istore 5, 2)) ∧ (decode cL_law 2306 = .ok (.aload_n 2, 1)) ∧ (decode cL_law 2307 = .ok (.aload_n 0, 1)) ∧ (decode cL_law 2308 = .ok (.iload 4, 2)) ∧ (decode cL_law 2310 = .ok (.iconst 1, 1)) := by decide +kernel
theorem dL_law_2285 : decode cL_law 2285 = .ok (.invokevirtual 336, 3) := db6_54.1
theorem dL_law_2288 : decode cL_law 2288 = .ok (.istore 6, 2) := db6_54.2.1
theorem dL_law_2290 : decode cL_law 2290 = .ok (.goto 70, 3) := db6_54.2.2.1
theorem dL_law_2293 : decode cL_law 2293 = .ok (.aload_n 1, 1) := db6_54.2.2.2.1
theorem dL_law_2294 : decode cL_law 2294 = .ok (.aload_n 0, 1) := db6_54.2.2.2.2.1
theorem dL_law_2295 : decode cL_law 2295 = .ok (.iload 4, 2) := db6_54.2.2.2.2.2.1
theorem dL_law_2297 : decode cL_law 2297 = .ok (.iconst 1, 1) := db6_54.2.2.2.2.2.2.1
theorem dL_law_2298 : decode cL_law 2298 = .ok (.iadd, 1) := db6_54.2.2.2.2.2.2.2.1
theorem dL_law_2299 : decode cL_law 2299 = .ok (.iaload, 1) := db6_54.2.2.2.2.2.2.2.2.1
theorem dL_law_2300 : decode cL_law 2300 = .ok (.aload_n 3, 1) := db6_54.2.2.2.2.2.2.2.2.2.1
theorem dL_law_2301 : decode cL_law 2301 = .ok (.invokestatic 337, 3) := db6_54.2.2.2.2.2.2.2.2.2.2.1
theorem dL_law_2304 : decode cL_law 2304 = .ok (.istore 5, 2) := db6_54.2.2.2.2.2.2.2.2.2.2.2.1
theorem dL_law_2306 : decode cL_law 2306 = .ok (.aload_n 2, 1) := db6_54.2.2.2.2.2.2.2.2.2.2.2.2.1
theorem dL_law_2307 : decode cL_law 2307 = .ok (.aload_n 0, 1) := db6_54.2.2.2.2.2.2.2.2.2.2.2.2.2.1
theorem dL_law_2308 : decode cL_law 2308 = .ok (.iload 4, 2) := db6_54.2.2.2.2.2.2.2.2.2.2.2.2.2.2.1
theorem dL_law_2310 : decode cL_law 2310 = .ok (.iconst 1, 1) := db6_54.2.2.2.2.2.2.2.2.2.2.2.2.2.2.2
theorem db6_55 : (decode cL_law 2311 = .ok (.iadd, 1)) ∧ (decode cL_law 2312 = .ok (.iaload, 1)) ∧ (decode cL_law 2313 = .ok (.invokevirtual 339, 3)) ∧ (decode cL_law 2316 = .ok (.istore 6, 2)) ∧ (decode cL_law 2318 = .ok (.goto 42, 3)) ∧ (decode cL_law 2321 = .ok (.aload_n 1, 1)) ∧ (decode cL_law 2322 = .ok (.invokevirtual 340, 3)) ∧ (decode cL_law 2325 = .ok (.pop, 1)) ∧ (decode cL_law 2326 = .ok (.aload_n 2, 1)) ∧ (decode cL_law 2327 = .ok (.invokevirtual 343, 3)) ∧ (decode cL_law 2330 = .ok (.pop, 1)) ∧ (decode cL_law 2331 = .ok (.goto 29, 3)) ∧ (decode cL_law 2334 = .ok (.aload_n 1, 1)) ∧ (decode cL_law 2335 = .ok (.invokevirtual 344, 3)) ∧ (decode cL_law 2338 = .ok (.pop, 1)) ∧ (decode cL_law 2339 = .ok (.aload_n 2, 1)) := by decide +kernel
theorem dL_law_2311 : decode cL_law 2311 = .ok (.iadd, 1) := db6_55.1
theorem dL_law_2312 : decode cL_law 2312 = .ok (.iaload, 1) := db6_55.2.1
theorem dL_law_2313 : decode cL_law 2313 = .ok (.invokevirtual 339, 3) := db6_55.2.2.1
theorem dL_law_2316 : decode cL_law 2316 = .ok (.istore 6, 2) := db6_55.2.2.2.1
theorem dL_law_2318 : decode cL_law 2318 = .ok (.goto 42, 3) := db6_55.2.2.2.2.1
theorem dL_law_2321 : decode cL_law 2321 = .ok (.aload_n 1, 1) := db6_55.2.2.2.2.2.1
theorem dL_law_2322 : decode cL_law 2322 = .ok (.invokevirtual 340, 3) := db6_55.2.2.2.2.2.2.1
theorem dL_law_2325 : decode cL_law 2325 = .ok (.pop, 1) := db6_55.2.2.2.2.2.2.2.1
theorem dL_law_2326 : decode cL_law 2326 = .ok (.aload_n 2, 1) := db6_55.2.2.2.2.2.2.2.2.1
theorem dL_law_2327 : decode cL_law 2327 = .ok (.invokevirtual 343, 3) := db6_55.2.2.2.2.2.2.2.2.2.1
theorem dL_law_2330 : decode cL_law 2330 = .ok (.pop, 1) := db6_55.2.2.2.2.2.2.2.2.2.2.1
theorem dL_law_2331 : decode cL_law 2331 = .ok (.goto 29, 3) := db6_55.2.2.2.2.2.2.2.2.2.2.2.1
theorem dL_law_2334 : decode cL_law 2334 = .ok (.aload_n 1, 1) := db6_55.2.2.2.2.2.2.2.2.2.2.2.2.1
theorem dL_law_2335 : decode cL_law 2335 = .ok (.invokevirtual 344, 3) := db6_55.2.2.2.2.2.2.2.2.2.2.2.2.2.1
theorem dL_law_2338 : decode cL_law 2338 = .ok (.pop, 1) := db6_55.2.2.2.2.2.2.2.2.2.2.2.2.2.2.1
theorem dL_law_2339 : decode cL_law 2339 = .ok (.aload_n 2, 1) := db6_55.2.2.2.2.2.2.2.2.2.2.2.2.2.2.2
theorem db6_56 : (decode cL_law 2340 = .ok (.invokevirtual 348, 3)) ∧ (decode cL_law 2343 = .ok (.pop, 1)) ∧ (decode cL_law 2344 = .ok (.goto 16, 3)) ∧ (decode cL_law 2347 = .ok (.aload_n 1, 1)) ∧ (decode cL_law 2348 = .ok (.invokevirtual 349, 3)) ∧ (decode cL_law 2351 = .ok (.pop2, 1)) ∧ (decode cL_law 2352 = .ok (.aload_n 2, 1)) ∧ (decode cL_law 2353 = .ok (.invokevirtual 353, 3)) ∧ (decode cL_law 2356 = .ok (.pop2, 1)) ∧ (decode cL_law 2357 = .ok (.goto 3, 3)) ∧ (decode cL_law 2360 = .ok (.iinc 4 5, 3)) ∧ (decode cL_law 2363 = .ok (.goto (-2336), 3)) ∧ (decode cL_law 2366 = .ok (.iconst 1, 1)) ∧ (decode cL_law 2367 = .ok (.ireturn, 1)) := by decide +kernel
theorem dL_law_2340 : decode cL_law 2340 = .ok (.invokevirtual 348, 3) := db6_56.1
theorem dL_law_2343 : decode cL_law 2343 = .ok (.pop, 1) := db6_56.2.1
theorem dL_law_2344 : decode cL_law 2344 = .ok (.goto 16, 3) := db6_56.2.2.1
theorem dL_law_2347 : decode cL_law 2347 = .ok (.aload_n 1, 1) := db6_56.2.2.2.1
theorem dL_law_2348 : decode cL_law 2348 = .ok (.invokevirtual 349, 3) := db6_56.2.2.2.2.1
theorem dL_law_2351 : decode cL_law 2351 = .ok (.pop2, 1) := db6_56.2.2.2.2.2.1
theorem dL_law_2352 : decode cL_law 2352 = .ok (.aload_n 2, 1) := db6_56.2.2.2.2.2.2.1
theorem dL_law_2353 : decode cL_law 2353 = .ok (.invokevirtual 353, 3) := db6_56.2.2.2.2.2.2.2.1
theorem dL_law_2356 : decode cL_law 2356 = .ok (.pop2, 1) := db6_56.2.2.2.2.2.2.2.2.1
theorem dL_law_2357 : decode cL_law 2357 = .ok (.goto 3, 3) := db6_56.2.2.2.2.2.2.2.2.2.1
theorem dL_law_2360 : decode cL_law 2360 = .ok (.iinc 4 5, 3) := db6_56.2.2.2.2.2.2.2.2.2.2.1
theorem dL_law_2363 : decode cL_law 2363 = .ok (.goto (-2336), 3) := db6_56.2.2.2.2.2.2.2.2.2.2.2.1
theorem dL_law_2366 : decode cL_law 2366 = .ok (.iconst 1, 1) := db6_56.2.2.2.2.2.2.2.2.2.2.2.2.1
theorem dL_law_2367 : decode cL_law 2367 = .ok (.ireturn, 1) := db6_56.2.2.2.2.2.2.2.2.2.2.2.2.2

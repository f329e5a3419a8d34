theorem dL_law_1090 : decode code 1090 = .ok (.iadd, 1) := by decide +kernel
theorem dL_law_1091 : decode code 1091 = .ok (.iaload, 1) := by decide +kernel
theorem dL_law_1092 : decode code 1092 = .ok (.invokevirtual 135, 3) := by decide +kernel
theorem dL_law_1095 : decode code 1095 = .ok (.if_icmp .eq 151, 3) := by decide +kernel
theorem dL_law_1098 : decode code 1098 = .ok (.iconst 0, 1) := by decide +kernel
theorem dL_law_1099 : decode code 1099 = .ok (.ireturn, 1) := by decide +kernel
theorem dL_law_1100 : decode code 1100 = .ok (.aload_n 1, 1) := by decide +kernel
theorem dL_law_1101 : decode code 1101 = .ok (.aload_n 0, 1) := by decide +kernel
theorem dL_law_1102 : decode code 1102 = .ok (.iload_n 3, 1) := by decide +kernel
theorem dL_law_1103 : decode code 1103 = .ok (.iconst 1, 1) := by decide +kernel
theorem dL_law_1104 : decode code 1104 = .ok (.iadd, 1) := by decide +kernel
theorem dL_law_1105 : decode code 1105 = .ok (.iaload, 1) := by decide +kernel
theorem dL_law_1106 : decode code 1106 = .ok (.aload_n 0, 1) := by decide +kernel
theorem dL_law_1107 : decode code 1107 = .ok (.iload_n 3, 1) := by decide +kernel
theorem dL_law_1108 : decode code 1108 = .ok (.iconst 2, 1) := by decide +kernel
theorem dL_law_1109 : decode code 1109 = .ok (.iadd, 1) := by decide +kernel
theorem dL_law_1110 : decode code 1110 = .ok (.iaload, 1) := by decide +kernel
theorem dL_law_1111 : decode code 1111 = .ok (.aload_n 0, 1) := by decide +kernel
theorem dL_law_1112 : decode code 1112 = .ok (.iload_n 3, 1) := by decide +kernel
theorem dL_law_1113 : decode code 1113 = .ok (.iconst 3, 1) := by decide +kernel
theorem dL_law_1114 : decode code 1114 = .ok (.iadd, 1) := by decide +kernel
theorem dL_law_1115 : decode code 1115 = .ok (.iaload, 1) := by decide +kernel
theorem dL_law_1116 : decode code 1116 = .ok (.aload_n 0, 1) := by decide +kernel
theorem dL_law_1117 : decode code 1117 = .ok (.iload_n 3, 1) := by decide +kernel
theorem dL_law_1118 : decode code 1118 = .ok (.iconst 4, 1) := by decide +kernel
theorem dL_law_1119 : decode code 1119 = .ok (.iadd, 1) := by decide +kernel
theorem dL_law_1120 : decode code 1120 = .ok (.iaload, 1) := by decide +kernel
theorem dL_law_1121 : decode code 1121 = .ok (.i2l, 1) := by decide +kernel
theorem dL_law_1122 : decode code 1122 = .ok (.bipush 32, 2) := by decide +kernel
theorem dL_law_1124 : decode code 1124 = .ok (.lshl, 1) := by decide +kernel
theorem dL_law_1125 : decode code 1125 = .ok (.aload_n 0, 1) := by decide +kernel
theorem dL_law_1126 : decode code 1126 = .ok (.iload_n 3, 1) := by decide +kernel
theorem dL_law_1127 : decode code 1127 = .ok (.iconst 5, 1) := by decide +kernel
theorem dL_law_1128 : decode code 1128 = .ok (.iadd, 1) := by decide +kernel
theorem dL_law_1129 : decode code 1129 = .ok (.iaload, 1) := by decide +kernel
theorem dL_law_1130 : decode code 1130 = .ok (.i2l, 1) := by decide +kernel
theorem dL_law_1131 : decode code 1131 = .ok (.ldc2_w 45, 3) := by decide +kernel
theorem dL_law_1134 : decode code 1134 = .ok (.land, 1) := by decide +kernel
theorem dL_law_1135 : decode code 1135 = .ok (.lor, 1) := by decide +kernel
theorem dL_law_1136 : decode code 1136 = .ok (.invokevirtual 136, 3) := by decide +kernel
theorem dL_law_1139 : decode code 1139 = .ok (.aload_n 2, 1) := by decide +kernel
theorem dL_law_1140 : decode code 1140 = .ok (.aload_n 0, 1) := by decide +kernel
theorem dL_law_1141 : decode code 1141 = .ok (.iload_n 3, 1) := by decide +kernel
theorem dL_law_1142 : decode code 1142 = .ok (.iconst 1, 1) := by decide +kernel
theorem dL_law_1143 : decode code 1143 = .ok (.iadd, 1) := by decide +kernel
theorem dL_law_1144 : decode code 1144 = .ok (.iaload, 1) := by decide +kernel
theorem dL_law_1145 : decode code 1145 = .ok (.aload_n 0, 1) := by decide +kernel
theorem dL_law_1146 : decode code 1146 = .ok (.iload_n 3, 1) := by decide +kernel
theorem dL_law_1147 : decode code 1147 = .ok (.iconst 2, 1) := by decide +kernel
theorem dL_law_1148 : decode code 1148 = .ok (.iadd, 1) := by decide +kernel
theorem dL_law_1149 : decode code 1149 = .ok (.iaload, 1) := by decide +kernel
theorem dL_law_1150 : decode code 1150 = .ok (.aload_n 0, 1) := by decide +kernel
theorem dL_law_1151 : decode code 1151 = .ok (.iload_n 3, 1) := by decide +kernel
theorem dL_law_1152 : decode code 1152 = .ok (.iconst 3, 1) := by decide +kernel
theorem dL_law_1153 : decode code 1153 = .ok (.iadd, 1) := by decide +kernel
theorem dL_law_1154 : decode code 1154 = .ok (.iaload, 1) := by decide +kernel
theorem dL_law_1155 : decode code 1155 = .ok (.aload_n 0, 1) := by decide +kernel
theorem dL_law_1156 : decode code 1156 = .ok (.iload_n 3, 1) := by decide +kernel
theorem dL_law_1157 : decode code 1157 = .ok (.iconst 4, 1) := by decide +kernel
theorem dL_law_1158 : decode code 1158 = .ok (.iadd, 1) := by decide +kernel
theorem dL_law_1159 : decode code 1159 = .ok (.iaload, 1) := by decide +kernel
theorem dL_law_1160 : decode code 1160 = .ok (.i2l, 1) := by decide +kernel
theorem dL_law_1161 : decode code 1161 = .ok (.bipush 32, 2) := by decide +kernel
theorem dL_law_1163 : decode code 1163 = .ok (.lshl, 1) := by decide +kernel
theorem dL_law_1164 : decode code 1164 = .ok (.aload_n 0, 1) := by decide +kernel
theorem dL_law_1165 : decode code 1165 = .ok (.iload_n 3, 1) := by decide +kernel
theorem dL_law_1166 : decode code 1166 = .ok (.iconst 5, 1) := by decide +kernel
theorem dL_law_1167 : decode code 1167 = .ok (.iadd, 1) := by decide +kernel
theorem dL_law_1168 : decode code 1168 = .ok (.iaload, 1) := by decide +kernel
theorem dL_law_1169 : decode code 1169 = .ok (.i2l, 1) := by decide +kernel
theorem dL_law_1170 : decode code 1170 = .ok (.ldc2_w 45, 3) := by decide +kernel
theorem dL_law_1173 : decode code 1173 = .ok (.land, 1) := by decide +kernel
theorem dL_law_1174 : decode code 1174 = .ok (.lor, 1) := by decide +kernel
theorem dL_law_1175 : decode code 1175 = .ok (.invokevirtual 140, 3) := by decide +kernel
theorem dL_law_1178 : decode code 1178 = .ok (.if_icmp .eq 68, 3) := by decide +kernel
theorem dL_law_1181 : decode code 1181 = .ok (.iconst 0, 1) := by decide +kernel
theorem dL_law_1182 : decode code 1182 = .ok (.ireturn, 1) := by decide +kernel
theorem dL_law_1183 : decode code 1183 = .ok (.aload_n 1, 1) := by decide +kernel
theorem dL_law_1184 : decode code 1184 = .ok (.aload_n 0, 1) := by decide +kernel
theorem dL_law_1185 : decode code 1185 = .ok (.iload_n 3, 1) := by decide +kernel
theorem dL_law_1186 : decode code 1186 = .ok (.iconst 1, 1) := by decide +kernel
theorem dL_law_1187 : decode code 1187 = .ok (.iadd, 1) := by decide +kernel
theorem dL_law_1188 : decode code 1188 = .ok (.iaload, 1) := by decide +kernel
theorem dL_law_1189 : decode code 1189 = .ok (.aload_n 0, 1) := by decide +kernel
theorem dL_law_1190 : decode code 1190 = .ok (.iload_n 3, 1) := by decide +kernel
theorem dL_law_1191 : decode code 1191 = .ok (.iconst 2, 1) := by decide +kernel
theorem dL_law_1192 : decode code 1192 = .ok (.iadd, 1) := by decide +kernel
theorem dL_law_1193 : decode code 1193 = .ok (.iaload, 1) := by decide +kernel
theorem dL_law_1194 : decode code 1194 = .ok (.aload_n 0, 1) := by decide +kernel
theorem dL_law_1195 : decode code 1195 = .ok (.iload_n 3, 1) := by decide +kernel
theorem dL_law_1196 : decode code 1196 = .ok (.iconst 3, 1) := by decide +kernel
theorem dL_law_1197 : decode code 1197 = .ok (.iadd, 1) := by decide +kernel
theorem dL_law_1198 : decode code 1198 = .ok (.iaload, 1) := by decide +kernel
theorem dL_law_1199 : decode code 1199 = .ok (.aload_n 0, 1) := by decide +kernel
theorem dL_law_1200 : decode code 1200 = .ok (.iload_n 3, 1) := by decide +kernel
theorem dL_law_1201 : decode code 1201 = .ok (.iconst 4, 1) := by decide +kernel
theorem dL_law_1202 : decode code 1202 = .ok (.iadd, 1) := by decide +kernel
theorem dL_law_1203 : decode code 1203 = .ok (.iaload, 1) := by decide +kernel
theorem dL_law_1204 : decode code 1204 = .ok (.aload_n 0, 1) := by decide +kernel
theorem dL_law_1205 : decode code 1205 = .ok (.iload_n 3, 1) := by decide +kernel
theorem dL_law_1206 : decode code 1206 = .ok (.iconst 5, 1) := by decide +kernel
theorem dL_law_1207 : decode code 1207 = .ok (.iadd, 1) := by decide +kernel
theorem dL_law_1208 : decode code 1208 = .ok (.iaload, 1) := by decide +kernel
theorem dL_law_1209 : decode code 1209 = .ok (.invokevirtual 141, 3) := by decide +kernel
theorem dL_law_1212 : decode code 1212 = .ok (.aload_n 2, 1) := by decide +kernel
theorem dL_law_1213 : decode code 1213 = .ok (.aload_n 0, 1) := by decide +kernel
theorem dL_law_1214 : decode code 1214 = .ok (.iload_n 3, 1) := by decide +kernel
theorem dL_law_1215 : decode code 1215 = .ok (.iconst 1, 1) := by decide +kernel
theorem dL_law_1216 : decode code 1216 = .ok (.iadd, 1) := by decide +kernel
theorem dL_law_1217 : decode code 1217 = .ok (.iaload, 1) := by decide +kernel
theorem dL_law_1218 : decode code 1218 = .ok (.aload_n 0, 1) := by decide +kernel
theorem dL_law_1219 : decode code 1219 = .ok (.iload_n 3, 1) := by decide +kernel
theorem dL_law_1220 : decode code 1220 = .ok (.iconst 2, 1) := by decide +kernel
theorem dL_law_1221 : decode code 1221 = .ok (.iadd, 1) := by decide +kernel
theorem dL_law_1222 : decode code 1222 = .ok (.iaload, 1) := by decide +kernel
theorem dL_law_1223 : decode code 1223 = .ok (.aload_n 0, 1) := by decide +kernel
theorem dL_law_1224 : decode code 1224 = .ok (.iload_n 3, 1) := by decide +kernel
theorem dL_law_1225 : decode code 1225 = .ok (.iconst 3, 1) := by decide +kernel
theorem dL_law_1226 : decode code 1226 = .ok (.iadd, 1) := by decide +kernel
theorem dL_law_1227 : decode code 1227 = .ok (.iaload, 1) := by decide +kernel
theorem dL_law_1228 : decode code 1228 = .ok (.aload_n 0, 1) := by decide +kernel
theorem dL_law_1229 : decode code 1229 = .ok (.iload_n 3, 1) := by decide +kernel
theorem dL_law_1230 : decode code 1230 = .ok (.iconst 4, 1) := by decide +kernel
theorem dL_law_1231 : decode code 1231 = .ok (.iadd, 1) := by decide +kernel
theorem dL_law_1232 : decode code 1232 = .ok (.iaload, 1) := by decide +kernel
theorem dL_law_1233 : decode code 1233 = .ok (.aload_n 0, 1) := by decide +kernel
theorem dL_law_1234 : decode code 1234 = .ok (.iload_n 3, 1) := by decide +kernel
theorem dL_law_1235 : decode code 1235 = .ok (.iconst 5, 1) := by decide +kernel
theorem dL_law_1236 : decode code 1236 = .ok (.iadd, 1) := by decide +kernel
theorem dL_law_1237 : decode code 1237 = .ok (.iaload, 1) := by decide +kernel
theorem dL_law_1238 : decode code 1238 = .ok (.invokevirtual 144, 3) := by decide +kernel
theorem dL_law_1241 : decode code 1241 = .ok (.if_icmp .eq 5, 3) := by decide +kernel
theorem dL_law_1244 : decode code 1244 = .ok (.iconst 0, 1) := by decide +kernel
theorem dL_law_1245 : decode code 1245 = .ok (.ireturn, 1) := by decide +kernel
theorem dL_law_1246 : decode code 1246 = .ok (.iinc 3 6, 3) := by decide +kernel
theorem dL_law_1249 : decode code 1249 = .ok (.goto (-1231), 3) := by decide +kernel
theorem dL_law_1252 : decode code 1252 = .ok (.iconst 1, 1) := by decide +kernel
theorem dL_law_1253 : decode code 1253 = .ok (.ireturn, 1) := by decide +kernel

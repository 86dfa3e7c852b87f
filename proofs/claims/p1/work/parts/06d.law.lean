theorem dL_law_1170 : decode cL_law 1170 = .ok (.aload_n 1, 1) := by decide +kernel
theorem dL_law_1171 : decode cL_law 1171 = .ok (.aload_n 0, 1) := by decide +kernel
theorem dL_law_1172 : decode cL_law 1172 = .ok (.iload_n 3, 1) := by decide +kernel
theorem dL_law_1173 : decode cL_law 1173 = .ok (.iconst 1, 1) := by decide +kernel
theorem dL_law_1174 : decode cL_law 1174 = .ok (.iadd, 1) := by decide +kernel
theorem dL_law_1175 : decode cL_law 1175 = .ok (.iaload, 1) := by decide +kernel
theorem dL_law_1176 : decode cL_law 1176 = .ok (.aload_n 0, 1) := by decide +kernel
theorem dL_law_1177 : decode cL_law 1177 = .ok (.iload_n 3, 1) := by decide +kernel
theorem dL_law_1178 : decode cL_law 1178 = .ok (.iconst 2, 1) := by decide +kernel
theorem dL_law_1179 : decode cL_law 1179 = .ok (.iadd, 1) := by decide +kernel
theorem dL_law_1180 : decode cL_law 1180 = .ok (.iaload, 1) := by decide +kernel
theorem dL_law_1181 : decode cL_law 1181 = .ok (.aload_n 0, 1) := by decide +kernel
theorem dL_law_1182 : decode cL_law 1182 = .ok (.iload_n 3, 1) := by decide +kernel
theorem dL_law_1183 : decode cL_law 1183 = .ok (.iconst 3, 1) := by decide +kernel
theorem dL_law_1184 : decode cL_law 1184 = .ok (.iadd, 1) := by decide +kernel
theorem dL_law_1185 : decode cL_law 1185 = .ok (.iaload, 1) := by decide +kernel
theorem dL_law_1186 : decode cL_law 1186 = .ok (.aload_n 0, 1) := by decide +kernel
theorem dL_law_1187 : decode cL_law 1187 = .ok (.iload_n 3, 1) := by decide +kernel
theorem dL_law_1188 : decode cL_law 1188 = .ok (.iconst 4, 1) := by decide +kernel
theorem dL_law_1189 : decode cL_law 1189 = .ok (.iadd, 1) := by decide +kernel
theorem dL_law_1190 : decode cL_law 1190 = .ok (.iaload, 1) := by decide +kernel
theorem dL_law_1191 : decode cL_law 1191 = .ok (.invokevirtual 127, 3) := by decide +kernel
theorem mw_1240 : Cond.methodLink RL 127 yX11_cellAt ∈ wsL_law := List.mem_of_getElem? (i := 1240) (by decide +kernel)
theorem mw_1241 : Cond.instanceMethod yX11_cellAt ∈ wsL_law := List.mem_of_getElem? (i := 1241) (by decide +kernel)
theorem mw_1242 : Cond.selects RX11 yX11_cellAt yX11_cellAt ∈ wsL_law := List.mem_of_getElem? (i := 1242) (by decide +kernel)
theorem gV_L_127 : GoodIn wsL_law (wsV RL 127 RX11 yX11_cellAt (wl yX11_cellAt cX11_cellAt 7 (some .int))) := g_V mw_1240 mw_1241 mw_1242 mw_2 mw_1243
theorem hdV_X11_cellAt : yX11_cellAt.cls = RX11 ∧ okD yX11_cellAt 4 := by decide +kernel
theorem dL_law_1194 : decode cL_law 1194 = .ok (.aload_n 2, 1) := by decide +kernel
theorem dL_law_1195 : decode cL_law 1195 = .ok (.aload_n 0, 1) := by decide +kernel
theorem dL_law_1196 : decode cL_law 1196 = .ok (.iload_n 3, 1) := by decide +kernel
theorem dL_law_1197 : decode cL_law 1197 = .ok (.iconst 1, 1) := by decide +kernel
theorem dL_law_1198 : decode cL_law 1198 = .ok (.iadd, 1) := by decide +kernel
theorem dL_law_1199 : decode cL_law 1199 = .ok (.iaload, 1) := by decide +kernel
theorem dL_law_1200 : decode cL_law 1200 = .ok (.aload_n 0, 1) := by decide +kernel
theorem dL_law_1201 : decode cL_law 1201 = .ok (.iload_n 3, 1) := by decide +kernel
theorem dL_law_1202 : decode cL_law 1202 = .ok (.iconst 2, 1) := by decide +kernel
theorem dL_law_1203 : decode cL_law 1203 = .ok (.iadd, 1) := by decide +kernel
theorem dL_law_1204 : decode cL_law 1204 = .ok (.iaload, 1) := by decide +kernel
theorem dL_law_1205 : decode cL_law 1205 = .ok (.aload_n 0, 1) := by decide +kernel
theorem dL_law_1206 : decode cL_law 1206 = .ok (.iload_n 3, 1) := by decide +kernel
theorem dL_law_1207 : decode cL_law 1207 = .ok (.iconst 3, 1) := by decide +kernel
theorem dL_law_1208 : decode cL_law 1208 = .ok (.iadd, 1) := by decide +kernel
theorem dL_law_1209 : decode cL_law 1209 = .ok (.iaload, 1) := by decide +kernel
theorem dL_law_1210 : decode cL_law 1210 = .ok (.aload_n 0, 1) := by decide +kernel
theorem dL_law_1211 : decode cL_law 1211 = .ok (.iload_n 3, 1) := by decide +kernel
theorem dL_law_1212 : decode cL_law 1212 = .ok (.iconst 4, 1) := by decide +kernel
theorem dL_law_1213 : decode cL_law 1213 = .ok (.iadd, 1) := by decide +kernel
theorem dL_law_1214 : decode cL_law 1214 = .ok (.iaload, 1) := by decide +kernel
theorem dL_law_1215 : decode cL_law 1215 = .ok (.invokevirtual 130, 3) := by decide +kernel
theorem mw_1244 : Cond.methodLink RL 130 yX12_cellAt_ ∈ wsL_law := List.mem_of_getElem? (i := 1244) (by decide +kernel)
theorem mw_1245 : Cond.instanceMethod yX12_cellAt_ ∈ wsL_law := List.mem_of_getElem? (i := 1245) (by decide +kernel)
theorem mw_1246 : Cond.selects RX12 yX12_cellAt_ yX12_cellAt_ ∈ wsL_law := List.mem_of_getElem? (i := 1246) (by decide +kernel)
theorem gV_L_130 : GoodIn wsL_law (wsV RL 130 RX12 yX12_cellAt_ (wl yX12_cellAt_ cX12_cellAt_ 5 (some .int))) := g_V mw_1244 mw_1245 mw_1246 mw_5 mw_1247
theorem hdV_X12_cellAt_ : yX12_cellAt_.cls = RX12 ∧ okD yX12_cellAt_ 4 := by decide +kernel
theorem dL_law_1218 : decode cL_law 1218 = .ok (.if_icmp .eq 404, 3) := by decide +kernel
theorem dL_law_1223 : decode cL_law 1223 = .ok (.aload_n 1, 1) := by decide +kernel
theorem dL_law_1224 : decode cL_law 1224 = .ok (.aload_n 0, 1) := by decide +kernel
theorem dL_law_1225 : decode cL_law 1225 = .ok (.iload_n 3, 1) := by decide +kernel
theorem dL_law_1226 : decode cL_law 1226 = .ok (.iconst 1, 1) := by decide +kernel
theorem dL_law_1227 : decode cL_law 1227 = .ok (.iadd, 1) := by decide +kernel
theorem dL_law_1228 : decode cL_law 1228 = .ok (.iaload, 1) := by decide +kernel
theorem dL_law_1229 : decode cL_law 1229 = .ok (.aload_n 0, 1) := by decide +kernel
theorem dL_law_1230 : decode cL_law 1230 = .ok (.iload_n 3, 1) := by decide +kernel
theorem dL_law_1231 : decode cL_law 1231 = .ok (.iconst 2, 1) := by decide +kernel
theorem dL_law_1232 : decode cL_law 1232 = .ok (.iadd, 1) := by decide +kernel
theorem dL_law_1233 : decode cL_law 1233 = .ok (.iaload, 1) := by decide +kernel
theorem dL_law_1234 : decode cL_law 1234 = .ok (.aload_n 0, 1) := by decide +kernel
theorem dL_law_1235 : decode cL_law 1235 = .ok (.iload_n 3, 1) := by decide +kernel
theorem dL_law_1236 : decode cL_law 1236 = .ok (.iconst 3, 1) := by decide +kernel
theorem dL_law_1237 : decode cL_law 1237 = .ok (.iadd, 1) := by decide +kernel
theorem dL_law_1238 : decode cL_law 1238 = .ok (.iaload, 1) := by decide +kernel
theorem dL_law_1239 : decode cL_law 1239 = .ok (.invokevirtual 131, 3) := by decide +kernel
theorem mw_1248 : Cond.methodLink RL 131 yX11_value ∈ wsL_law := List.mem_of_getElem? (i := 1248) (by decide +kernel)
theorem mw_1249 : Cond.instanceMethod yX11_value ∈ wsL_law := List.mem_of_getElem? (i := 1249) (by decide +kernel)
theorem mw_1250 : Cond.selects RX11 yX11_value yX11_value ∈ wsL_law := List.mem_of_getElem? (i := 1250) (by decide +kernel)
theorem gV_L_131 : GoodIn wsL_law (wsV RL 131 RX11 yX11_value (wl yX11_value cX11_value 6 (some .long))) := g_V mw_1248 mw_1249 mw_1250 mw_2 mw_1251
theorem hdV_X11_value : yX11_value.cls = RX11 ∧ okD yX11_value 3 := by decide +kernel
theorem dL_law_1242 : decode cL_law 1242 = .ok (.aload_n 2, 1) := by decide +kernel
theorem dL_law_1243 : decode cL_law 1243 = .ok (.aload_n 0, 1) := by decide +kernel
theorem dL_law_1244 : decode cL_law 1244 = .ok (.iload_n 3, 1) := by decide +kernel
theorem dL_law_1245 : decode cL_law 1245 = .ok (.iconst 1, 1) := by decide +kernel
theorem dL_law_1246 : decode cL_law 1246 = .ok (.iadd, 1) := by decide +kernel
theorem dL_law_1247 : decode cL_law 1247 = .ok (.iaload, 1) := by decide +kernel
theorem dL_law_1248 : decode cL_law 1248 = .ok (.aload_n 0, 1) := by decide +kernel
theorem dL_law_1249 : decode cL_law 1249 = .ok (.iload_n 3, 1) := by decide +kernel
theorem dL_law_1250 : decode cL_law 1250 = .ok (.iconst 2, 1) := by decide +kernel
theorem dL_law_1251 : decode cL_law 1251 = .ok (.iadd, 1) := by decide +kernel
theorem dL_law_1252 : decode cL_law 1252 = .ok (.iaload, 1) := by decide +kernel
theorem dL_law_1253 : decode cL_law 1253 = .ok (.aload_n 0, 1) := by decide +kernel
theorem dL_law_1254 : decode cL_law 1254 = .ok (.iload_n 3, 1) := by decide +kernel
theorem dL_law_1255 : decode cL_law 1255 = .ok (.iconst 3, 1) := by decide +kernel
theorem dL_law_1256 : decode cL_law 1256 = .ok (.iadd, 1) := by decide +kernel
theorem dL_law_1257 : decode cL_law 1257 = .ok (.iaload, 1) := by decide +kernel
theorem dL_law_1258 : decode cL_law 1258 = .ok (.invokevirtual 135, 3) := by decide +kernel
theorem mw_1255 : Cond.methodLink RL 135 yX12_value ∈ wsL_law := List.mem_of_getElem? (i := 1255) (by decide +kernel)
theorem mw_1256 : Cond.instanceMethod yX12_value ∈ wsL_law := List.mem_of_getElem? (i := 1256) (by decide +kernel)
theorem mw_1257 : Cond.selects RX12 yX12_value yX12_value ∈ wsL_law := List.mem_of_getElem? (i := 1257) (by decide +kernel)
theorem gV_L_135 : GoodIn wsL_law (wsV RL 135 RX12 yX12_value (wl yX12_value cX12_value 4 (some .long))) := g_V mw_1255 mw_1256 mw_1257 mw_5 mw_1258
theorem hdV_X12_value : yX12_value.cls = RX12 ∧ okD yX12_value 3 := by decide +kernel
theorem dL_law_1261 : decode cL_law 1261 = .ok (.lcmp, 1) := by decide +kernel
theorem dL_law_1262 : decode cL_law 1262 = .ok (.ifCond .eq 360, 3) := by decide +kernel
theorem dL_law_1267 : decode cL_law 1267 = .ok (.aload_n 1, 1) := by decide +kernel
theorem dL_law_1268 : decode cL_law 1268 = .ok (.aload_n 0, 1) := by decide +kernel
theorem dL_law_1269 : decode cL_law 1269 = .ok (.iload_n 3, 1) := by decide +kernel
theorem dL_law_1270 : decode cL_law 1270 = .ok (.iconst 1, 1) := by decide +kernel
theorem dL_law_1271 : decode cL_law 1271 = .ok (.iadd, 1) := by decide +kernel
theorem dL_law_1272 : decode cL_law 1272 = .ok (.iaload, 1) := by decide +kernel
theorem dL_law_1273 : decode cL_law 1273 = .ok (.aload_n 0, 1) := by decide +kernel
theorem dL_law_1274 : decode cL_law 1274 = .ok (.iload_n 3, 1) := by decide +kernel
theorem dL_law_1275 : decode cL_law 1275 = .ok (.iconst 2, 1) := by decide +kernel
theorem dL_law_1276 : decode cL_law 1276 = .ok (.iadd, 1) := by decide +kernel
theorem dL_law_1277 : decode cL_law 1277 = .ok (.iaload, 1) := by decide +kernel
theorem dL_law_1278 : decode cL_law 1278 = .ok (.aload_n 0, 1) := by decide +kernel
theorem dL_law_1279 : decode cL_law 1279 = .ok (.iload_n 3, 1) := by decide +kernel
theorem dL_law_1280 : decode cL_law 1280 = .ok (.iconst 3, 1) := by decide +kernel
theorem dL_law_1281 : decode cL_law 1281 = .ok (.iadd, 1) := by decide +kernel
theorem dL_law_1282 : decode cL_law 1282 = .ok (.iaload, 1) := by decide +kernel
theorem dL_law_1283 : decode cL_law 1283 = .ok (.aload_n 0, 1) := by decide +kernel
theorem dL_law_1284 : decode cL_law 1284 = .ok (.iload_n 3, 1) := by decide +kernel
theorem dL_law_1285 : decode cL_law 1285 = .ok (.iconst 4, 1) := by decide +kernel
theorem dL_law_1286 : decode cL_law 1286 = .ok (.iadd, 1) := by decide +kernel
theorem dL_law_1287 : decode cL_law 1287 = .ok (.iaload, 1) := by decide +kernel
theorem dL_law_1288 : decode cL_law 1288 = .ok (.invokevirtual 136, 3) := by decide +kernel
theorem mw_1260 : Cond.methodLink RL 136 yX11_compare ∈ wsL_law := List.mem_of_getElem? (i := 1260) (by decide +kernel)
theorem mw_1261 : Cond.instanceMethod yX11_compare ∈ wsL_law := List.mem_of_getElem? (i := 1261) (by decide +kernel)
theorem mw_1262 : Cond.selects RX11 yX11_compare yX11_compare ∈ wsL_law := List.mem_of_getElem? (i := 1262) (by decide +kernel)
theorem gV_L_136 : GoodIn wsL_law (wsV RL 136 RX11 yX11_compare (wl yX11_compare cX11_compare 7 (some .int))) := g_V mw_1260 mw_1261 mw_1262 mw_2 mw_1263
theorem hdV_X11_compare : yX11_compare.cls = RX11 ∧ okD yX11_compare 4 := by decide +kernel
theorem dL_law_1291 : decode cL_law 1291 = .ok (.aload_n 2, 1) := by decide +kernel
theorem dL_law_1292 : decode cL_law 1292 = .ok (.aload_n 0, 1) := by decide +kernel
theorem dL_law_1293 : decode cL_law 1293 = .ok (.iload_n 3, 1) := by decide +kernel
theorem dL_law_1294 : decode cL_law 1294 = .ok (.iconst 1, 1) := by decide +kernel
theorem dL_law_1295 : decode cL_law 1295 = .ok (.iadd, 1) := by decide +kernel
theorem dL_law_1296 : decode cL_law 1296 = .ok (.iaload, 1) := by decide +kernel
theorem dL_law_1297 : decode cL_law 1297 = .ok (.aload_n 0, 1) := by decide +kernel
theorem dL_law_1298 : decode cL_law 1298 = .ok (.iload_n 3, 1) := by decide +kernel
theorem dL_law_1299 : decode cL_law 1299 = .ok (.iconst 2, 1) := by decide +kernel
theorem dL_law_1300 : decode cL_law 1300 = .ok (.iadd, 1) := by decide +kernel
theorem dL_law_1301 : decode cL_law 1301 = .ok (.iaload, 1) := by decide +kernel
theorem dL_law_1302 : decode cL_law 1302 = .ok (.aload_n 0, 1) := by decide +kernel
theorem dL_law_1303 : decode cL_law 1303 = .ok (.iload_n 3, 1) := by decide +kernel
theorem dL_law_1304 : decode cL_law 1304 = .ok (.iconst 3, 1) := by decide +kernel
theorem dL_law_1305 : decode cL_law 1305 = .ok (.iadd, 1) := by decide +kernel
theorem dL_law_1306 : decode cL_law 1306 = .ok (.iaload, 1) := by decide +kernel
theorem dL_law_1307 : decode cL_law 1307 = .ok (.aload_n 0, 1) := by decide +kernel
theorem dL_law_1308 : decode cL_law 1308 = .ok (.iload_n 3, 1) := by decide +kernel
theorem dL_law_1309 : decode cL_law 1309 = .ok (.iconst 4, 1) := by decide +kernel
theorem dL_law_1310 : decode cL_law 1310 = .ok (.iadd, 1) := by decide +kernel
theorem dL_law_1311 : decode cL_law 1311 = .ok (.iaload, 1) := by decide +kernel
theorem dL_law_1312 : decode cL_law 1312 = .ok (.invokevirtual 139, 3) := by decide +kernel
theorem mw_1265 : Cond.methodLink RL 139 yX12_compare ∈ wsL_law := List.mem_of_getElem? (i := 1265) (by decide +kernel)
theorem mw_1266 : Cond.instanceMethod yX12_compare ∈ wsL_law := List.mem_of_getElem? (i := 1266) (by decide +kernel)
theorem mw_1267 : Cond.selects RX12 yX12_compare yX12_compare ∈ wsL_law := List.mem_of_getElem? (i := 1267) (by decide +kernel)
theorem gV_L_139 : GoodIn wsL_law (wsV RL 139 RX12 yX12_compare (wl yX12_compare cX12_compare 5 (some .int))) := g_V mw_1265 mw_1266 mw_1267 mw_5 mw_1268
theorem hdV_X12_compare : yX12_compare.cls = RX12 ∧ okD yX12_compare 4 := by decide +kernel
theorem dL_law_1315 : decode cL_law 1315 = .ok (.if_icmp .eq 307, 3) := by decide +kernel
theorem dL_law_1320 : decode cL_law 1320 = .ok (.aload_n 1, 1) := by decide +kernel
theorem dL_law_1321 : decode cL_law 1321 = .ok (.aload_n 0, 1) := by decide +kernel
theorem dL_law_1322 : decode cL_law 1322 = .ok (.iload_n 3, 1) := by decide +kernel
theorem dL_law_1323 : decode cL_law 1323 = .ok (.iconst 1, 1) := by decide +kernel
theorem dL_law_1324 : decode cL_law 1324 = .ok (.iadd, 1) := by decide +kernel
theorem dL_law_1325 : decode cL_law 1325 = .ok (.iaload, 1) := by decide +kernel
theorem dL_law_1326 : decode cL_law 1326 = .ok (.aload_n 0, 1) := by decide +kernel
theorem dL_law_1327 : decode cL_law 1327 = .ok (.iload_n 3, 1) := by decide +kernel
theorem dL_law_1328 : decode cL_law 1328 = .ok (.iconst 2, 1) := by decide +kernel
theorem dL_law_1329 : decode cL_law 1329 = .ok (.iadd, 1) := by decide +kernel
theorem dL_law_1330 : decode cL_law 1330 = .ok (.iaload, 1) := by decide +kernel
theorem dL_law_1331 : decode cL_law 1331 = .ok (.aload_n 0, 1) := by decide +kernel
theorem dL_law_1332 : decode cL_law 1332 = .ok (.iload_n 3, 1) := by decide +kernel
theorem dL_law_1333 : decode cL_law 1333 = .ok (.iconst 3, 1) := by decide +kernel
theorem dL_law_1334 : decode cL_law 1334 = .ok (.iadd, 1) := by decide +kernel
theorem dL_law_1335 : decode cL_law 1335 = .ok (.iaload, 1) := by decide +kernel
theorem dL_law_1336 : decode cL_law 1336 = .ok (.invokevirtual 140, 3) := by decide +kernel
theorem mw_1269 : Cond.methodLink RL 140 yX11_over ∈ wsL_law := List.mem_of_getElem? (i := 1269) (by decide +kernel)
theorem mw_1270 : Cond.instanceMethod yX11_over ∈ wsL_law := List.mem_of_getElem? (i := 1270) (by decide +kernel)
theorem mw_1271 : Cond.selects RX11 yX11_over yX11_over ∈ wsL_law := List.mem_of_getElem? (i := 1271) (by decide +kernel)
theorem gV_L_140 : GoodIn wsL_law (wsV RL 140 RX11 yX11_over (wl yX11_over cX11_over 6 (some .long))) := g_V mw_1269 mw_1270 mw_1271 mw_2 mw_1272
theorem hdV_X11_over : yX11_over.cls = RX11 ∧ okD yX11_over 3 := by decide +kernel
theorem dL_law_1339 : decode cL_law 1339 = .ok (.aload_n 2, 1) := by decide +kernel
theorem dL_law_1340 : decode cL_law 1340 = .ok (.aload_n 0, 1) := by decide +kernel
theorem dL_law_1341 : decode cL_law 1341 = .ok (.iload_n 3, 1) := by decide +kernel
theorem dL_law_1342 : decode cL_law 1342 = .ok (.iconst 1, 1) := by decide +kernel
theorem dL_law_1343 : decode cL_law 1343 = .ok (.iadd, 1) := by decide +kernel
theorem dL_law_1344 : decode cL_law 1344 = .ok (.iaload, 1) := by decide +kernel
theorem dL_law_1345 : decode cL_law 1345 = .ok (.aload_n 0, 1) := by decide +kernel
theorem dL_law_1346 : decode cL_law 1346 = .ok (.iload_n 3, 1) := by decide +kernel
theorem dL_law_1347 : decode cL_law 1347 = .ok (.iconst 2, 1) := by decide +kernel
theorem dL_law_1348 : decode cL_law 1348 = .ok (.iadd, 1) := by decide +kernel
theorem dL_law_1349 : decode cL_law 1349 = .ok (.iaload, 1) := by decide +kernel
theorem dL_law_1350 : decode cL_law 1350 = .ok (.aload_n 0, 1) := by decide +kernel
theorem dL_law_1351 : decode cL_law 1351 = .ok (.iload_n 3, 1) := by decide +kernel
theorem dL_law_1352 : decode cL_law 1352 = .ok (.iconst 3, 1) := by decide +kernel
theorem dL_law_1353 : decode cL_law 1353 = .ok (.iadd, 1) := by decide +kernel
theorem dL_law_1354 : decode cL_law 1354 = .ok (.iaload, 1) := by decide +kernel
theorem dL_law_1355 : decode cL_law 1355 = .ok (.invokevirtual 143, 3) := by decide +kernel
theorem mw_1312 : Cond.methodLink RL 143 yX12_over ∈ wsL_law := List.mem_of_getElem? (i := 1312) (by decide +kernel)
theorem mw_1313 : Cond.instanceMethod yX12_over ∈ wsL_law := List.mem_of_getElem? (i := 1313) (by decide +kernel)
theorem mw_1314 : Cond.selects RX12 yX12_over yX12_over ∈ wsL_law := List.mem_of_getElem? (i := 1314) (by decide +kernel)
theorem gV_L_143 : GoodIn wsL_law (wsV RL 143 RX12 yX12_over (wl yX12_over cX12_over 4 (some .long))) := g_V mw_1312 mw_1313 mw_1314 mw_5 mw_1315
theorem hdV_X12_over : yX12_over.cls = RX12 ∧ okD yX12_over 3 := by decide +kernel
theorem dL_law_1358 : decode cL_law 1358 = .ok (.lcmp, 1) := by decide +kernel
theorem dL_law_1359 : decode cL_law 1359 = .ok (.ifCond .eq 263, 3) := by decide +kernel
theorem dL_law_1364 : decode cL_law 1364 = .ok (.aload_n 1, 1) := by decide +kernel
theorem dL_law_1365 : decode cL_law 1365 = .ok (.aload_n 0, 1) := by decide +kernel
theorem dL_law_1366 : decode cL_law 1366 = .ok (.iload_n 3, 1) := by decide +kernel
theorem dL_law_1367 : decode cL_law 1367 = .ok (.iconst 1, 1) := by decide +kernel
theorem dL_law_1368 : decode cL_law 1368 = .ok (.iadd, 1) := by decide +kernel
theorem dL_law_1369 : decode cL_law 1369 = .ok (.iaload, 1) := by decide +kernel
theorem dL_law_1370 : decode cL_law 1370 = .ok (.aload_n 0, 1) := by decide +kernel
theorem dL_law_1371 : decode cL_law 1371 = .ok (.iload_n 3, 1) := by decide +kernel
theorem dL_law_1372 : decode cL_law 1372 = .ok (.iconst 2, 1) := by decide +kernel
theorem dL_law_1373 : decode cL_law 1373 = .ok (.iadd, 1) := by decide +kernel
theorem dL_law_1374 : decode cL_law 1374 = .ok (.iaload, 1) := by decide +kernel
theorem dL_law_1375 : decode cL_law 1375 = .ok (.aload_n 0, 1) := by decide +kernel
theorem dL_law_1376 : decode cL_law 1376 = .ok (.iload_n 3, 1) := by decide +kernel
theorem dL_law_1377 : decode cL_law 1377 = .ok (.iconst 3, 1) := by decide +kernel
theorem dL_law_1378 : decode cL_law 1378 = .ok (.iadd, 1) := by decide +kernel
theorem dL_law_1379 : decode cL_law 1379 = .ok (.iaload, 1) := by decide +kernel
theorem dL_law_1380 : decode cL_law 1380 = .ok (.aload_n 0, 1) := by decide +kernel
theorem dL_law_1381 : decode cL_law 1381 = .ok (.iload_n 3, 1) := by decide +kernel
theorem dL_law_1382 : decode cL_law 1382 = .ok (.iconst 4, 1) := by decide +kernel
theorem dL_law_1383 : decode cL_law 1383 = .ok (.iadd, 1) := by decide +kernel
theorem dL_law_1384 : decode cL_law 1384 = .ok (.iaload, 1) := by decide +kernel
theorem dL_law_1385 : decode cL_law 1385 = .ok (.aload_n 0, 1) := by decide +kernel
theorem dL_law_1386 : decode cL_law 1386 = .ok (.iload_n 3, 1) := by decide +kernel
theorem dL_law_1387 : decode cL_law 1387 = .ok (.iconst 5, 1) := by decide +kernel
theorem dL_law_1388 : decode cL_law 1388 = .ok (.iadd, 1) := by decide +kernel
theorem dL_law_1389 : decode cL_law 1389 = .ok (.iaload, 1) := by decide +kernel
theorem dL_law_1390 : decode cL_law 1390 = .ok (.invokevirtual 144, 3) := by decide +kernel
theorem mw_1349 : Cond.methodLink RL 144 yX11_group ∈ wsL_law := List.mem_of_getElem? (i := 1349) (by decide +kernel)
theorem mw_1350 : Cond.instanceMethod yX11_group ∈ wsL_law := List.mem_of_getElem? (i := 1350) (by decide +kernel)
theorem mw_1351 : Cond.selects RX11 yX11_group yX11_group ∈ wsL_law := List.mem_of_getElem? (i := 1351) (by decide +kernel)
theorem gV_L_144 : GoodIn wsL_law (wsV RL 144 RX11 yX11_group (wl yX11_group cX11_group 8 (some .long))) := g_V mw_1349 mw_1350 mw_1351 mw_2 mw_1352
theorem hdV_X11_group : yX11_group.cls = RX11 ∧ okD yX11_group 5 := by decide +kernel
theorem dL_law_1393 : decode cL_law 1393 = .ok (.aload_n 2, 1) := by decide +kernel
theorem dL_law_1394 : decode cL_law 1394 = .ok (.aload_n 0, 1) := by decide +kernel
theorem dL_law_1395 : decode cL_law 1395 = .ok (.iload_n 3, 1) := by decide +kernel
theorem dL_law_1396 : decode cL_law 1396 = .ok (.iconst 1, 1) := by decide +kernel
theorem dL_law_1397 : decode cL_law 1397 = .ok (.iadd, 1) := by decide +kernel
theorem dL_law_1398 : decode cL_law 1398 = .ok (.iaload, 1) := by decide +kernel
theorem dL_law_1399 : decode cL_law 1399 = .ok (.aload_n 0, 1) := by decide +kernel
theorem dL_law_1400 : decode cL_law 1400 = .ok (.iload_n 3, 1) := by decide +kernel
theorem dL_law_1401 : decode cL_law 1401 = .ok (.iconst 2, 1) := by decide +kernel
theorem dL_law_1402 : decode cL_law 1402 = .ok (.iadd, 1) := by decide +kernel
theorem dL_law_1403 : decode cL_law 1403 = .ok (.iaload, 1) := by decide +kernel
theorem dL_law_1404 : decode cL_law 1404 = .ok (.aload_n 0, 1) := by decide +kernel
theorem dL_law_1405 : decode cL_law 1405 = .ok (.iload_n 3, 1) := by decide +kernel
theorem dL_law_1406 : decode cL_law 1406 = .ok (.iconst 3, 1) := by decide +kernel
theorem dL_law_1407 : decode cL_law 1407 = .ok (.iadd, 1) := by decide +kernel
theorem dL_law_1408 : decode cL_law 1408 = .ok (.iaload, 1) := by decide +kernel
theorem dL_law_1409 : decode cL_law 1409 = .ok (.aload_n 0, 1) := by decide +kernel
theorem dL_law_1410 : decode cL_law 1410 = .ok (.iload_n 3, 1) := by decide +kernel
theorem dL_law_1411 : decode cL_law 1411 = .ok (.iconst 4, 1) := by decide +kernel
theorem dL_law_1412 : decode cL_law 1412 = .ok (.iadd, 1) := by decide +kernel
theorem dL_law_1413 : decode cL_law 1413 = .ok (.iaload, 1) := by decide +kernel
theorem dL_law_1414 : decode cL_law 1414 = .ok (.aload_n 0, 1) := by decide +kernel
theorem dL_law_1415 : decode cL_law 1415 = .ok (.iload_n 3, 1) := by decide +kernel
theorem dL_law_1416 : decode cL_law 1416 = .ok (.iconst 5, 1) := by decide +kernel
theorem dL_law_1417 : decode cL_law 1417 = .ok (.iadd, 1) := by decide +kernel
theorem dL_law_1418 : decode cL_law 1418 = .ok (.iaload, 1) := by decide +kernel
theorem dL_law_1419 : decode cL_law 1419 = .ok (.invokevirtual 148, 3) := by decide +kernel
theorem mw_1363 : Cond.methodLink RL 148 yX12_group ∈ wsL_law := List.mem_of_getElem? (i := 1363) (by decide +kernel)
theorem mw_1364 : Cond.instanceMethod yX12_group ∈ wsL_law := List.mem_of_getElem? (i := 1364) (by decide +kernel)
theorem mw_1365 : Cond.selects RX12 yX12_group yX12_group ∈ wsL_law := List.mem_of_getElem? (i := 1365) (by decide +kernel)
theorem gV_L_148 : GoodIn wsL_law (wsV RL 148 RX12 yX12_group (wl yX12_group cX12_group 11 (some .long))) := g_V mw_1363 mw_1364 mw_1365 mw_5 mw_1366
theorem hdV_X12_group : yX12_group.cls = RX12 ∧ okD yX12_group 5 := by decide +kernel
theorem dL_law_1422 : decode cL_law 1422 = .ok (.lcmp, 1) := by decide +kernel
theorem dL_law_1423 : decode cL_law 1423 = .ok (.ifCond .eq 199, 3) := by decide +kernel
theorem dL_law_1428 : decode cL_law 1428 = .ok (.aload_n 1, 1) := by decide +kernel
theorem dL_law_1429 : decode cL_law 1429 = .ok (.aload_n 0, 1) := by decide +kernel
theorem dL_law_1430 : decode cL_law 1430 = .ok (.iload_n 3, 1) := by decide +kernel
theorem dL_law_1431 : decode cL_law 1431 = .ok (.iconst 1, 1) := by decide +kernel
theorem dL_law_1432 : decode cL_law 1432 = .ok (.iadd, 1) := by decide +kernel
theorem dL_law_1433 : decode cL_law 1433 = .ok (.iaload, 1) := by decide +kernel
theorem dL_law_1434 : decode cL_law 1434 = .ok (.aload_n 0, 1) := by decide +kernel
theorem dL_law_1435 : decode cL_law 1435 = .ok (.iload_n 3, 1) := by decide +kernel
theorem dL_law_1436 : decode cL_law 1436 = .ok (.iconst 2, 1) := by decide +kernel
theorem dL_law_1437 : decode cL_law 1437 = .ok (.iadd, 1) := by decide +kernel
theorem dL_law_1438 : decode cL_law 1438 = .ok (.iaload, 1) := by decide +kernel
theorem dL_law_1439 : decode cL_law 1439 = .ok (.aload_n 0, 1) := by decide +kernel
theorem dL_law_1440 : decode cL_law 1440 = .ok (.iload_n 3, 1) := by decide +kernel
theorem dL_law_1441 : decode cL_law 1441 = .ok (.iconst 3, 1) := by decide +kernel
theorem dL_law_1442 : decode cL_law 1442 = .ok (.iadd, 1) := by decide +kernel
theorem dL_law_1443 : decode cL_law 1443 = .ok (.iaload, 1) := by decide +kernel
theorem dL_law_1444 : decode cL_law 1444 = .ok (.aload_n 0, 1) := by decide +kernel
theorem dL_law_1445 : decode cL_law 1445 = .ok (.iload_n 3, 1) := by decide +kernel
theorem dL_law_1446 : decode cL_law 1446 = .ok (.iconst 4, 1) := by decide +kernel
theorem dL_law_1447 : decode cL_law 1447 = .ok (.iadd, 1) := by decide +kernel
theorem dL_law_1448 : decode cL_law 1448 = .ok (.iaload, 1) := by decide +kernel
theorem dL_law_1449 : decode cL_law 1449 = .ok (.invokevirtual 149, 3) := by decide +kernel
theorem mw_1367 : Cond.methodLink RL 149 yX11_matches ∈ wsL_law := List.mem_of_getElem? (i := 1367) (by decide +kernel)
theorem mw_1368 : Cond.instanceMethod yX11_matches ∈ wsL_law := List.mem_of_getElem? (i := 1368) (by decide +kernel)
theorem mw_1369 : Cond.selects RX11 yX11_matches yX11_matches ∈ wsL_law := List.mem_of_getElem? (i := 1369) (by decide +kernel)
theorem gV_L_149 : GoodIn wsL_law (wsV RL 149 RX11 yX11_matches (wl yX11_matches cX11_matches 8 (some .int))) := g_V mw_1367 mw_1368 mw_1369 mw_2 mw_1370
theorem hdV_X11_matches : yX11_matches.cls = RX11 ∧ okD yX11_matches 4 := by decide +kernel
theorem dL_law_1452 : decode cL_law 1452 = .ok (.aload_n 2, 1) := by decide +kernel
theorem dL_law_1453 : decode cL_law 1453 = .ok (.aload_n 0, 1) := by decide +kernel
theorem dL_law_1454 : decode cL_law 1454 = .ok (.iload_n 3, 1) := by decide +kernel
theorem dL_law_1455 : decode cL_law 1455 = .ok (.iconst 1, 1) := by decide +kernel
theorem dL_law_1456 : decode cL_law 1456 = .ok (.iadd, 1) := by decide +kernel
theorem dL_law_1457 : decode cL_law 1457 = .ok (.iaload, 1) := by decide +kernel
theorem dL_law_1458 : decode cL_law 1458 = .ok (.aload_n 0, 1) := by decide +kernel
theorem dL_law_1459 : decode cL_law 1459 = .ok (.iload_n 3, 1) := by decide +kernel
theorem dL_law_1460 : decode cL_law 1460 = .ok (.iconst 2, 1) := by decide +kernel
theorem dL_law_1461 : decode cL_law 1461 = .ok (.iadd, 1) := by decide +kernel
theorem dL_law_1462 : decode cL_law 1462 = .ok (.iaload, 1) := by decide +kernel
theorem dL_law_1463 : decode cL_law 1463 = .ok (.aload_n 0, 1) := by decide +kernel
theorem dL_law_1464 : decode cL_law 1464 = .ok (.iload_n 3, 1) := by decide +kernel
theorem dL_law_1465 : decode cL_law 1465 = .ok (.iconst 3, 1) := by decide +kernel
theorem dL_law_1466 : decode cL_law 1466 = .ok (.iadd, 1) := by decide +kernel
theorem dL_law_1467 : decode cL_law 1467 = .ok (.iaload, 1) := by decide +kernel
theorem dL_law_1468 : decode cL_law 1468 = .ok (.aload_n 0, 1) := by decide +kernel
theorem dL_law_1469 : decode cL_law 1469 = .ok (.iload_n 3, 1) := by decide +kernel
theorem dL_law_1470 : decode cL_law 1470 = .ok (.iconst 4, 1) := by decide +kernel
theorem dL_law_1471 : decode cL_law 1471 = .ok (.iadd, 1) := by decide +kernel
theorem dL_law_1472 : decode cL_law 1472 = .ok (.iaload, 1) := by decide +kernel
theorem dL_law_1473 : decode cL_law 1473 = .ok (.invokevirtual 152, 3) := by decide +kernel
theorem mw_1373 : Cond.methodLink RL 152 yX12_matches ∈ wsL_law := List.mem_of_getElem? (i := 1373) (by decide +kernel)
theorem mw_1374 : Cond.instanceMethod yX12_matches ∈ wsL_law := List.mem_of_getElem? (i := 1374) (by decide +kernel)
theorem mw_1375 : Cond.selects RX12 yX12_matches yX12_matches ∈ wsL_law := List.mem_of_getElem? (i := 1375) (by decide +kernel)
theorem gV_L_152 : GoodIn wsL_law (wsV RL 152 RX12 yX12_matches (wl yX12_matches cX12_matches 9 (some .int))) := g_V mw_1373 mw_1374 mw_1375 mw_5 mw_1376
theorem hdV_X12_matches : yX12_matches.cls = RX12 ∧ okD yX12_matches 4 := by decide +kernel
theorem dL_law_1476 : decode cL_law 1476 = .ok (.if_icmp .eq 146, 3) := by decide +kernel
theorem dL_law_1481 : decode cL_law 1481 = .ok (.aload_n 1, 1) := by decide +kernel
theorem dL_law_1482 : decode cL_law 1482 = .ok (.aload_n 0, 1) := by decide +kernel
theorem dL_law_1483 : decode cL_law 1483 = .ok (.iload_n 3, 1) := by decide +kernel
theorem dL_law_1484 : decode cL_law 1484 = .ok (.iconst 1, 1) := by decide +kernel
theorem dL_law_1485 : decode cL_law 1485 = .ok (.iadd, 1) := by decide +kernel
theorem dL_law_1486 : decode cL_law 1486 = .ok (.iaload, 1) := by decide +kernel
theorem dL_law_1487 : decode cL_law 1487 = .ok (.aload_n 0, 1) := by decide +kernel
theorem dL_law_1488 : decode cL_law 1488 = .ok (.iload_n 3, 1) := by decide +kernel
theorem dL_law_1489 : decode cL_law 1489 = .ok (.iconst 2, 1) := by decide +kernel
theorem dL_law_1490 : decode cL_law 1490 = .ok (.iadd, 1) := by decide +kernel
theorem dL_law_1491 : decode cL_law 1491 = .ok (.iaload, 1) := by decide +kernel
theorem dL_law_1492 : decode cL_law 1492 = .ok (.invokevirtual 153, 3) := by decide +kernel
theorem mw_1377 : Cond.methodLink RL 153 yX11_differ ∈ wsL_law := List.mem_of_getElem? (i := 1377) (by decide +kernel)
theorem mw_1378 : Cond.instanceMethod yX11_differ ∈ wsL_law := List.mem_of_getElem? (i := 1378) (by decide +kernel)
theorem mw_1379 : Cond.selects RX11 yX11_differ yX11_differ ∈ wsL_law := List.mem_of_getElem? (i := 1379) (by decide +kernel)
theorem gV_L_153 : GoodIn wsL_law (wsV RL 153 RX11 yX11_differ (wl yX11_differ cX11_differ 5 (some .int))) := g_V mw_1377 mw_1378 mw_1379 mw_2 mw_1380
theorem hdV_X11_differ : yX11_differ.cls = RX11 ∧ okD yX11_differ 2 := by decide +kernel
theorem dL_law_1495 : decode cL_law 1495 = .ok (.aload_n 2, 1) := by decide +kernel
theorem dL_law_1496 : decode cL_law 1496 = .ok (.aload_n 0, 1) := by decide +kernel
theorem dL_law_1497 : decode cL_law 1497 = .ok (.iload_n 3, 1) := by decide +kernel
theorem dL_law_1498 : decode cL_law 1498 = .ok (.iconst 1, 1) := by decide +kernel
theorem dL_law_1499 : decode cL_law 1499 = .ok (.iadd, 1) := by decide +kernel
theorem dL_law_1500 : decode cL_law 1500 = .ok (.iaload, 1) := by decide +kernel
theorem dL_law_1501 : decode cL_law 1501 = .ok (.aload_n 0, 1) := by decide +kernel
theorem dL_law_1502 : decode cL_law 1502 = .ok (.iload_n 3, 1) := by decide +kernel
theorem dL_law_1503 : decode cL_law 1503 = .ok (.iconst 2, 1) := by decide +kernel
theorem dL_law_1504 : decode cL_law 1504 = .ok (.iadd, 1) := by decide +kernel
theorem dL_law_1505 : decode cL_law 1505 = .ok (.iaload, 1) := by decide +kernel
theorem dL_law_1506 : decode cL_law 1506 = .ok (.invokevirtual 156, 3) := by decide +kernel
theorem mw_1397 : Cond.methodLink RL 156 yX12_differ ∈ wsL_law := List.mem_of_getElem? (i := 1397) (by decide +kernel)
theorem mw_1398 : Cond.instanceMethod yX12_differ ∈ wsL_law := List.mem_of_getElem? (i := 1398) (by decide +kernel)
theorem mw_1399 : Cond.selects RX12 yX12_differ yX12_differ ∈ wsL_law := List.mem_of_getElem? (i := 1399) (by decide +kernel)
theorem gV_L_156 : GoodIn wsL_law (wsV RL 156 RX12 yX12_differ (wl yX12_differ cX12_differ 8 (some .int))) := g_V mw_1397 mw_1398 mw_1399 mw_5 mw_1400
theorem hdV_X12_differ : yX12_differ.cls = RX12 ∧ okD yX12_differ 2 := by decide +kernel
theorem dL_law_1509 : decode cL_law 1509 = .ok (.if_icmp .eq 113, 3) := by decide +kernel
theorem dL_law_1514 : decode cL_law 1514 = .ok (.aload_n 1, 1) := by decide +kernel
theorem dL_law_1515 : decode cL_law 1515 = .ok (.aload_n 0, 1) := by decide +kernel
theorem dL_law_1516 : decode cL_law 1516 = .ok (.iload_n 3, 1) := by decide +kernel
theorem dL_law_1517 : decode cL_law 1517 = .ok (.iconst 1, 1) := by decide +kernel
theorem dL_law_1518 : decode cL_law 1518 = .ok (.iadd, 1) := by decide +kernel
theorem dL_law_1519 : decode cL_law 1519 = .ok (.iaload, 1) := by decide +kernel
theorem dL_law_1520 : decode cL_law 1520 = .ok (.invokevirtual 157, 3) := by decide +kernel
theorem mw_1401 : Cond.methodLink RL 157 yX11_write ∈ wsL_law := List.mem_of_getElem? (i := 1401) (by decide +kernel)
theorem mw_1402 : Cond.instanceMethod yX11_write ∈ wsL_law := List.mem_of_getElem? (i := 1402) (by decide +kernel)
theorem mw_1403 : Cond.selects RX11 yX11_write yX11_write ∈ wsL_law := List.mem_of_getElem? (i := 1403) (by decide +kernel)
theorem gV_L_157 : GoodIn wsL_law (wsV RL 157 RX11 yX11_write (wl yX11_write cX11_write 4 (some .int))) := g_V mw_1401 mw_1402 mw_1403 mw_2 mw_1404
theorem hdV_X11_write : yX11_write.cls = RX11 ∧ okD yX11_write 1 := by decide +kernel
theorem dL_law_1523 : decode cL_law 1523 = .ok (.aload_n 2, 1) := by decide +kernel
theorem dL_law_1524 : decode cL_law 1524 = .ok (.aload_n 0, 1) := by decide +kernel
theorem dL_law_1525 : decode cL_law 1525 = .ok (.iload_n 3, 1) := by decide +kernel
theorem dL_law_1526 : decode cL_law 1526 = .ok (.iconst 1, 1) := by decide +kernel
theorem dL_law_1527 : decode cL_law 1527 = .ok (.iadd, 1) := by decide +kernel
theorem dL_law_1528 : decode cL_law 1528 = .ok (.iaload, 1) := by decide +kernel
theorem dL_law_1529 : decode cL_law 1529 = .ok (.invokevirtual 160, 3) := by decide +kernel
theorem mw_1442 : Cond.methodLink RL 160 yX12_write ∈ wsL_law := List.mem_of_getElem? (i := 1442) (by decide +kernel)
theorem mw_1443 : Cond.instanceMethod yX12_write ∈ wsL_law := List.mem_of_getElem? (i := 1443) (by decide +kernel)
theorem mw_1444 : Cond.selects RX12 yX12_write yX12_write ∈ wsL_law := List.mem_of_getElem? (i := 1444) (by decide +kernel)
theorem gV_L_160 : GoodIn wsL_law (wsV RL 160 RX12 yX12_write (wl yX12_write cX12_write 5 (some .int))) := g_V mw_1442 mw_1443 mw_1444 mw_5 mw_1445
theorem hdV_X12_write : yX12_write.cls = RX12 ∧ okD yX12_write 1 := by decide +kernel
theorem dL_law_1532 : decode cL_law 1532 = .ok (.if_icmp .eq 90, 3) := by decide +kernel
theorem dL_law_1537 : decode cL_law 1537 = .ok (.aload_n 1, 1) := by decide +kernel
theorem dL_law_1538 : decode cL_law 1538 = .ok (.aload_n 0, 1) := by decide +kernel
theorem dL_law_1539 : decode cL_law 1539 = .ok (.iload_n 3, 1) := by decide +kernel
theorem dL_law_1540 : decode cL_law 1540 = .ok (.iconst 1, 1) := by decide +kernel
theorem dL_law_1541 : decode cL_law 1541 = .ok (.iadd, 1) := by decide +kernel
theorem dL_law_1542 : decode cL_law 1542 = .ok (.iaload, 1) := by decide +kernel
theorem dL_law_1543 : decode cL_law 1543 = .ok (.invokevirtual 161, 3) := by decide +kernel
theorem mw_1461 : Cond.methodLink RL 161 yX11_sign ∈ wsL_law := List.mem_of_getElem? (i := 1461) (by decide +kernel)
theorem mw_1462 : Cond.instanceMethod yX11_sign ∈ wsL_law := List.mem_of_getElem? (i := 1462) (by decide +kernel)
theorem mw_1463 : Cond.selects RX11 yX11_sign yX11_sign ∈ wsL_law := List.mem_of_getElem? (i := 1463) (by decide +kernel)
theorem gV_L_161 : GoodIn wsL_law (wsV RL 161 RX11 yX11_sign (wl yX11_sign cX11_sign 2 (some .int))) := g_V mw_1461 mw_1462 mw_1463 mw_2 mw_1464
theorem hdV_X11_sign : yX11_sign.cls = RX11 ∧ okD yX11_sign 1 := by decide +kernel
theorem dL_law_1546 : decode cL_law 1546 = .ok (.aload_n 2, 1) := by decide +kernel
theorem dL_law_1547 : decode cL_law 1547 = .ok (.aload_n 0, 1) := by decide +kernel
theorem dL_law_1548 : decode cL_law 1548 = .ok (.iload_n 3, 1) := by decide +kernel
theorem dL_law_1549 : decode cL_law 1549 = .ok (.iconst 1, 1) := by decide +kernel
theorem dL_law_1550 : decode cL_law 1550 = .ok (.iadd, 1) := by decide +kernel
theorem dL_law_1551 : decode cL_law 1551 = .ok (.iaload, 1) := by decide +kernel
theorem dL_law_1552 : decode cL_law 1552 = .ok (.invokevirtual 164, 3) := by decide +kernel
theorem mw_1466 : Cond.methodLink RL 164 yX12_sign ∈ wsL_law := List.mem_of_getElem? (i := 1466) (by decide +kernel)
theorem mw_1467 : Cond.instanceMethod yX12_sign ∈ wsL_law := List.mem_of_getElem? (i := 1467) (by decide +kernel)
theorem mw_1468 : Cond.selects RX12 yX12_sign yX12_sign ∈ wsL_law := List.mem_of_getElem? (i := 1468) (by decide +kernel)
theorem gV_L_164 : GoodIn wsL_law (wsV RL 164 RX12 yX12_sign (wl yX12_sign cX12_sign 2 (some .int))) := g_V mw_1466 mw_1467 mw_1468 mw_5 mw_1469
theorem hdV_X12_sign : yX12_sign.cls = RX12 ∧ okD yX12_sign 1 := by decide +kernel
theorem dL_law_1555 : decode cL_law 1555 = .ok (.if_icmp .eq 67, 3) := by decide +kernel
theorem dL_law_1560 : decode cL_law 1560 = .ok (.aload_n 1, 1) := by decide +kernel
theorem dL_law_1561 : decode cL_law 1561 = .ok (.aload_n 0, 1) := by decide +kernel
theorem dL_law_1562 : decode cL_law 1562 = .ok (.iload_n 3, 1) := by decide +kernel
theorem dL_law_1563 : decode cL_law 1563 = .ok (.iconst 1, 1) := by decide +kernel
theorem dL_law_1564 : decode cL_law 1564 = .ok (.iadd, 1) := by decide +kernel
theorem dL_law_1565 : decode cL_law 1565 = .ok (.iaload, 1) := by decide +kernel
theorem dL_law_1566 : decode cL_law 1566 = .ok (.ifCond .eq 7, 3) := by decide +kernel
theorem dL_law_1573 : decode cL_law 1573 = .ok (.iconst 0, 1) := by decide +kernel
theorem dL_law_1574 : decode cL_law 1574 = .ok (.invokevirtual 165, 3) := by decide +kernel
theorem mw_1470 : Cond.methodLink RL 165 yX11_image ∈ wsL_law := List.mem_of_getElem? (i := 1470) (by decide +kernel)
theorem mw_1471 : Cond.instanceMethod yX11_image ∈ wsL_law := List.mem_of_getElem? (i := 1471) (by decide +kernel)
theorem mw_1472 : Cond.selects RX11 yX11_image yX11_image ∈ wsL_law := List.mem_of_getElem? (i := 1472) (by decide +kernel)
theorem gV_L_165 : GoodIn wsL_law (wsV RL 165 RX11 yX11_image (wl yX11_image cX11_image 2 (some .boolean))) := g_V mw_1470 mw_1471 mw_1472 mw_2 mw_1473
theorem hdV_X11_image : yX11_image.cls = RX11 ∧ okD yX11_image 1 := by decide +kernel
theorem dL_law_1577 : decode cL_law 1577 = .ok (.aload_n 2, 1) := by decide +kernel
theorem dL_law_1578 : decode cL_law 1578 = .ok (.aload_n 0, 1) := by decide +kernel
theorem dL_law_1579 : decode cL_law 1579 = .ok (.iload_n 3, 1) := by decide +kernel
theorem dL_law_1580 : decode cL_law 1580 = .ok (.iconst 1, 1) := by decide +kernel
theorem dL_law_1581 : decode cL_law 1581 = .ok (.iadd, 1) := by decide +kernel
theorem dL_law_1582 : decode cL_law 1582 = .ok (.iaload, 1) := by decide +kernel
theorem dL_law_1583 : decode cL_law 1583 = .ok (.ifCond .eq 7, 3) := by decide +kernel
theorem dL_law_1590 : decode cL_law 1590 = .ok (.iconst 0, 1) := by decide +kernel
theorem dL_law_1591 : decode cL_law 1591 = .ok (.invokevirtual 169, 3) := by decide +kernel
theorem mw_1479 : Cond.methodLink RL 169 yX12_image ∈ wsL_law := List.mem_of_getElem? (i := 1479) (by decide +kernel)
theorem mw_1480 : Cond.instanceMethod yX12_image ∈ wsL_law := List.mem_of_getElem? (i := 1480) (by decide +kernel)
theorem mw_1481 : Cond.selects RX12 yX12_image yX12_image ∈ wsL_law := List.mem_of_getElem? (i := 1481) (by decide +kernel)
theorem gV_L_169 : GoodIn wsL_law (wsV RL 169 RX12 yX12_image (wl yX12_image cX12_image 3 (some .boolean))) := g_V mw_1479 mw_1480 mw_1481 mw_5 mw_1482
theorem hdV_X12_image : yX12_image.cls = RX12 ∧ okD yX12_image 1 := by decide +kernel
theorem dL_law_1594 : decode cL_law 1594 = .ok (.if_icmp .eq 28, 3) := by decide +kernel
theorem dL_law_1569 : decode cL_law 1569 = .ok (.iconst 1, 1) := by decide +kernel
theorem dL_law_1570 : decode cL_law 1570 = .ok (.goto 4, 3) := by decide +kernel
theorem dL_law_1586 : decode cL_law 1586 = .ok (.iconst 1, 1) := by decide +kernel
theorem dL_law_1587 : decode cL_law 1587 = .ok (.goto 4, 3) := by decide +kernel
theorem dL_law_1599 : decode cL_law 1599 = .ok (.aload_n 1, 1) := by decide +kernel
theorem dL_law_1600 : decode cL_law 1600 = .ok (.aload_n 0, 1) := by decide +kernel
theorem dL_law_1601 : decode cL_law 1601 = .ok (.iload_n 3, 1) := by decide +kernel
theorem dL_law_1602 : decode cL_law 1602 = .ok (.iconst 1, 1) := by decide +kernel
theorem dL_law_1603 : decode cL_law 1603 = .ok (.iadd, 1) := by decide +kernel
theorem dL_law_1604 : decode cL_law 1604 = .ok (.iaload, 1) := by decide +kernel
theorem dL_law_1605 : decode cL_law 1605 = .ok (.invokevirtual 170, 3) := by decide +kernel
theorem mw_1484 : Cond.methodLink RL 170 yX11_look ∈ wsL_law := List.mem_of_getElem? (i := 1484) (by decide +kernel)
theorem mw_1485 : Cond.instanceMethod yX11_look ∈ wsL_law := List.mem_of_getElem? (i := 1485) (by decide +kernel)
theorem mw_1486 : Cond.selects RX11 yX11_look yX11_look ∈ wsL_law := List.mem_of_getElem? (i := 1486) (by decide +kernel)
theorem gV_L_170 : GoodIn wsL_law (wsV RL 170 RX11 yX11_look (wl yX11_look cX11_look 2 (some .int))) := g_V mw_1484 mw_1485 mw_1486 mw_2 mw_1487
theorem hdV_X11_look : yX11_look.cls = RX11 ∧ okD yX11_look 1 := by decide +kernel
theorem dL_law_1608 : decode cL_law 1608 = .ok (.aload_n 2, 1) := by decide +kernel
theorem dL_law_1609 : decode cL_law 1609 = .ok (.aload_n 0, 1) := by decide +kernel
theorem dL_law_1610 : decode cL_law 1610 = .ok (.iload_n 3, 1) := by decide +kernel
theorem dL_law_1611 : decode cL_law 1611 = .ok (.iconst 1, 1) := by decide +kernel
theorem dL_law_1612 : decode cL_law 1612 = .ok (.iadd, 1) := by decide +kernel
theorem dL_law_1613 : decode cL_law 1613 = .ok (.iaload, 1) := by decide +kernel
theorem dL_law_1614 : decode cL_law 1614 = .ok (.invokevirtual 173, 3) := by decide +kernel
theorem mw_1498 : Cond.methodLink RL 173 yX12_look ∈ wsL_law := List.mem_of_getElem? (i := 1498) (by decide +kernel)
theorem mw_1499 : Cond.instanceMethod yX12_look ∈ wsL_law := List.mem_of_getElem? (i := 1499) (by decide +kernel)
theorem mw_1500 : Cond.selects RX12 yX12_look yX12_look ∈ wsL_law := List.mem_of_getElem? (i := 1500) (by decide +kernel)
theorem gV_L_173 : GoodIn wsL_law (wsV RL 173 RX12 yX12_look (wl yX12_look cX12_look 4 (some .int))) := g_V mw_1498 mw_1499 mw_1500 mw_5 mw_1501
theorem hdV_X12_look : yX12_look.cls = RX12 ∧ okD yX12_look 1 := by decide +kernel
theorem dL_law_1617 : decode cL_law 1617 = .ok (.if_icmp .eq 5, 3) := by decide +kernel
set_option maxHeartbeats 4000000 in
set_option maxRecDepth 100000 in
theorem law_case_26 {p : Program} {l : Launch} {e : Env} {s : State} {m : MethodId} {below : List Frame} {meth : Method} {c : Code} {D : va_G} {κ : Nat → ClassId} {b : Nat} {xs : Nat → Int32} (C0 : lw_At p s m meth c b 6 xs) (hKK : KK D κ s) {A : Nat → Prop} (hA : ∀ q : Nat, s.heap.size ≤ q → A q) (hAq : ∀ q : Nat, A q → s.heap.size ≤ q) (x0 n0 t0 f0 r0 w0 k0 n1 n2 n3 n4 n5 t1 b0 r1 r2 r3 r4 b1 w1 k1 k2 k3 k4 k5 m0 a0 a1 a2 a5 a14 a15 a16 a17 a20 a21 a23 a24 a25 a28 : Nat) {H : Heap} {locs : List Loc} {ls : Array Slot} (hP : va_P D vwCl [(x0, .inr (11, [.ref n0, .ref t0, .ref f0, .ref r0, .ref w0, .ref k0, .int 0])), (n0, .inr (6, [.ref n1, .ref n2, .ref n3, .ref n4, .ref n5, .int 0])), (n1, .inl (κ 0, 6, .inl dial0)), (n2, .inl (κ 4, 3, .inr (.inr (.inr (.inr (fun _ => none)))))), (n3, .inl (κ 5, 3, .inr (.inr (.inr (.inr (fun _ => none)))))), (n4, .inl (κ 0, 6, .inl (fun _ => 0))), (n5, .inl (κ 4, 6, .inr (.inr (.inr (.inr (fun _ => none)))))), (t0, .inr (8, [.ref t1, .int 0])), (t1, .inl (κ 0, 800, .inl (fun _ => 0))), (f0, .inr (2, [.int 0, .int (-1), .int (-1), .int (-1), .int (-1), .int 0])), (r0, .inr (4, [.ref t0, .ref n1, .ref f0, .ref b0, .int 0, .int (-1), .ref r1, .int 0, .ref r2, .ref r3, .int 0, .null, .ref r4, .int 0])), (b0, .inr (0, [.ref b1, .int 0, .long 0])), (b1, .inl (κ 1, 0, .inl (fun _ => 0))), (r1, .inl (κ 1, 20, .inl (fun _ => 0))), (r2, .inl (κ 2, 8, .inr (.inr (.inr (.inr (fun _ => none)))))), (r3, .inl (κ 0, 8, .inl (fun _ => 0))), (r4, .inl (κ 2, 320, .inr (.inr (.inr (.inr (fun _ => none)))))), (w0, .inr (10, [.ref n1, .ref w1, .int 0])), (w1, .inl (κ 1, 6000, .inl (fun _ => 0))), (k0, .inr (6, [.ref k1, .ref k2, .ref k3, .ref k4, .ref k5, .int 0])), (k1, .inl (κ 0, 6, .inl dial0)), (k2, .inl (κ 4, 3, .inr (.inr (.inr (.inr (fun _ => none)))))), (k3, .inl (κ 5, 3, .inr (.inr (.inr (.inr (fun _ => none)))))), (k4, .inl (κ 0, 6, .inl (fun _ => 0))), (k5, .inl (κ 4, 6, .inr (.inr (.inr (.inr (fun _ => none)))))), (m0, .inr (12, [.ref a0, .ref a1, .ref a2, .int 0, .int 0, .ref a5, .int 0, .int 0, .int (-1), .int (-1), .int 0, .int 0, .int 0, .int 0, .ref a14, .ref a15, .ref a16, .ref a17, .int 0, .int 0, .ref a20, .ref a21, .int 0, .ref a23, .ref a24, .ref a25, .int 0, .int 0, .ref a28, .int 0])), (a0, .inl (κ 0, 21375, .inl wf0)), (a1, .inl (κ 0, 21375, .inl (fun _ => 0))), (a2, .inl (κ 0, 128214, .inl (fun _ => 0))), (a5, .inl (κ 0, 800, .inl (fun _ => 0))), (a14, .inl (κ 0, 189, .inl (fun _ => 0))), (a15, .inl (κ 0, 9, .inl (fun _ => 0))), (a16, .inl (κ 0, 9, .inl (fun _ => 0))), (a17, .inl (κ 0, 7123, .inl (fun _ => 0))), (a20, .inl (κ 0, 801, .inl (fun _ => 0))), (a21, .inl (κ 0, 40, .inl (fun _ => 0))), (a23, .inl (κ 0, 40, .inl (fun _ => 0))), (a24, .inl (κ 0, 40, .inl (fun _ => 0))), (a25, .inl (κ 0, 6000, .inl (fun _ => 0))), (a28, .inl (κ 0, 400, .inl (fun _ => 0)))] H) (hD : va_D A [(x0, .inr (11, [.ref n0, .ref t0, .ref f0, .ref r0, .ref w0, .ref k0, .int 0])), (n0, .inr (6, [.ref n1, .ref n2, .ref n3, .ref n4, .ref n5, .int 0])), (n1, .inl (κ 0, 6, .inl dial0)), (n2, .inl (κ 4, 3, .inr (.inr (.inr (.inr (fun _ => none)))))), (n3, .inl (κ 5, 3, .inr (.inr (.inr (.inr (fun _ => none)))))), (n4, .inl (κ 0, 6, .inl (fun _ => 0))), (n5, .inl (κ 4, 6, .inr (.inr (.inr (.inr (fun _ => none)))))), (t0, .inr (8, [.ref t1, .int 0])), (t1, .inl (κ 0, 800, .inl (fun _ => 0))), (f0, .inr (2, [.int 0, .int (-1), .int (-1), .int (-1), .int (-1), .int 0])), (r0, .inr (4, [.ref t0, .ref n1, .ref f0, .ref b0, .int 0, .int (-1), .ref r1, .int 0, .ref r2, .ref r3, .int 0, .null, .ref r4, .int 0])), (b0, .inr (0, [.ref b1, .int 0, .long 0])), (b1, .inl (κ 1, 0, .inl (fun _ => 0))), (r1, .inl (κ 1, 20, .inl (fun _ => 0))), (r2, .inl (κ 2, 8, .inr (.inr (.inr (.inr (fun _ => none)))))), (r3, .inl (κ 0, 8, .inl (fun _ => 0))), (r4, .inl (κ 2, 320, .inr (.inr (.inr (.inr (fun _ => none)))))), (w0, .inr (10, [.ref n1, .ref w1, .int 0])), (w1, .inl (κ 1, 6000, .inl (fun _ => 0))), (k0, .inr (6, [.ref k1, .ref k2, .ref k3, .ref k4, .ref k5, .int 0])), (k1, .inl (κ 0, 6, .inl dial0)), (k2, .inl (κ 4, 3, .inr (.inr (.inr (.inr (fun _ => none)))))), (k3, .inl (κ 5, 3, .inr (.inr (.inr (.inr (fun _ => none)))))), (k4, .inl (κ 0, 6, .inl (fun _ => 0))), (k5, .inl (κ 4, 6, .inr (.inr (.inr (.inr (fun _ => none)))))), (m0, .inr (12, [.ref a0, .ref a1, .ref a2, .int 0, .int 0, .ref a5, .int 0, .int 0, .int (-1), .int (-1), .int 0, .int 0, .int 0, .int 0, .ref a14, .ref a15, .ref a16, .ref a17, .int 0, .int 0, .ref a20, .ref a21, .int 0, .ref a23, .ref a24, .ref a25, .int 0, .int 0, .ref a28, .int 0])), (a0, .inl (κ 0, 21375, .inl wf0)), (a1, .inl (κ 0, 21375, .inl (fun _ => 0))), (a2, .inl (κ 0, 128214, .inl (fun _ => 0))), (a5, .inl (κ 0, 800, .inl (fun _ => 0))), (a14, .inl (κ 0, 189, .inl (fun _ => 0))), (a15, .inl (κ 0, 9, .inl (fun _ => 0))), (a16, .inl (κ 0, 9, .inl (fun _ => 0))), (a17, .inl (κ 0, 7123, .inl (fun _ => 0))), (a20, .inl (κ 0, 801, .inl (fun _ => 0))), (a21, .inl (κ 0, 40, .inl (fun _ => 0))), (a23, .inl (κ 0, 40, .inl (fun _ => 0))), (a24, .inl (κ 0, 40, .inl (fun _ => 0))), (a25, .inl (κ 0, 6000, .inl (fun _ => 0))), (a28, .inl (κ 0, 400, .inl (fun _ => 0)))]) (hS : va_S A s.heap H locs) (hl : lv_has ls 4 [(3, .int 0), (2, .ref m0), (1, .ref x0), (0, .ref b)]) : W p l e room_1 s m #[Value.ref b] below meth c H locs 40 193696 (lw_Z below #[Value.ref b] s) (F0 m 1170 ls []) := by
  obtain ⟨hx, hb, hr, hml, hown, hts0, hX, hbl, hlk, hgv⟩ := id C0
  have hb : c.code = cL_law := hb
  have hts : ∀ w ∈ wsL_law, w.before #[Value.ref b] s = true := fun w h => hts0 w (wsL_law_in w h)
  have hown : s.vm.findClass RL = some m.cls := hown
  have hK : va_K D vwCl (T0 κ) s := hKK.1
  have hbA : ¬ A b := fun h => absurd (hAq b h) (Nat.not_le.mpr hbl)
  have hFX : FX p s m #[Value.ref b] c cL_law 4 RL := ⟨hx, hb, hml, hown, hts⟩
  refine lv_aload_n hx hb dL_law_1170 rfl (lv_at hl 2 rfl) ?_
  refine lv_aload_n hx hb dL_law_1171 rfl (lv_at hl 3 rfl) ?_
  refine lv_iload_n hx hb dL_law_1172 rfl (lv_at hl 0 rfl) ?_
  refine lv_iconst (v := 1) hx hb dL_law_1173 (by decide) ?_
  refine lv_iadd hx hb dL_law_1174 ?_
  refine ki (v := 1) (by decide) ?_
  refine va_sld hx hb hX hbl hbA hS (i := 1) (vp_k (by decide)) dL_law_1175 ?_
  refine kv (v := .int (xs 1)) rfl ?_
  refine lv_aload_n hx hb dL_law_1176 rfl (lv_at hl 3 rfl) ?_
  refine lv_iload_n hx hb dL_law_1177 rfl (lv_at hl 0 rfl) ?_
  refine lv_iconst (v := 2) hx hb dL_law_1178 (by decide) ?_
  refine lv_iadd hx hb dL_law_1179 ?_
  refine ki (v := 2) (by decide) ?_
  refine va_sld hx hb hX hbl hbA hS (i := 2) (vp_k (by decide)) dL_law_1180 ?_
  refine kv (v := .int (xs 2)) rfl ?_
  refine lv_aload_n hx hb dL_law_1181 rfl (lv_at hl 3 rfl) ?_
  refine lv_iload_n hx hb dL_law_1182 rfl (lv_at hl 0 rfl) ?_
  refine lv_iconst (v := 3) hx hb dL_law_1183 (by decide) ?_
  refine lv_iadd hx hb dL_law_1184 ?_
  refine ki (v := 3) (by decide) ?_
  refine va_sld hx hb hX hbl hbA hS (i := 3) (vp_k (by decide)) dL_law_1185 ?_
  refine kv (v := .int (xs 3)) rfl ?_
  refine lv_aload_n hx hb dL_law_1186 rfl (lv_at hl 3 rfl) ?_
  refine lv_iload_n hx hb dL_law_1187 rfl (lv_at hl 0 rfl) ?_
  refine lv_iconst (v := 4) hx hb dL_law_1188 (by decide) ?_
  refine lv_iadd hx hb dL_law_1189 ?_
  refine ki (v := 4) (by decide) ?_
  refine va_sld hx hb hX hbl hbA hS (i := 4) (vp_k (by decide)) dL_law_1190 ?_
  refine kv (v := .int (xs 4)) rfl ?_
  refine cr_V (As := [.int (xs 1), .int (xs 2), .int (xs 3), .int (xs 4)]) (rest := []) hFX hKK (c_X11_cellAt l D κ x0 n0 t0 f0 r0 w0 k0 n1 n2 n3 n4 n5 (xs 1) (xs 2) (xs 3) (xs 4)) 4 gV_L_127 hdV_X11_cellAt rfl rfl ⟨Nat.le_of_ble_eq_true rfl, Nat.le_of_ble_eq_true rfl⟩ rfl rfl (Nat.le_of_ble_eq_true rfl) dL_law_1191 ⟨Nat.le_of_ble_eq_true rfl, Nat.le_of_ble_eq_true rfl⟩ hl.1 hP 0 11 rfl rfl rfl (hP.sub [0, 1, 3] rfl) (fun _ hp_1 => ?_)
  refine W.eq (g2 := F0 m 1194 ls [.int (-1)]) rfl ?_
  refine lv_aload_n hx hb dL_law_1194 rfl (lv_at hl 1 rfl) ?_
  refine lv_aload_n hx hb dL_law_1195 rfl (lv_at hl 3 rfl) ?_
  refine lv_iload_n hx hb dL_law_1196 rfl (lv_at hl 0 rfl) ?_
  refine lv_iconst (v := 1) hx hb dL_law_1197 (by decide) ?_
  refine lv_iadd hx hb dL_law_1198 ?_
  refine ki (v := 1) (by decide) ?_
  refine va_sld hx hb hX hbl hbA hS (i := 1) (vp_k (by decide)) dL_law_1199 ?_
  refine kv (v := .int (xs 1)) rfl ?_
  refine lv_aload_n hx hb dL_law_1200 rfl (lv_at hl 3 rfl) ?_
  refine lv_iload_n hx hb dL_law_1201 rfl (lv_at hl 0 rfl) ?_
  refine lv_iconst (v := 2) hx hb dL_law_1202 (by decide) ?_
  refine lv_iadd hx hb dL_law_1203 ?_
  refine ki (v := 2) (by decide) ?_
  refine va_sld hx hb hX hbl hbA hS (i := 2) (vp_k (by decide)) dL_law_1204 ?_
  refine kv (v := .int (xs 2)) rfl ?_
  refine lv_aload_n hx hb dL_law_1205 rfl (lv_at hl 3 rfl) ?_
  refine lv_iload_n hx hb dL_law_1206 rfl (lv_at hl 0 rfl) ?_
  refine lv_iconst (v := 3) hx hb dL_law_1207 (by decide) ?_
  refine lv_iadd hx hb dL_law_1208 ?_
  refine ki (v := 3) (by decide) ?_
  refine va_sld hx hb hX hbl hbA hS (i := 3) (vp_k (by decide)) dL_law_1209 ?_
  refine kv (v := .int (xs 3)) rfl ?_
  refine lv_aload_n hx hb dL_law_1210 rfl (lv_at hl 3 rfl) ?_
  refine lv_iload_n hx hb dL_law_1211 rfl (lv_at hl 0 rfl) ?_
  refine lv_iconst (v := 4) hx hb dL_law_1212 (by decide) ?_
  refine lv_iadd hx hb dL_law_1213 ?_
  refine ki (v := 4) (by decide) ?_
  refine va_sld hx hb hX hbl hbA hS (i := 4) (vp_k (by decide)) dL_law_1214 ?_
  refine kv (v := .int (xs 4)) rfl ?_
  refine cr_V (As := [.int (xs 1), .int (xs 2), .int (xs 3), .int (xs 4)]) (rest := [.int (-1)]) hFX hKK (c_X12_cellAt_ l D κ m0 a0 a1 a2 a5 a14 a15 a16 a17 a20 a21 a23 a24 a25 a28 (xs 1) (xs 2) (xs 3) (xs 4)) 4 gV_L_130 hdV_X12_cellAt_ rfl rfl ⟨Nat.le_of_ble_eq_true rfl, Nat.le_of_ble_eq_true rfl⟩ rfl rfl (Nat.le_of_ble_eq_true rfl) dL_law_1215 ⟨Nat.le_of_ble_eq_true rfl, Nat.le_of_ble_eq_true rfl⟩ hl.1 hP 25 12 rfl rfl rfl (hP.sub [25, 26] rfl) (fun _ hp_2 => ?_)
  refine W.eq (g2 := F0 m 1218 ls [.int (-1), .int (-1)]) rfl ?_
  refine lv_icmp_eq (tgt := 1622) hx hb dL_law_1218 (by decide) (fun c_3 => ?_) (fun c_3 => absurd (by decide) c_3)
  exact law_tail C0 hA hAq hS hl (Nat.le_of_ble_eq_true rfl) (Nat.le_of_ble_eq_true rfl)
set_option maxHeartbeats 4000000 in
set_option maxRecDepth 100000 in
theorem law_case_27 {p : Program} {l : Launch} {e : Env} {s : State} {m : MethodId} {below : List Frame} {meth : Method} {c : Code} {D : va_G} {κ : Nat → ClassId} {b : Nat} {xs : Nat → Int32} (C0 : lw_At p s m meth c b 6 xs) (hKK : KK D κ s) {A : Nat → Prop} (hA : ∀ q : Nat, s.heap.size ≤ q → A q) (hAq : ∀ q : Nat, A q → s.heap.size ≤ q) (x0 n0 t0 f0 r0 w0 k0 n1 n2 n3 n4 n5 t1 b0 r1 r2 r3 r4 b1 w1 k1 k2 k3 k4 k5 m0 a0 a1 a2 a5 a14 a15 a16 a17 a20 a21 a23 a24 a25 a28 : Nat) {H : Heap} {locs : List Loc} {ls : Array Slot} (hP : va_P D vwCl [(x0, .inr (11, [.ref n0, .ref t0, .ref f0, .ref r0, .ref w0, .ref k0, .int 0])), (n0, .inr (6, [.ref n1, .ref n2, .ref n3, .ref n4, .ref n5, .int 0])), (n1, .inl (κ 0, 6, .inl dial0)), (n2, .inl (κ 4, 3, .inr (.inr (.inr (.inr (fun _ => none)))))), (n3, .inl (κ 5, 3, .inr (.inr (.inr (.inr (fun _ => none)))))), (n4, .inl (κ 0, 6, .inl (fun _ => 0))), (n5, .inl (κ 4, 6, .inr (.inr (.inr (.inr (fun _ => none)))))), (t0, .inr (8, [.ref t1, .int 0])), (t1, .inl (κ 0, 800, .inl (fun _ => 0))), (f0, .inr (2, [.int 0, .int (-1), .int (-1), .int (-1), .int (-1), .int 0])), (r0, .inr (4, [.ref t0, .ref n1, .ref f0, .ref b0, .int 0, .int (-1), .ref r1, .int 0, .ref r2, .ref r3, .int 0, .null, .ref r4, .int 0])), (b0, .inr (0, [.ref b1, .int 0, .long 0])), (b1, .inl (κ 1, 0, .inl (fun _ => 0))), (r1, .inl (κ 1, 20, .inl (fun _ => 0))), (r2, .inl (κ 2, 8, .inr (.inr (.inr (.inr (fun _ => none)))))), (r3, .inl (κ 0, 8, .inl (fun _ => 0))), (r4, .inl (κ 2, 320, .inr (.inr (.inr (.inr (fun _ => none)))))), (w0, .inr (10, [.ref n1, .ref w1, .int 0])), (w1, .inl (κ 1, 6000, .inl (fun _ => 0))), (k0, .inr (6, [.ref k1, .ref k2, .ref k3, .ref k4, .ref k5, .int 0])), (k1, .inl (κ 0, 6, .inl dial0)), (k2, .inl (κ 4, 3, .inr (.inr (.inr (.inr (fun _ => none)))))), (k3, .inl (κ 5, 3, .inr (.inr (.inr (.inr (fun _ => none)))))), (k4, .inl (κ 0, 6, .inl (fun _ => 0))), (k5, .inl (κ 4, 6, .inr (.inr (.inr (.inr (fun _ => none)))))), (m0, .inr (12, [.ref a0, .ref a1, .ref a2, .int 0, .int 0, .ref a5, .int 0, .int 0, .int (-1), .int (-1), .int 0, .int 0, .int 0, .int 0, .ref a14, .ref a15, .ref a16, .ref a17, .int 0, .int 0, .ref a20, .ref a21, .int 0, .ref a23, .ref a24, .ref a25, .int 0, .int 0, .ref a28, .int 0])), (a0, .inl (κ 0, 21375, .inl wf0)), (a1, .inl (κ 0, 21375, .inl (fun _ => 0))), (a2, .inl (κ 0, 128214, .inl (fun _ => 0))), (a5, .inl (κ 0, 800, .inl (fun _ => 0))), (a14, .inl (κ 0, 189, .inl (fun _ => 0))), (a15, .inl (κ 0, 9, .inl (fun _ => 0))), (a16, .inl (κ 0, 9, .inl (fun _ => 0))), (a17, .inl (κ 0, 7123, .inl (fun _ => 0))), (a20, .inl (κ 0, 801, .inl (fun _ => 0))), (a21, .inl (κ 0, 40, .inl (fun _ => 0))), (a23, .inl (κ 0, 40, .inl (fun _ => 0))), (a24, .inl (κ 0, 40, .inl (fun _ => 0))), (a25, .inl (κ 0, 6000, .inl (fun _ => 0))), (a28, .inl (κ 0, 400, .inl (fun _ => 0)))] H) (hD : va_D A [(x0, .inr (11, [.ref n0, .ref t0, .ref f0, .ref r0, .ref w0, .ref k0, .int 0])), (n0, .inr (6, [.ref n1, .ref n2, .ref n3, .ref n4, .ref n5, .int 0])), (n1, .inl (κ 0, 6, .inl dial0)), (n2, .inl (κ 4, 3, .inr (.inr (.inr (.inr (fun _ => none)))))), (n3, .inl (κ 5, 3, .inr (.inr (.inr (.inr (fun _ => none)))))), (n4, .inl (κ 0, 6, .inl (fun _ => 0))), (n5, .inl (κ 4, 6, .inr (.inr (.inr (.inr (fun _ => none)))))), (t0, .inr (8, [.ref t1, .int 0])), (t1, .inl (κ 0, 800, .inl (fun _ => 0))), (f0, .inr (2, [.int 0, .int (-1), .int (-1), .int (-1), .int (-1), .int 0])), (r0, .inr (4, [.ref t0, .ref n1, .ref f0, .ref b0, .int 0, .int (-1), .ref r1, .int 0, .ref r2, .ref r3, .int 0, .null, .ref r4, .int 0])), (b0, .inr (0, [.ref b1, .int 0, .long 0])), (b1, .inl (κ 1, 0, .inl (fun _ => 0))), (r1, .inl (κ 1, 20, .inl (fun _ => 0))), (r2, .inl (κ 2, 8, .inr (.inr (.inr (.inr (fun _ => none)))))), (r3, .inl (κ 0, 8, .inl (fun _ => 0))), (r4, .inl (κ 2, 320, .inr (.inr (.inr (.inr (fun _ => none)))))), (w0, .inr (10, [.ref n1, .ref w1, .int 0])), (w1, .inl (κ 1, 6000, .inl (fun _ => 0))), (k0, .inr (6, [.ref k1, .ref k2, .ref k3, .ref k4, .ref k5, .int 0])), (k1, .inl (κ 0, 6, .inl dial0)), (k2, .inl (κ 4, 3, .inr (.inr (.inr (.inr (fun _ => none)))))), (k3, .inl (κ 5, 3, .inr (.inr (.inr (.inr (fun _ => none)))))), (k4, .inl (κ 0, 6, .inl (fun _ => 0))), (k5, .inl (κ 4, 6, .inr (.inr (.inr (.inr (fun _ => none)))))), (m0, .inr (12, [.ref a0, .ref a1, .ref a2, .int 0, .int 0, .ref a5, .int 0, .int 0, .int (-1), .int (-1), .int 0, .int 0, .int 0, .int 0, .ref a14, .ref a15, .ref a16, .ref a17, .int 0, .int 0, .ref a20, .ref a21, .int 0, .ref a23, .ref a24, .ref a25, .int 0, .int 0, .ref a28, .int 0])), (a0, .inl (κ 0, 21375, .inl wf0)), (a1, .inl (κ 0, 21375, .inl (fun _ => 0))), (a2, .inl (κ 0, 128214, .inl (fun _ => 0))), (a5, .inl (κ 0, 800, .inl (fun _ => 0))), (a14, .inl (κ 0, 189, .inl (fun _ => 0))), (a15, .inl (κ 0, 9, .inl (fun _ => 0))), (a16, .inl (κ 0, 9, .inl (fun _ => 0))), (a17, .inl (κ 0, 7123, .inl (fun _ => 0))), (a20, .inl (κ 0, 801, .inl (fun _ => 0))), (a21, .inl (κ 0, 40, .inl (fun _ => 0))), (a23, .inl (κ 0, 40, .inl (fun _ => 0))), (a24, .inl (κ 0, 40, .inl (fun _ => 0))), (a25, .inl (κ 0, 6000, .inl (fun _ => 0))), (a28, .inl (κ 0, 400, .inl (fun _ => 0)))]) (hS : va_S A s.heap H locs) (hl : lv_has ls 4 [(3, .int 0), (2, .ref m0), (1, .ref x0), (0, .ref b)]) : W p l e room_1 s m #[Value.ref b] below meth c H locs 40 193696 (lw_Z below #[Value.ref b] s) (F0 m 1223 ls []) := by
  obtain ⟨hx, hb, hr, hml, hown, hts0, hX, hbl, hlk, hgv⟩ := id C0
  have hb : c.code = cL_law := hb
  have hts : ∀ w ∈ wsL_law, w.before #[Value.ref b] s = true := fun w h => hts0 w (wsL_law_in w h)
  have hown : s.vm.findClass RL = some m.cls := hown
  have hK : va_K D vwCl (T0 κ) s := hKK.1
  have hbA : ¬ A b := fun h => absurd (hAq b h) (Nat.not_le.mpr hbl)
  have hFX : FX p s m #[Value.ref b] c cL_law 4 RL := ⟨hx, hb, hml, hown, hts⟩
  refine lv_aload_n hx hb dL_law_1223 rfl (lv_at hl 2 rfl) ?_
  refine lv_aload_n hx hb dL_law_1224 rfl (lv_at hl 3 rfl) ?_
  refine lv_iload_n hx hb dL_law_1225 rfl (lv_at hl 0 rfl) ?_
  refine lv_iconst (v := 1) hx hb dL_law_1226 (by decide) ?_
  refine lv_iadd hx hb dL_law_1227 ?_
  refine ki (v := 1) (by decide) ?_
  refine va_sld hx hb hX hbl hbA hS (i := 1) (vp_k (by decide)) dL_law_1228 ?_
  refine kv (v := .int (xs 1)) rfl ?_
  refine lv_aload_n hx hb dL_law_1229 rfl (lv_at hl 3 rfl) ?_
  refine lv_iload_n hx hb dL_law_1230 rfl (lv_at hl 0 rfl) ?_
  refine lv_iconst (v := 2) hx hb dL_law_1231 (by decide) ?_
  refine lv_iadd hx hb dL_law_1232 ?_
  refine ki (v := 2) (by decide) ?_
  refine va_sld hx hb hX hbl hbA hS (i := 2) (vp_k (by decide)) dL_law_1233 ?_
  refine kv (v := .int (xs 2)) rfl ?_
  refine lv_aload_n hx hb dL_law_1234 rfl (lv_at hl 3 rfl) ?_
  refine lv_iload_n hx hb dL_law_1235 rfl (lv_at hl 0 rfl) ?_
  refine lv_iconst (v := 3) hx hb dL_law_1236 (by decide) ?_
  refine lv_iadd hx hb dL_law_1237 ?_
  refine ki (v := 3) (by decide) ?_
  refine va_sld hx hb hX hbl hbA hS (i := 3) (vp_k (by decide)) dL_law_1238 ?_
  refine kv (v := .int (xs 3)) rfl ?_
  refine cr_V (As := [.int (xs 1), .int (xs 2), .int (xs 3)]) (rest := []) hFX hKK (c_X11_value l D κ x0 n0 t0 f0 r0 w0 k0 n1 n2 n3 n4 n5 (xs 1) (xs 2) (xs 3)) 3 gV_L_131 hdV_X11_value rfl rfl ⟨Nat.le_of_ble_eq_true rfl, Nat.le_of_ble_eq_true rfl⟩ rfl rfl (Nat.le_of_ble_eq_true rfl) dL_law_1239 ⟨Nat.le_of_ble_eq_true rfl, Nat.le_of_ble_eq_true rfl⟩ hl.1 hP 0 11 rfl rfl rfl (hP.sub [0, 1, 3] rfl) (fun _ hp_1 => ?_)
  refine W.eq (g2 := F0 m 1242 ls [.long (-100000000000000)]) rfl ?_
  refine lv_aload_n hx hb dL_law_1242 rfl (lv_at hl 1 rfl) ?_
  refine lv_aload_n hx hb dL_law_1243 rfl (lv_at hl 3 rfl) ?_
  refine lv_iload_n hx hb dL_law_1244 rfl (lv_at hl 0 rfl) ?_
  refine lv_iconst (v := 1) hx hb dL_law_1245 (by decide) ?_
  refine lv_iadd hx hb dL_law_1246 ?_
  refine ki (v := 1) (by decide) ?_
  refine va_sld hx hb hX hbl hbA hS (i := 1) (vp_k (by decide)) dL_law_1247 ?_
  refine kv (v := .int (xs 1)) rfl ?_
  refine lv_aload_n hx hb dL_law_1248 rfl (lv_at hl 3 rfl) ?_
  refine lv_iload_n hx hb dL_law_1249 rfl (lv_at hl 0 rfl) ?_
  refine lv_iconst (v := 2) hx hb dL_law_1250 (by decide) ?_
  refine lv_iadd hx hb dL_law_1251 ?_
  refine ki (v := 2) (by decide) ?_
  refine va_sld hx hb hX hbl hbA hS (i := 2) (vp_k (by decide)) dL_law_1252 ?_
  refine kv (v := .int (xs 2)) rfl ?_
  refine lv_aload_n hx hb dL_law_1253 rfl (lv_at hl 3 rfl) ?_
  refine lv_iload_n hx hb dL_law_1254 rfl (lv_at hl 0 rfl) ?_
  refine lv_iconst (v := 3) hx hb dL_law_1255 (by decide) ?_
  refine lv_iadd hx hb dL_law_1256 ?_
  refine ki (v := 3) (by decide) ?_
  refine va_sld hx hb hX hbl hbA hS (i := 3) (vp_k (by decide)) dL_law_1257 ?_
  refine kv (v := .int (xs 3)) rfl ?_
  refine cr_V (As := [.int (xs 1), .int (xs 2), .int (xs 3)]) (rest := [.long (-100000000000000)]) hFX hKK (c_X12_value l D κ m0 a0 a1 a2 a5 a14 a15 a16 a17 a20 a21 a23 a24 a25 a28 (xs 1) (xs 2) (xs 3)) 3 gV_L_135 hdV_X12_value rfl rfl ⟨Nat.le_of_ble_eq_true rfl, Nat.le_of_ble_eq_true rfl⟩ rfl rfl (Nat.le_of_ble_eq_true rfl) dL_law_1258 ⟨Nat.le_of_ble_eq_true rfl, Nat.le_of_ble_eq_true rfl⟩ hl.1 hP 25 12 rfl rfl rfl (hP.sub [25, 26] rfl) (fun _ hp_2 => ?_)
  refine W.eq (g2 := F0 m 1261 ls [.long (-100000000000000), .long (-100000000000000)]) rfl ?_
  refine W.lcmp hx hb dL_law_1261 ?_
  refine ki (v := 0) (by decide) ?_
  refine lv_if_eq (tgt := 1622) hx hb dL_law_1262 (by decide) (fun c_3 => ?_) (fun c_3 => absurd (by decide) c_3)
  exact law_tail C0 hA hAq hS hl (Nat.le_of_ble_eq_true rfl) (Nat.le_of_ble_eq_true rfl)
set_option maxHeartbeats 4000000 in
set_option maxRecDepth 100000 in
theorem law_case_28 {p : Program} {l : Launch} {e : Env} {s : State} {m : MethodId} {below : List Frame} {meth : Method} {c : Code} {D : va_G} {κ : Nat → ClassId} {b : Nat} {xs : Nat → Int32} (C0 : lw_At p s m meth c b 6 xs) (hKK : KK D κ s) {A : Nat → Prop} (hA : ∀ q : Nat, s.heap.size ≤ q → A q) (hAq : ∀ q : Nat, A q → s.heap.size ≤ q) (x0 n0 t0 f0 r0 w0 k0 n1 n2 n3 n4 n5 t1 b0 r1 r2 r3 r4 b1 w1 k1 k2 k3 k4 k5 m0 a0 a1 a2 a5 a14 a15 a16 a17 a20 a21 a23 a24 a25 a28 : Nat) {H : Heap} {locs : List Loc} {ls : Array Slot} (hP : va_P D vwCl [(x0, .inr (11, [.ref n0, .ref t0, .ref f0, .ref r0, .ref w0, .ref k0, .int 0])), (n0, .inr (6, [.ref n1, .ref n2, .ref n3, .ref n4, .ref n5, .int 0])), (n1, .inl (κ 0, 6, .inl dial0)), (n2, .inl (κ 4, 3, .inr (.inr (.inr (.inr (fun _ => none)))))), (n3, .inl (κ 5, 3, .inr (.inr (.inr (.inr (fun _ => none)))))), (n4, .inl (κ 0, 6, .inl (fun _ => 0))), (n5, .inl (κ 4, 6, .inr (.inr (.inr (.inr (fun _ => none)))))), (t0, .inr (8, [.ref t1, .int 0])), (t1, .inl (κ 0, 800, .inl (fun _ => 0))), (f0, .inr (2, [.int 0, .int (-1), .int (-1), .int (-1), .int (-1), .int 0])), (r0, .inr (4, [.ref t0, .ref n1, .ref f0, .ref b0, .int 0, .int (-1), .ref r1, .int 0, .ref r2, .ref r3, .int 0, .null, .ref r4, .int 0])), (b0, .inr (0, [.ref b1, .int 0, .long 0])), (b1, .inl (κ 1, 0, .inl (fun _ => 0))), (r1, .inl (κ 1, 20, .inl (fun _ => 0))), (r2, .inl (κ 2, 8, .inr (.inr (.inr (.inr (fun _ => none)))))), (r3, .inl (κ 0, 8, .inl (fun _ => 0))), (r4, .inl (κ 2, 320, .inr (.inr (.inr (.inr (fun _ => none)))))), (w0, .inr (10, [.ref n1, .ref w1, .int 0])), (w1, .inl (κ 1, 6000, .inl (fun _ => 0))), (k0, .inr (6, [.ref k1, .ref k2, .ref k3, .ref k4, .ref k5, .int 0])), (k1, .inl (κ 0, 6, .inl dial0)), (k2, .inl (κ 4, 3, .inr (.inr (.inr (.inr (fun _ => none)))))), (k3, .inl (κ 5, 3, .inr (.inr (.inr (.inr (fun _ => none)))))), (k4, .inl (κ 0, 6, .inl (fun _ => 0))), (k5, .inl (κ 4, 6, .inr (.inr (.inr (.inr (fun _ => none)))))), (m0, .inr (12, [.ref a0, .ref a1, .ref a2, .int 0, .int 0, .ref a5, .int 0, .int 0, .int (-1), .int (-1), .int 0, .int 0, .int 0, .int 0, .ref a14, .ref a15, .ref a16, .ref a17, .int 0, .int 0, .ref a20, .ref a21, .int 0, .ref a23, .ref a24, .ref a25, .int 0, .int 0, .ref a28, .int 0])), (a0, .inl (κ 0, 21375, .inl wf0)), (a1, .inl (κ 0, 21375, .inl (fun _ => 0))), (a2, .inl (κ 0, 128214, .inl (fun _ => 0))), (a5, .inl (κ 0, 800, .inl (fun _ => 0))), (a14, .inl (κ 0, 189, .inl (fun _ => 0))), (a15, .inl (κ 0, 9, .inl (fun _ => 0))), (a16, .inl (κ 0, 9, .inl (fun _ => 0))), (a17, .inl (κ 0, 7123, .inl (fun _ => 0))), (a20, .inl (κ 0, 801, .inl (fun _ => 0))), (a21, .inl (κ 0, 40, .inl (fun _ => 0))), (a23, .inl (κ 0, 40, .inl (fun _ => 0))), (a24, .inl (κ 0, 40, .inl (fun _ => 0))), (a25, .inl (κ 0, 6000, .inl (fun _ => 0))), (a28, .inl (κ 0, 400, .inl (fun _ => 0)))] H) (hD : va_D A [(x0, .inr (11, [.ref n0, .ref t0, .ref f0, .ref r0, .ref w0, .ref k0, .int 0])), (n0, .inr (6, [.ref n1, .ref n2, .ref n3, .ref n4, .ref n5, .int 0])), (n1, .inl (κ 0, 6, .inl dial0)), (n2, .inl (κ 4, 3, .inr (.inr (.inr (.inr (fun _ => none)))))), (n3, .inl (κ 5, 3, .inr (.inr (.inr (.inr (fun _ => none)))))), (n4, .inl (κ 0, 6, .inl (fun _ => 0))), (n5, .inl (κ 4, 6, .inr (.inr (.inr (.inr (fun _ => none)))))), (t0, .inr (8, [.ref t1, .int 0])), (t1, .inl (κ 0, 800, .inl (fun _ => 0))), (f0, .inr (2, [.int 0, .int (-1), .int (-1), .int (-1), .int (-1), .int 0])), (r0, .inr (4, [.ref t0, .ref n1, .ref f0, .ref b0, .int 0, .int (-1), .ref r1, .int 0, .ref r2, .ref r3, .int 0, .null, .ref r4, .int 0])), (b0, .inr (0, [.ref b1, .int 0, .long 0])), (b1, .inl (κ 1, 0, .inl (fun _ => 0))), (r1, .inl (κ 1, 20, .inl (fun _ => 0))), (r2, .inl (κ 2, 8, .inr (.inr (.inr (.inr (fun _ => none)))))), (r3, .inl (κ 0, 8, .inl (fun _ => 0))), (r4, .inl (κ 2, 320, .inr (.inr (.inr (.inr (fun _ => none)))))), (w0, .inr (10, [.ref n1, .ref w1, .int 0])), (w1, .inl (κ 1, 6000, .inl (fun _ => 0))), (k0, .inr (6, [.ref k1, .ref k2, .ref k3, .ref k4, .ref k5, .int 0])), (k1, .inl (κ 0, 6, .inl dial0)), (k2, .inl (κ 4, 3, .inr (.inr (.inr (.inr (fun _ => none)))))), (k3, .inl (κ 5, 3, .inr (.inr (.inr (.inr (fun _ => none)))))), (k4, .inl (κ 0, 6, .inl (fun _ => 0))), (k5, .inl (κ 4, 6, .inr (.inr (.inr (.inr (fun _ => none)))))), (m0, .inr (12, [.ref a0, .ref a1, .ref a2, .int 0, .int 0, .ref a5, .int 0, .int 0, .int (-1), .int (-1), .int 0, .int 0, .int 0, .int 0, .ref a14, .ref a15, .ref a16, .ref a17, .int 0, .int 0, .ref a20, .ref a21, .int 0, .ref a23, .ref a24, .ref a25, .int 0, .int 0, .ref a28, .int 0])), (a0, .inl (κ 0, 21375, .inl wf0)), (a1, .inl (κ 0, 21375, .inl (fun _ => 0))), (a2, .inl (κ 0, 128214, .inl (fun _ => 0))), (a5, .inl (κ 0, 800, .inl (fun _ => 0))), (a14, .inl (κ 0, 189, .inl (fun _ => 0))), (a15, .inl (κ 0, 9, .inl (fun _ => 0))), (a16, .inl (κ 0, 9, .inl (fun _ => 0))), (a17, .inl (κ 0, 7123, .inl (fun _ => 0))), (a20, .inl (κ 0, 801, .inl (fun _ => 0))), (a21, .inl (κ 0, 40, .inl (fun _ => 0))), (a23, .inl (κ 0, 40, .inl (fun _ => 0))), (a24, .inl (κ 0, 40, .inl (fun _ => 0))), (a25, .inl (κ 0, 6000, .inl (fun _ => 0))), (a28, .inl (κ 0, 400, .inl (fun _ => 0)))]) (hS : va_S A s.heap H locs) (hl : lv_has ls 4 [(3, .int 0), (2, .ref m0), (1, .ref x0), (0, .ref b)]) : W p l e room_1 s m #[Value.ref b] below meth c H locs 40 193696 (lw_Z below #[Value.ref b] s) (F0 m 1267 ls []) := by
  obtain ⟨hx, hb, hr, hml, hown, hts0, hX, hbl, hlk, hgv⟩ := id C0
  have hb : c.code = cL_law := hb
  have hts : ∀ w ∈ wsL_law, w.before #[Value.ref b] s = true := fun w h => hts0 w (wsL_law_in w h)
  have hown : s.vm.findClass RL = some m.cls := hown
  have hK : va_K D vwCl (T0 κ) s := hKK.1
  have hbA : ¬ A b := fun h => absurd (hAq b h) (Nat.not_le.mpr hbl)
  have hFX : FX p s m #[Value.ref b] c cL_law 4 RL := ⟨hx, hb, hml, hown, hts⟩
  refine lv_aload_n hx hb dL_law_1267 rfl (lv_at hl 2 rfl) ?_
  refine lv_aload_n hx hb dL_law_1268 rfl (lv_at hl 3 rfl) ?_
  refine lv_iload_n hx hb dL_law_1269 rfl (lv_at hl 0 rfl) ?_
  refine lv_iconst (v := 1) hx hb dL_law_1270 (by decide) ?_
  refine lv_iadd hx hb dL_law_1271 ?_
  refine ki (v := 1) (by decide) ?_
  refine va_sld hx hb hX hbl hbA hS (i := 1) (vp_k (by decide)) dL_law_1272 ?_
  refine kv (v := .int (xs 1)) rfl ?_
  refine lv_aload_n hx hb dL_law_1273 rfl (lv_at hl 3 rfl) ?_
  refine lv_iload_n hx hb dL_law_1274 rfl (lv_at hl 0 rfl) ?_
  refine lv_iconst (v := 2) hx hb dL_law_1275 (by decide) ?_
  refine lv_iadd hx hb dL_law_1276 ?_
  refine ki (v := 2) (by decide) ?_
  refine va_sld hx hb hX hbl hbA hS (i := 2) (vp_k (by decide)) dL_law_1277 ?_
  refine kv (v := .int (xs 2)) rfl ?_
  refine lv_aload_n hx hb dL_law_1278 rfl (lv_at hl 3 rfl) ?_
  refine lv_iload_n hx hb dL_law_1279 rfl (lv_at hl 0 rfl) ?_
  refine lv_iconst (v := 3) hx hb dL_law_1280 (by decide) ?_
  refine lv_iadd hx hb dL_law_1281 ?_
  refine ki (v := 3) (by decide) ?_
  refine va_sld hx hb hX hbl hbA hS (i := 3) (vp_k (by decide)) dL_law_1282 ?_
  refine kv (v := .int (xs 3)) rfl ?_
  refine lv_aload_n hx hb dL_law_1283 rfl (lv_at hl 3 rfl) ?_
  refine lv_iload_n hx hb dL_law_1284 rfl (lv_at hl 0 rfl) ?_
  refine lv_iconst (v := 4) hx hb dL_law_1285 (by decide) ?_
  refine lv_iadd hx hb dL_law_1286 ?_
  refine ki (v := 4) (by decide) ?_
  refine va_sld hx hb hX hbl hbA hS (i := 4) (vp_k (by decide)) dL_law_1287 ?_
  refine kv (v := .int (xs 4)) rfl ?_
  refine cr_V (As := [.int (xs 1), .int (xs 2), .int (xs 3), .int (xs 4)]) (rest := []) hFX hKK (c_X11_compare l D κ x0 n0 t0 f0 r0 w0 k0 n1 n2 n3 n4 n5 (xs 1) (xs 2) (xs 3) (xs 4)) 4 gV_L_136 hdV_X11_compare rfl rfl ⟨Nat.le_of_ble_eq_true rfl, Nat.le_of_ble_eq_true rfl⟩ rfl rfl (Nat.le_of_ble_eq_true rfl) dL_law_1288 ⟨Nat.le_of_ble_eq_true rfl, Nat.le_of_ble_eq_true rfl⟩ hl.1 hP 0 11 rfl rfl rfl (hP.sub [0, 1, 3] rfl) (fun _ hp_1 => ?_)
  refine W.eq (g2 := F0 m 1291 ls [.int (-1)]) rfl ?_
  refine lv_aload_n hx hb dL_law_1291 rfl (lv_at hl 1 rfl) ?_
  refine lv_aload_n hx hb dL_law_1292 rfl (lv_at hl 3 rfl) ?_
  refine lv_iload_n hx hb dL_law_1293 rfl (lv_at hl 0 rfl) ?_
  refine lv_iconst (v := 1) hx hb dL_law_1294 (by decide) ?_
  refine lv_iadd hx hb dL_law_1295 ?_
  refine ki (v := 1) (by decide) ?_
  refine va_sld hx hb hX hbl hbA hS (i := 1) (vp_k (by decide)) dL_law_1296 ?_
  refine kv (v := .int (xs 1)) rfl ?_
  refine lv_aload_n hx hb dL_law_1297 rfl (lv_at hl 3 rfl) ?_
  refine lv_iload_n hx hb dL_law_1298 rfl (lv_at hl 0 rfl) ?_
  refine lv_iconst (v := 2) hx hb dL_law_1299 (by decide) ?_
  refine lv_iadd hx hb dL_law_1300 ?_
  refine ki (v := 2) (by decide) ?_
  refine va_sld hx hb hX hbl hbA hS (i := 2) (vp_k (by decide)) dL_law_1301 ?_
  refine kv (v := .int (xs 2)) rfl ?_
  refine lv_aload_n hx hb dL_law_1302 rfl (lv_at hl 3 rfl) ?_
  refine lv_iload_n hx hb dL_law_1303 rfl (lv_at hl 0 rfl) ?_
  refine lv_iconst (v := 3) hx hb dL_law_1304 (by decide) ?_
  refine lv_iadd hx hb dL_law_1305 ?_
  refine ki (v := 3) (by decide) ?_
  refine va_sld hx hb hX hbl hbA hS (i := 3) (vp_k (by decide)) dL_law_1306 ?_
  refine kv (v := .int (xs 3)) rfl ?_
  refine lv_aload_n hx hb dL_law_1307 rfl (lv_at hl 3 rfl) ?_
  refine lv_iload_n hx hb dL_law_1308 rfl (lv_at hl 0 rfl) ?_
  refine lv_iconst (v := 4) hx hb dL_law_1309 (by decide) ?_
  refine lv_iadd hx hb dL_law_1310 ?_
  refine ki (v := 4) (by decide) ?_
  refine va_sld hx hb hX hbl hbA hS (i := 4) (vp_k (by decide)) dL_law_1311 ?_
  refine kv (v := .int (xs 4)) rfl ?_
  refine cr_V (As := [.int (xs 1), .int (xs 2), .int (xs 3), .int (xs 4)]) (rest := [.int (-1)]) hFX hKK (c_X12_compare l D κ m0 a0 a1 a2 a5 a14 a15 a16 a17 a20 a21 a23 a24 a25 a28 (xs 1) (xs 2) (xs 3) (xs 4)) 4 gV_L_139 hdV_X12_compare rfl rfl ⟨Nat.le_of_ble_eq_true rfl, Nat.le_of_ble_eq_true rfl⟩ rfl rfl (Nat.le_of_ble_eq_true rfl) dL_law_1312 ⟨Nat.le_of_ble_eq_true rfl, Nat.le_of_ble_eq_true rfl⟩ hl.1 hP 25 12 rfl rfl rfl (hP.sub [25, 26] rfl) (fun _ hp_2 => ?_)
  refine W.eq (g2 := F0 m 1315 ls [.int (-1), .int (-1)]) rfl ?_
  refine lv_icmp_eq (tgt := 1622) hx hb dL_law_1315 (by decide) (fun c_3 => ?_) (fun c_3 => absurd (by decide) c_3)
  exact law_tail C0 hA hAq hS hl (Nat.le_of_ble_eq_true rfl) (Nat.le_of_ble_eq_true rfl)
set_option maxHeartbeats 4000000 in
set_option maxRecDepth 100000 in
theorem law_case_29 {p : Program} {l : Launch} {e : Env} {s : State} {m : MethodId} {below : List Frame} {meth : Method} {c : Code} {D : va_G} {κ : Nat → ClassId} {b : Nat} {xs : Nat → Int32} (C0 : lw_At p s m meth c b 6 xs) (hKK : KK D κ s) {A : Nat → Prop} (hA : ∀ q : Nat, s.heap.size ≤ q → A q) (hAq : ∀ q : Nat, A q → s.heap.size ≤ q) (x0 n0 t0 f0 r0 w0 k0 n1 n2 n3 n4 n5 t1 b0 r1 r2 r3 r4 b1 w1 k1 k2 k3 k4 k5 m0 a0 a1 a2 a5 a14 a15 a16 a17 a20 a21 a23 a24 a25 a28 : Nat) {H : Heap} {locs : List Loc} {ls : Array Slot} (hP : va_P D vwCl [(x0, .inr (11, [.ref n0, .ref t0, .ref f0, .ref r0, .ref w0, .ref k0, .int 0])), (n0, .inr (6, [.ref n1, .ref n2, .ref n3, .ref n4, .ref n5, .int 0])), (n1, .inl (κ 0, 6, .inl dial0)), (n2, .inl (κ 4, 3, .inr (.inr (.inr (.inr (fun _ => none)))))), (n3, .inl (κ 5, 3, .inr (.inr (.inr (.inr (fun _ => none)))))), (n4, .inl (κ 0, 6, .inl (fun _ => 0))), (n5, .inl (κ 4, 6, .inr (.inr (.inr (.inr (fun _ => none)))))), (t0, .inr (8, [.ref t1, .int 0])), (t1, .inl (κ 0, 800, .inl (fun _ => 0))), (f0, .inr (2, [.int 0, .int (-1), .int (-1), .int (-1), .int (-1), .int 0])), (r0, .inr (4, [.ref t0, .ref n1, .ref f0, .ref b0, .int 0, .int (-1), .ref r1, .int 0, .ref r2, .ref r3, .int 0, .null, .ref r4, .int 0])), (b0, .inr (0, [.ref b1, .int 0, .long 0])), (b1, .inl (κ 1, 0, .inl (fun _ => 0))), (r1, .inl (κ 1, 20, .inl (fun _ => 0))), (r2, .inl (κ 2, 8, .inr (.inr (.inr (.inr (fun _ => none)))))), (r3, .inl (κ 0, 8, .inl (fun _ => 0))), (r4, .inl (κ 2, 320, .inr (.inr (.inr (.inr (fun _ => none)))))), (w0, .inr (10, [.ref n1, .ref w1, .int 0])), (w1, .inl (κ 1, 6000, .inl (fun _ => 0))), (k0, .inr (6, [.ref k1, .ref k2, .ref k3, .ref k4, .ref k5, .int 0])), (k1, .inl (κ 0, 6, .inl dial0)), (k2, .inl (κ 4, 3, .inr (.inr (.inr (.inr (fun _ => none)))))), (k3, .inl (κ 5, 3, .inr (.inr (.inr (.inr (fun _ => none)))))), (k4, .inl (κ 0, 6, .inl (fun _ => 0))), (k5, .inl (κ 4, 6, .inr (.inr (.inr (.inr (fun _ => none)))))), (m0, .inr (12, [.ref a0, .ref a1, .ref a2, .int 0, .int 0, .ref a5, .int 0, .int 0, .int (-1), .int (-1), .int 0, .int 0, .int 0, .int 0, .ref a14, .ref a15, .ref a16, .ref a17, .int 0, .int 0, .ref a20, .ref a21, .int 0, .ref a23, .ref a24, .ref a25, .int 0, .int 0, .ref a28, .int 0])), (a0, .inl (κ 0, 21375, .inl wf0)), (a1, .inl (κ 0, 21375, .inl (fun _ => 0))), (a2, .inl (κ 0, 128214, .inl (fun _ => 0))), (a5, .inl (κ 0, 800, .inl (fun _ => 0))), (a14, .inl (κ 0, 189, .inl (fun _ => 0))), (a15, .inl (κ 0, 9, .inl (fun _ => 0))), (a16, .inl (κ 0, 9, .inl (fun _ => 0))), (a17, .inl (κ 0, 7123, .inl (fun _ => 0))), (a20, .inl (κ 0, 801, .inl (fun _ => 0))), (a21, .inl (κ 0, 40, .inl (fun _ => 0))), (a23, .inl (κ 0, 40, .inl (fun _ => 0))), (a24, .inl (κ 0, 40, .inl (fun _ => 0))), (a25, .inl (κ 0, 6000, .inl (fun _ => 0))), (a28, .inl (κ 0, 400, .inl (fun _ => 0)))] H) (hD : va_D A [(x0, .inr (11, [.ref n0, .ref t0, .ref f0, .ref r0, .ref w0, .ref k0, .int 0])), (n0, .inr (6, [.ref n1, .ref n2, .ref n3, .ref n4, .ref n5, .int 0])), (n1, .inl (κ 0, 6, .inl dial0)), (n2, .inl (κ 4, 3, .inr (.inr (.inr (.inr (fun _ => none)))))), (n3, .inl (κ 5, 3, .inr (.inr (.inr (.inr (fun _ => none)))))), (n4, .inl (κ 0, 6, .inl (fun _ => 0))), (n5, .inl (κ 4, 6, .inr (.inr (.inr (.inr (fun _ => none)))))), (t0, .inr (8, [.ref t1, .int 0])), (t1, .inl (κ 0, 800, .inl (fun _ => 0))), (f0, .inr (2, [.int 0, .int (-1), .int (-1), .int (-1), .int (-1), .int 0])), (r0, .inr (4, [.ref t0, .ref n1, .ref f0, .ref b0, .int 0, .int (-1), .ref r1, .int 0, .ref r2, .ref r3, .int 0, .null, .ref r4, .int 0])), (b0, .inr (0, [.ref b1, .int 0, .long 0])), (b1, .inl (κ 1, 0, .inl (fun _ => 0))), (r1, .inl (κ 1, 20, .inl (fun _ => 0))), (r2, .inl (κ 2, 8, .inr (.inr (.inr (.inr (fun _ => none)))))), (r3, .inl (κ 0, 8, .inl (fun _ => 0))), (r4, .inl (κ 2, 320, .inr (.inr (.inr (.inr (fun _ => none)))))), (w0, .inr (10, [.ref n1, .ref w1, .int 0])), (w1, .inl (κ 1, 6000, .inl (fun _ => 0))), (k0, .inr (6, [.ref k1, .ref k2, .ref k3, .ref k4, .ref k5, .int 0])), (k1, .inl (κ 0, 6, .inl dial0)), (k2, .inl (κ 4, 3, .inr (.inr (.inr (.inr (fun _ => none)))))), (k3, .inl (κ 5, 3, .inr (.inr (.inr (.inr (fun _ => none)))))), (k4, .inl (κ 0, 6, .inl (fun _ => 0))), (k5, .inl (κ 4, 6, .inr (.inr (.inr (.inr (fun _ => none)))))), (m0, .inr (12, [.ref a0, .ref a1, .ref a2, .int 0, .int 0, .ref a5, .int 0, .int 0, .int (-1), .int (-1), .int 0, .int 0, .int 0, .int 0, .ref a14, .ref a15, .ref a16, .ref a17, .int 0, .int 0, .ref a20, .ref a21, .int 0, .ref a23, .ref a24, .ref a25, .int 0, .int 0, .ref a28, .int 0])), (a0, .inl (κ 0, 21375, .inl wf0)), (a1, .inl (κ 0, 21375, .inl (fun _ => 0))), (a2, .inl (κ 0, 128214, .inl (fun _ => 0))), (a5, .inl (κ 0, 800, .inl (fun _ => 0))), (a14, .inl (κ 0, 189, .inl (fun _ => 0))), (a15, .inl (κ 0, 9, .inl (fun _ => 0))), (a16, .inl (κ 0, 9, .inl (fun _ => 0))), (a17, .inl (κ 0, 7123, .inl (fun _ => 0))), (a20, .inl (κ 0, 801, .inl (fun _ => 0))), (a21, .inl (κ 0, 40, .inl (fun _ => 0))), (a23, .inl (κ 0, 40, .inl (fun _ => 0))), (a24, .inl (κ 0, 40, .inl (fun _ => 0))), (a25, .inl (κ 0, 6000, .inl (fun _ => 0))), (a28, .inl (κ 0, 400, .inl (fun _ => 0)))]) (hS : va_S A s.heap H locs) (hl : lv_has ls 4 [(3, .int 0), (2, .ref m0), (1, .ref x0), (0, .ref b)]) : W p l e room_1 s m #[Value.ref b] below meth c H locs 40 193696 (lw_Z below #[Value.ref b] s) (F0 m 1320 ls []) := by
  obtain ⟨hx, hb, hr, hml, hown, hts0, hX, hbl, hlk, hgv⟩ := id C0
  have hb : c.code = cL_law := hb
  have hts : ∀ w ∈ wsL_law, w.before #[Value.ref b] s = true := fun w h => hts0 w (wsL_law_in w h)
  have hown : s.vm.findClass RL = some m.cls := hown
  have hK : va_K D vwCl (T0 κ) s := hKK.1
  have hbA : ¬ A b := fun h => absurd (hAq b h) (Nat.not_le.mpr hbl)
  have hFX : FX p s m #[Value.ref b] c cL_law 4 RL := ⟨hx, hb, hml, hown, hts⟩
  refine lv_aload_n hx hb dL_law_1320 rfl (lv_at hl 2 rfl) ?_
  refine lv_aload_n hx hb dL_law_1321 rfl (lv_at hl 3 rfl) ?_
  refine lv_iload_n hx hb dL_law_1322 rfl (lv_at hl 0 rfl) ?_
  refine lv_iconst (v := 1) hx hb dL_law_1323 (by decide) ?_
  refine lv_iadd hx hb dL_law_1324 ?_
  refine ki (v := 1) (by decide) ?_
  refine va_sld hx hb hX hbl hbA hS (i := 1) (vp_k (by decide)) dL_law_1325 ?_
  refine kv (v := .int (xs 1)) rfl ?_
  refine lv_aload_n hx hb dL_law_1326 rfl (lv_at hl 3 rfl) ?_
  refine lv_iload_n hx hb dL_law_1327 rfl (lv_at hl 0 rfl) ?_
  refine lv_iconst (v := 2) hx hb dL_law_1328 (by decide) ?_
  refine lv_iadd hx hb dL_law_1329 ?_
  refine ki (v := 2) (by decide) ?_
  refine va_sld hx hb hX hbl hbA hS (i := 2) (vp_k (by decide)) dL_law_1330 ?_
  refine kv (v := .int (xs 2)) rfl ?_
  refine lv_aload_n hx hb dL_law_1331 rfl (lv_at hl 3 rfl) ?_
  refine lv_iload_n hx hb dL_law_1332 rfl (lv_at hl 0 rfl) ?_
  refine lv_iconst (v := 3) hx hb dL_law_1333 (by decide) ?_
  refine lv_iadd hx hb dL_law_1334 ?_
  refine ki (v := 3) (by decide) ?_
  refine va_sld hx hb hX hbl hbA hS (i := 3) (vp_k (by decide)) dL_law_1335 ?_
  refine kv (v := .int (xs 3)) rfl ?_
  refine cr_V (As := [.int (xs 1), .int (xs 2), .int (xs 3)]) (rest := []) hFX hKK (c_X11_over l D κ x0 n0 t0 f0 r0 w0 k0 n1 n2 n3 n4 n5 (xs 1) (xs 2) (xs 3)) 3 gV_L_140 hdV_X11_over rfl rfl ⟨Nat.le_of_ble_eq_true rfl, Nat.le_of_ble_eq_true rfl⟩ rfl rfl (Nat.le_of_ble_eq_true rfl) dL_law_1336 ⟨Nat.le_of_ble_eq_true rfl, Nat.le_of_ble_eq_true rfl⟩ hl.1 hP 0 11 rfl rfl rfl (hP.sub [0, 1, 3, 4] rfl) (fun _ hp_1 => ?_)
  refine W.eq (g2 := F0 m 1339 ls [.long (-100000000000000)]) rfl ?_
  refine lv_aload_n hx hb dL_law_1339 rfl (lv_at hl 1 rfl) ?_
  refine lv_aload_n hx hb dL_law_1340 rfl (lv_at hl 3 rfl) ?_
  refine lv_iload_n hx hb dL_law_1341 rfl (lv_at hl 0 rfl) ?_
  refine lv_iconst (v := 1) hx hb dL_law_1342 (by decide) ?_
  refine lv_iadd hx hb dL_law_1343 ?_
  refine ki (v := 1) (by decide) ?_
  refine va_sld hx hb hX hbl hbA hS (i := 1) (vp_k (by decide)) dL_law_1344 ?_
  refine kv (v := .int (xs 1)) rfl ?_
  refine lv_aload_n hx hb dL_law_1345 rfl (lv_at hl 3 rfl) ?_
  refine lv_iload_n hx hb dL_law_1346 rfl (lv_at hl 0 rfl) ?_
  refine lv_iconst (v := 2) hx hb dL_law_1347 (by decide) ?_
  refine lv_iadd hx hb dL_law_1348 ?_
  refine ki (v := 2) (by decide) ?_
  refine va_sld hx hb hX hbl hbA hS (i := 2) (vp_k (by decide)) dL_law_1349 ?_
  refine kv (v := .int (xs 2)) rfl ?_
  refine lv_aload_n hx hb dL_law_1350 rfl (lv_at hl 3 rfl) ?_
  refine lv_iload_n hx hb dL_law_1351 rfl (lv_at hl 0 rfl) ?_
  refine lv_iconst (v := 3) hx hb dL_law_1352 (by decide) ?_
  refine lv_iadd hx hb dL_law_1353 ?_
  refine ki (v := 3) (by decide) ?_
  refine va_sld hx hb hX hbl hbA hS (i := 3) (vp_k (by decide)) dL_law_1354 ?_
  refine kv (v := .int (xs 3)) rfl ?_
  refine cr_V (As := [.int (xs 1), .int (xs 2), .int (xs 3)]) (rest := [.long (-100000000000000)]) hFX hKK (c_X12_over l D κ m0 a0 a1 a2 a5 a14 a15 a16 a17 a20 a21 a23 a24 a25 a28 (xs 1) (xs 2) (xs 3)) 3 gV_L_143 hdV_X12_over rfl rfl ⟨Nat.le_of_ble_eq_true rfl, Nat.le_of_ble_eq_true rfl⟩ rfl rfl (Nat.le_of_ble_eq_true rfl) dL_law_1355 ⟨Nat.le_of_ble_eq_true rfl, Nat.le_of_ble_eq_true rfl⟩ hl.1 hP 25 12 rfl rfl rfl (hP.sub [25, 26] rfl) (fun _ hp_2 => ?_)
  refine W.eq (g2 := F0 m 1358 ls [.long (-100000000000000), .long (-100000000000000)]) rfl ?_
  refine W.lcmp hx hb dL_law_1358 ?_
  refine ki (v := 0) (by decide) ?_
  refine lv_if_eq (tgt := 1622) hx hb dL_law_1359 (by decide) (fun c_3 => ?_) (fun c_3 => absurd (by decide) c_3)
  exact law_tail C0 hA hAq hS hl (Nat.le_of_ble_eq_true rfl) (Nat.le_of_ble_eq_true rfl)
set_option maxHeartbeats 4000000 in
set_option maxRecDepth 100000 in
theorem law_case_30 {p : Program} {l : Launch} {e : Env} {s : State} {m : MethodId} {below : List Frame} {meth : Method} {c : Code} {D : va_G} {κ : Nat → ClassId} {b : Nat} {xs : Nat → Int32} (C0 : lw_At p s m meth c b 6 xs) (hKK : KK D κ s) {A : Nat → Prop} (hA : ∀ q : Nat, s.heap.size ≤ q → A q) (hAq : ∀ q : Nat, A q → s.heap.size ≤ q) (x0 n0 t0 f0 r0 w0 k0 n1 n2 n3 n4 n5 t1 b0 r1 r2 r3 r4 b1 w1 k1 k2 k3 k4 k5 m0 a0 a1 a2 a5 a14 a15 a16 a17 a20 a21 a23 a24 a25 a28 : Nat) {H : Heap} {locs : List Loc} {ls : Array Slot} (hP : va_P D vwCl [(x0, .inr (11, [.ref n0, .ref t0, .ref f0, .ref r0, .ref w0, .ref k0, .int 0])), (n0, .inr (6, [.ref n1, .ref n2, .ref n3, .ref n4, .ref n5, .int 0])), (n1, .inl (κ 0, 6, .inl dial0)), (n2, .inl (κ 4, 3, .inr (.inr (.inr (.inr (fun _ => none)))))), (n3, .inl (κ 5, 3, .inr (.inr (.inr (.inr (fun _ => none)))))), (n4, .inl (κ 0, 6, .inl (fun _ => 0))), (n5, .inl (κ 4, 6, .inr (.inr (.inr (.inr (fun _ => none)))))), (t0, .inr (8, [.ref t1, .int 0])), (t1, .inl (κ 0, 800, .inl (fun _ => 0))), (f0, .inr (2, [.int 0, .int (-1), .int (-1), .int (-1), .int (-1), .int 0])), (r0, .inr (4, [.ref t0, .ref n1, .ref f0, .ref b0, .int 0, .int (-1), .ref r1, .int 0, .ref r2, .ref r3, .int 0, .null, .ref r4, .int 0])), (b0, .inr (0, [.ref b1, .int 0, .long 0])), (b1, .inl (κ 1, 0, .inl (fun _ => 0))), (r1, .inl (κ 1, 20, .inl (fun _ => 0))), (r2, .inl (κ 2, 8, .inr (.inr (.inr (.inr (fun _ => none)))))), (r3, .inl (κ 0, 8, .inl (fun _ => 0))), (r4, .inl (κ 2, 320, .inr (.inr (.inr (.inr (fun _ => none)))))), (w0, .inr (10, [.ref n1, .ref w1, .int 0])), (w1, .inl (κ 1, 6000, .inl (fun _ => 0))), (k0, .inr (6, [.ref k1, .ref k2, .ref k3, .ref k4, .ref k5, .int 0])), (k1, .inl (κ 0, 6, .inl dial0)), (k2, .inl (κ 4, 3, .inr (.inr (.inr (.inr (fun _ => none)))))), (k3, .inl (κ 5, 3, .inr (.inr (.inr (.inr (fun _ => none)))))), (k4, .inl (κ 0, 6, .inl (fun _ => 0))), (k5, .inl (κ 4, 6, .inr (.inr (.inr (.inr (fun _ => none)))))), (m0, .inr (12, [.ref a0, .ref a1, .ref a2, .int 0, .int 0, .ref a5, .int 0, .int 0, .int (-1), .int (-1), .int 0, .int 0, .int 0, .int 0, .ref a14, .ref a15, .ref a16, .ref a17, .int 0, .int 0, .ref a20, .ref a21, .int 0, .ref a23, .ref a24, .ref a25, .int 0, .int 0, .ref a28, .int 0])), (a0, .inl (κ 0, 21375, .inl wf0)), (a1, .inl (κ 0, 21375, .inl (fun _ => 0))), (a2, .inl (κ 0, 128214, .inl (fun _ => 0))), (a5, .inl (κ 0, 800, .inl (fun _ => 0))), (a14, .inl (κ 0, 189, .inl (fun _ => 0))), (a15, .inl (κ 0, 9, .inl (fun _ => 0))), (a16, .inl (κ 0, 9, .inl (fun _ => 0))), (a17, .inl (κ 0, 7123, .inl (fun _ => 0))), (a20, .inl (κ 0, 801, .inl (fun _ => 0))), (a21, .inl (κ 0, 40, .inl (fun _ => 0))), (a23, .inl (κ 0, 40, .inl (fun _ => 0))), (a24, .inl (κ 0, 40, .inl (fun _ => 0))), (a25, .inl (κ 0, 6000, .inl (fun _ => 0))), (a28, .inl (κ 0, 400, .inl (fun _ => 0)))] H) (hD : va_D A [(x0, .inr (11, [.ref n0, .ref t0, .ref f0, .ref r0, .ref w0, .ref k0, .int 0])), (n0, .inr (6, [.ref n1, .ref n2, .ref n3, .ref n4, .ref n5, .int 0])), (n1, .inl (κ 0, 6, .inl dial0)), (n2, .inl (κ 4, 3, .inr (.inr (.inr (.inr (fun _ => none)))))), (n3, .inl (κ 5, 3, .inr (.inr (.inr (.inr (fun _ => none)))))), (n4, .inl (κ 0, 6, .inl (fun _ => 0))), (n5, .inl (κ 4, 6, .inr (.inr (.inr (.inr (fun _ => none)))))), (t0, .inr (8, [.ref t1, .int 0])), (t1, .inl (κ 0, 800, .inl (fun _ => 0))), (f0, .inr (2, [.int 0, .int (-1), .int (-1), .int (-1), .int (-1), .int 0])), (r0, .inr (4, [.ref t0, .ref n1, .ref f0, .ref b0, .int 0, .int (-1), .ref r1, .int 0, .ref r2, .ref r3, .int 0, .null, .ref r4, .int 0])), (b0, .inr (0, [.ref b1, .int 0, .long 0])), (b1, .inl (κ 1, 0, .inl (fun _ => 0))), (r1, .inl (κ 1, 20, .inl (fun _ => 0))), (r2, .inl (κ 2, 8, .inr (.inr (.inr (.inr (fun _ => none)))))), (r3, .inl (κ 0, 8, .inl (fun _ => 0))), (r4, .inl (κ 2, 320, .inr (.inr (.inr (.inr (fun _ => none)))))), (w0, .inr (10, [.ref n1, .ref w1, .int 0])), (w1, .inl (κ 1, 6000, .inl (fun _ => 0))), (k0, .inr (6, [.ref k1, .ref k2, .ref k3, .ref k4, .ref k5, .int 0])), (k1, .inl (κ 0, 6, .inl dial0)), (k2, .inl (κ 4, 3, .inr (.inr (.inr (.inr (fun _ => none)))))), (k3, .inl (κ 5, 3, .inr (.inr (.inr (.inr (fun _ => none)))))), (k4, .inl (κ 0, 6, .inl (fun _ => 0))), (k5, .inl (κ 4, 6, .inr (.inr (.inr (.inr (fun _ => none)))))), (m0, .inr (12, [.ref a0, .ref a1, .ref a2, .int 0, .int 0, .ref a5, .int 0, .int 0, .int (-1), .int (-1), .int 0, .int 0, .int 0, .int 0, .ref a14, .ref a15, .ref a16, .ref a17, .int 0, .int 0, .ref a20, .ref a21, .int 0, .ref a23, .ref a24, .ref a25, .int 0, .int 0, .ref a28, .int 0])), (a0, .inl (κ 0, 21375, .inl wf0)), (a1, .inl (κ 0, 21375, .inl (fun _ => 0))), (a2, .inl (κ 0, 128214, .inl (fun _ => 0))), (a5, .inl (κ 0, 800, .inl (fun _ => 0))), (a14, .inl (κ 0, 189, .inl (fun _ => 0))), (a15, .inl (κ 0, 9, .inl (fun _ => 0))), (a16, .inl (κ 0, 9, .inl (fun _ => 0))), (a17, .inl (κ 0, 7123, .inl (fun _ => 0))), (a20, .inl (κ 0, 801, .inl (fun _ => 0))), (a21, .inl (κ 0, 40, .inl (fun _ => 0))), (a23, .inl (κ 0, 40, .inl (fun _ => 0))), (a24, .inl (κ 0, 40, .inl (fun _ => 0))), (a25, .inl (κ 0, 6000, .inl (fun _ => 0))), (a28, .inl (κ 0, 400, .inl (fun _ => 0)))]) (hS : va_S A s.heap H locs) (hl : lv_has ls 4 [(3, .int 0), (2, .ref m0), (1, .ref x0), (0, .ref b)]) : W p l e room_1 s m #[Value.ref b] below meth c H locs 40 193696 (lw_Z below #[Value.ref b] s) (F0 m 1364 ls []) := by
  obtain ⟨hx, hb, hr, hml, hown, hts0, hX, hbl, hlk, hgv⟩ := id C0
  have hb : c.code = cL_law := hb
  have hts : ∀ w ∈ wsL_law, w.before #[Value.ref b] s = true := fun w h => hts0 w (wsL_law_in w h)
  have hown : s.vm.findClass RL = some m.cls := hown
  have hK : va_K D vwCl (T0 κ) s := hKK.1
  have hbA : ¬ A b := fun h => absurd (hAq b h) (Nat.not_le.mpr hbl)
  have hFX : FX p s m #[Value.ref b] c cL_law 4 RL := ⟨hx, hb, hml, hown, hts⟩
  refine lv_aload_n hx hb dL_law_1364 rfl (lv_at hl 2 rfl) ?_
  refine lv_aload_n hx hb dL_law_1365 rfl (lv_at hl 3 rfl) ?_
  refine lv_iload_n hx hb dL_law_1366 rfl (lv_at hl 0 rfl) ?_
  refine lv_iconst (v := 1) hx hb dL_law_1367 (by decide) ?_
  refine lv_iadd hx hb dL_law_1368 ?_
  refine ki (v := 1) (by decide) ?_
  refine va_sld hx hb hX hbl hbA hS (i := 1) (vp_k (by decide)) dL_law_1369 ?_
  refine kv (v := .int (xs 1)) rfl ?_
  refine lv_aload_n hx hb dL_law_1370 rfl (lv_at hl 3 rfl) ?_
  refine lv_iload_n hx hb dL_law_1371 rfl (lv_at hl 0 rfl) ?_
  refine lv_iconst (v := 2) hx hb dL_law_1372 (by decide) ?_
  refine lv_iadd hx hb dL_law_1373 ?_
  refine ki (v := 2) (by decide) ?_
  refine va_sld hx hb hX hbl hbA hS (i := 2) (vp_k (by decide)) dL_law_1374 ?_
  refine kv (v := .int (xs 2)) rfl ?_
  refine lv_aload_n hx hb dL_law_1375 rfl (lv_at hl 3 rfl) ?_
  refine lv_iload_n hx hb dL_law_1376 rfl (lv_at hl 0 rfl) ?_
  refine lv_iconst (v := 3) hx hb dL_law_1377 (by decide) ?_
  refine lv_iadd hx hb dL_law_1378 ?_
  refine ki (v := 3) (by decide) ?_
  refine va_sld hx hb hX hbl hbA hS (i := 3) (vp_k (by decide)) dL_law_1379 ?_
  refine kv (v := .int (xs 3)) rfl ?_
  refine lv_aload_n hx hb dL_law_1380 rfl (lv_at hl 3 rfl) ?_
  refine lv_iload_n hx hb dL_law_1381 rfl (lv_at hl 0 rfl) ?_
  refine lv_iconst (v := 4) hx hb dL_law_1382 (by decide) ?_
  refine lv_iadd hx hb dL_law_1383 ?_
  refine ki (v := 4) (by decide) ?_
  refine va_sld hx hb hX hbl hbA hS (i := 4) (vp_k (by decide)) dL_law_1384 ?_
  refine kv (v := .int (xs 4)) rfl ?_
  refine lv_aload_n hx hb dL_law_1385 rfl (lv_at hl 3 rfl) ?_
  refine lv_iload_n hx hb dL_law_1386 rfl (lv_at hl 0 rfl) ?_
  refine lv_iconst (v := 5) hx hb dL_law_1387 (by decide) ?_
  refine lv_iadd hx hb dL_law_1388 ?_
  refine ki (v := 5) (by decide) ?_
  refine va_sld hx hb hX hbl hbA hS (i := 5) (vp_k (by decide)) dL_law_1389 ?_
  refine kv (v := .int (xs 5)) rfl ?_
  refine cr_V (As := [.int (xs 1), .int (xs 2), .int (xs 3), .int (xs 4), .int (xs 5)]) (rest := []) hFX hKK (c_X11_group l D κ x0 n0 t0 f0 r0 w0 k0 n1 n2 n3 n4 n5 (xs 1) (xs 2) (xs 3) (xs 4) (xs 5)) 5 gV_L_144 hdV_X11_group rfl rfl ⟨Nat.le_of_ble_eq_true rfl, Nat.le_of_ble_eq_true rfl⟩ rfl rfl (Nat.le_of_ble_eq_true rfl) dL_law_1390 ⟨Nat.le_of_ble_eq_true rfl, Nat.le_of_ble_eq_true rfl⟩ hl.1 hP 0 11 rfl rfl rfl (hP.sub [0, 1, 3, 4] rfl) (fun _ hp_1 => ?_)
  refine W.eq (g2 := F0 m 1393 ls [.long (-100000000000000)]) rfl ?_
  refine lv_aload_n hx hb dL_law_1393 rfl (lv_at hl 1 rfl) ?_
  refine lv_aload_n hx hb dL_law_1394 rfl (lv_at hl 3 rfl) ?_
  refine lv_iload_n hx hb dL_law_1395 rfl (lv_at hl 0 rfl) ?_
  refine lv_iconst (v := 1) hx hb dL_law_1396 (by decide) ?_
  refine lv_iadd hx hb dL_law_1397 ?_
  refine ki (v := 1) (by decide) ?_
  refine va_sld hx hb hX hbl hbA hS (i := 1) (vp_k (by decide)) dL_law_1398 ?_
  refine kv (v := .int (xs 1)) rfl ?_
  refine lv_aload_n hx hb dL_law_1399 rfl (lv_at hl 3 rfl) ?_
  refine lv_iload_n hx hb dL_law_1400 rfl (lv_at hl 0 rfl) ?_
  refine lv_iconst (v := 2) hx hb dL_law_1401 (by decide) ?_
  refine lv_iadd hx hb dL_law_1402 ?_
  refine ki (v := 2) (by decide) ?_
  refine va_sld hx hb hX hbl hbA hS (i := 2) (vp_k (by decide)) dL_law_1403 ?_
  refine kv (v := .int (xs 2)) rfl ?_
  refine lv_aload_n hx hb dL_law_1404 rfl (lv_at hl 3 rfl) ?_
  refine lv_iload_n hx hb dL_law_1405 rfl (lv_at hl 0 rfl) ?_
  refine lv_iconst (v := 3) hx hb dL_law_1406 (by decide) ?_
  refine lv_iadd hx hb dL_law_1407 ?_
  refine ki (v := 3) (by decide) ?_
  refine va_sld hx hb hX hbl hbA hS (i := 3) (vp_k (by decide)) dL_law_1408 ?_
  refine kv (v := .int (xs 3)) rfl ?_
  refine lv_aload_n hx hb dL_law_1409 rfl (lv_at hl 3 rfl) ?_
  refine lv_iload_n hx hb dL_law_1410 rfl (lv_at hl 0 rfl) ?_
  refine lv_iconst (v := 4) hx hb dL_law_1411 (by decide) ?_
  refine lv_iadd hx hb dL_law_1412 ?_
  refine ki (v := 4) (by decide) ?_
  refine va_sld hx hb hX hbl hbA hS (i := 4) (vp_k (by decide)) dL_law_1413 ?_
  refine kv (v := .int (xs 4)) rfl ?_
  refine lv_aload_n hx hb dL_law_1414 rfl (lv_at hl 3 rfl) ?_
  refine lv_iload_n hx hb dL_law_1415 rfl (lv_at hl 0 rfl) ?_
  refine lv_iconst (v := 5) hx hb dL_law_1416 (by decide) ?_
  refine lv_iadd hx hb dL_law_1417 ?_
  refine ki (v := 5) (by decide) ?_
  refine va_sld hx hb hX hbl hbA hS (i := 5) (vp_k (by decide)) dL_law_1418 ?_
  refine kv (v := .int (xs 5)) rfl ?_
  refine cr_V (As := [.int (xs 1), .int (xs 2), .int (xs 3), .int (xs 4), .int (xs 5)]) (rest := [.long (-100000000000000)]) hFX hKK (c_X12_group l D κ m0 a0 a1 a2 a5 a14 a15 a16 a17 a20 a21 a23 a24 a25 a28 (xs 1) (xs 2) (xs 3) (xs 4) (xs 5)) 5 gV_L_148 hdV_X12_group rfl rfl ⟨Nat.le_of_ble_eq_true rfl, Nat.le_of_ble_eq_true rfl⟩ rfl rfl (Nat.le_of_ble_eq_true rfl) dL_law_1419 ⟨Nat.le_of_ble_eq_true rfl, Nat.le_of_ble_eq_true rfl⟩ hl.1 hP 25 12 rfl rfl rfl (hP.sub [25, 26] rfl) (fun _ hp_2 => ?_)
  refine W.eq (g2 := F0 m 1422 ls [.long (-100000000000000), .long (-100000000000000)]) rfl ?_
  refine W.lcmp hx hb dL_law_1422 ?_
  refine ki (v := 0) (by decide) ?_
  refine lv_if_eq (tgt := 1622) hx hb dL_law_1423 (by decide) (fun c_3 => ?_) (fun c_3 => absurd (by decide) c_3)
  exact law_tail C0 hA hAq hS hl (Nat.le_of_ble_eq_true rfl) (Nat.le_of_ble_eq_true rfl)
set_option maxHeartbeats 4000000 in
set_option maxRecDepth 100000 in
theorem law_case_31 {p : Program} {l : Launch} {e : Env} {s : State} {m : MethodId} {below : List Frame} {meth : Method} {c : Code} {D : va_G} {κ : Nat → ClassId} {b : Nat} {xs : Nat → Int32} (C0 : lw_At p s m meth c b 6 xs) (hKK : KK D κ s) {A : Nat → Prop} (hA : ∀ q : Nat, s.heap.size ≤ q → A q) (hAq : ∀ q : Nat, A q → s.heap.size ≤ q) (x0 n0 t0 f0 r0 w0 k0 n1 n2 n3 n4 n5 t1 b0 r1 r2 r3 r4 b1 w1 k1 k2 k3 k4 k5 m0 a0 a1 a2 a5 a14 a15 a16 a17 a20 a21 a23 a24 a25 a28 : Nat) {H : Heap} {locs : List Loc} {ls : Array Slot} (hP : va_P D vwCl [(x0, .inr (11, [.ref n0, .ref t0, .ref f0, .ref r0, .ref w0, .ref k0, .int 0])), (n0, .inr (6, [.ref n1, .ref n2, .ref n3, .ref n4, .ref n5, .int 0])), (n1, .inl (κ 0, 6, .inl dial0)), (n2, .inl (κ 4, 3, .inr (.inr (.inr (.inr (fun _ => none)))))), (n3, .inl (κ 5, 3, .inr (.inr (.inr (.inr (fun _ => none)))))), (n4, .inl (κ 0, 6, .inl (fun _ => 0))), (n5, .inl (κ 4, 6, .inr (.inr (.inr (.inr (fun _ => none)))))), (t0, .inr (8, [.ref t1, .int 0])), (t1, .inl (κ 0, 800, .inl (fun _ => 0))), (f0, .inr (2, [.int 0, .int (-1), .int (-1), .int (-1), .int (-1), .int 0])), (r0, .inr (4, [.ref t0, .ref n1, .ref f0, .ref b0, .int 0, .int (-1), .ref r1, .int 0, .ref r2, .ref r3, .int 0, .null, .ref r4, .int 0])), (b0, .inr (0, [.ref b1, .int 0, .long 0])), (b1, .inl (κ 1, 0, .inl (fun _ => 0))), (r1, .inl (κ 1, 20, .inl (fun _ => 0))), (r2, .inl (κ 2, 8, .inr (.inr (.inr (.inr (fun _ => none)))))), (r3, .inl (κ 0, 8, .inl (fun _ => 0))), (r4, .inl (κ 2, 320, .inr (.inr (.inr (.inr (fun _ => none)))))), (w0, .inr (10, [.ref n1, .ref w1, .int 0])), (w1, .inl (κ 1, 6000, .inl (fun _ => 0))), (k0, .inr (6, [.ref k1, .ref k2, .ref k3, .ref k4, .ref k5, .int 0])), (k1, .inl (κ 0, 6, .inl dial0)), (k2, .inl (κ 4, 3, .inr (.inr (.inr (.inr (fun _ => none)))))), (k3, .inl (κ 5, 3, .inr (.inr (.inr (.inr (fun _ => none)))))), (k4, .inl (κ 0, 6, .inl (fun _ => 0))), (k5, .inl (κ 4, 6, .inr (.inr (.inr (.inr (fun _ => none)))))), (m0, .inr (12, [.ref a0, .ref a1, .ref a2, .int 0, .int 0, .ref a5, .int 0, .int 0, .int (-1), .int (-1), .int 0, .int 0, .int 0, .int 0, .ref a14, .ref a15, .ref a16, .ref a17, .int 0, .int 0, .ref a20, .ref a21, .int 0, .ref a23, .ref a24, .ref a25, .int 0, .int 0, .ref a28, .int 0])), (a0, .inl (κ 0, 21375, .inl wf0)), (a1, .inl (κ 0, 21375, .inl (fun _ => 0))), (a2, .inl (κ 0, 128214, .inl (fun _ => 0))), (a5, .inl (κ 0, 800, .inl (fun _ => 0))), (a14, .inl (κ 0, 189, .inl (fun _ => 0))), (a15, .inl (κ 0, 9, .inl (fun _ => 0))), (a16, .inl (κ 0, 9, .inl (fun _ => 0))), (a17, .inl (κ 0, 7123, .inl (fun _ => 0))), (a20, .inl (κ 0, 801, .inl (fun _ => 0))), (a21, .inl (κ 0, 40, .inl (fun _ => 0))), (a23, .inl (κ 0, 40, .inl (fun _ => 0))), (a24, .inl (κ 0, 40, .inl (fun _ => 0))), (a25, .inl (κ 0, 6000, .inl (fun _ => 0))), (a28, .inl (κ 0, 400, .inl (fun _ => 0)))] H) (hD : va_D A [(x0, .inr (11, [.ref n0, .ref t0, .ref f0, .ref r0, .ref w0, .ref k0, .int 0])), (n0, .inr (6, [.ref n1, .ref n2, .ref n3, .ref n4, .ref n5, .int 0])), (n1, .inl (κ 0, 6, .inl dial0)), (n2, .inl (κ 4, 3, .inr (.inr (.inr (.inr (fun _ => none)))))), (n3, .inl (κ 5, 3, .inr (.inr (.inr (.inr (fun _ => none)))))), (n4, .inl (κ 0, 6, .inl (fun _ => 0))), (n5, .inl (κ 4, 6, .inr (.inr (.inr (.inr (fun _ => none)))))), (t0, .inr (8, [.ref t1, .int 0])), (t1, .inl (κ 0, 800, .inl (fun _ => 0))), (f0, .inr (2, [.int 0, .int (-1), .int (-1), .int (-1), .int (-1), .int 0])), (r0, .inr (4, [.ref t0, .ref n1, .ref f0, .ref b0, .int 0, .int (-1), .ref r1, .int 0, .ref r2, .ref r3, .int 0, .null, .ref r4, .int 0])), (b0, .inr (0, [.ref b1, .int 0, .long 0])), (b1, .inl (κ 1, 0, .inl (fun _ => 0))), (r1, .inl (κ 1, 20, .inl (fun _ => 0))), (r2, .inl (κ 2, 8, .inr (.inr (.inr (.inr (fun _ => none)))))), (r3, .inl (κ 0, 8, .inl (fun _ => 0))), (r4, .inl (κ 2, 320, .inr (.inr (.inr (.inr (fun _ => none)))))), (w0, .inr (10, [.ref n1, .ref w1, .int 0])), (w1, .inl (κ 1, 6000, .inl (fun _ => 0))), (k0, .inr (6, [.ref k1, .ref k2, .ref k3, .ref k4, .ref k5, .int 0])), (k1, .inl (κ 0, 6, .inl dial0)), (k2, .inl (κ 4, 3, .inr (.inr (.inr (.inr (fun _ => none)))))), (k3, .inl (κ 5, 3, .inr (.inr (.inr (.inr (fun _ => none)))))), (k4, .inl (κ 0, 6, .inl (fun _ => 0))), (k5, .inl (κ 4, 6, .inr (.inr (.inr (.inr (fun _ => none)))))), (m0, .inr (12, [.ref a0, .ref a1, .ref a2, .int 0, .int 0, .ref a5, .int 0, .int 0, .int (-1), .int (-1), .int 0, .int 0, .int 0, .int 0, .ref a14, .ref a15, .ref a16, .ref a17, .int 0, .int 0, .ref a20, .ref a21, .int 0, .ref a23, .ref a24, .ref a25, .int 0, .int 0, .ref a28, .int 0])), (a0, .inl (κ 0, 21375, .inl wf0)), (a1, .inl (κ 0, 21375, .inl (fun _ => 0))), (a2, .inl (κ 0, 128214, .inl (fun _ => 0))), (a5, .inl (κ 0, 800, .inl (fun _ => 0))), (a14, .inl (κ 0, 189, .inl (fun _ => 0))), (a15, .inl (κ 0, 9, .inl (fun _ => 0))), (a16, .inl (κ 0, 9, .inl (fun _ => 0))), (a17, .inl (κ 0, 7123, .inl (fun _ => 0))), (a20, .inl (κ 0, 801, .inl (fun _ => 0))), (a21, .inl (κ 0, 40, .inl (fun _ => 0))), (a23, .inl (κ 0, 40, .inl (fun _ => 0))), (a24, .inl (κ 0, 40, .inl (fun _ => 0))), (a25, .inl (κ 0, 6000, .inl (fun _ => 0))), (a28, .inl (κ 0, 400, .inl (fun _ => 0)))]) (hS : va_S A s.heap H locs) (hl : lv_has ls 4 [(3, .int 0), (2, .ref m0), (1, .ref x0), (0, .ref b)]) : W p l e room_1 s m #[Value.ref b] below meth c H locs 40 193696 (lw_Z below #[Value.ref b] s) (F0 m 1428 ls []) := by
  obtain ⟨hx, hb, hr, hml, hown, hts0, hX, hbl, hlk, hgv⟩ := id C0
  have hb : c.code = cL_law := hb
  have hts : ∀ w ∈ wsL_law, w.before #[Value.ref b] s = true := fun w h => hts0 w (wsL_law_in w h)
  have hown : s.vm.findClass RL = some m.cls := hown
  have hK : va_K D vwCl (T0 κ) s := hKK.1
  have hbA : ¬ A b := fun h => absurd (hAq b h) (Nat.not_le.mpr hbl)
  have hFX : FX p s m #[Value.ref b] c cL_law 4 RL := ⟨hx, hb, hml, hown, hts⟩
  refine lv_aload_n hx hb dL_law_1428 rfl (lv_at hl 2 rfl) ?_
  refine lv_aload_n hx hb dL_law_1429 rfl (lv_at hl 3 rfl) ?_
  refine lv_iload_n hx hb dL_law_1430 rfl (lv_at hl 0 rfl) ?_
  refine lv_iconst (v := 1) hx hb dL_law_1431 (by decide) ?_
  refine lv_iadd hx hb dL_law_1432 ?_
  refine ki (v := 1) (by decide) ?_
  refine va_sld hx hb hX hbl hbA hS (i := 1) (vp_k (by decide)) dL_law_1433 ?_
  refine kv (v := .int (xs 1)) rfl ?_
  refine lv_aload_n hx hb dL_law_1434 rfl (lv_at hl 3 rfl) ?_
  refine lv_iload_n hx hb dL_law_1435 rfl (lv_at hl 0 rfl) ?_
  refine lv_iconst (v := 2) hx hb dL_law_1436 (by decide) ?_
  refine lv_iadd hx hb dL_law_1437 ?_
  refine ki (v := 2) (by decide) ?_
  refine va_sld hx hb hX hbl hbA hS (i := 2) (vp_k (by decide)) dL_law_1438 ?_
  refine kv (v := .int (xs 2)) rfl ?_
  refine lv_aload_n hx hb dL_law_1439 rfl (lv_at hl 3 rfl) ?_
  refine lv_iload_n hx hb dL_law_1440 rfl (lv_at hl 0 rfl) ?_
  refine lv_iconst (v := 3) hx hb dL_law_1441 (by decide) ?_
  refine lv_iadd hx hb dL_law_1442 ?_
  refine ki (v := 3) (by decide) ?_
  refine va_sld hx hb hX hbl hbA hS (i := 3) (vp_k (by decide)) dL_law_1443 ?_
  refine kv (v := .int (xs 3)) rfl ?_
  refine lv_aload_n hx hb dL_law_1444 rfl (lv_at hl 3 rfl) ?_
  refine lv_iload_n hx hb dL_law_1445 rfl (lv_at hl 0 rfl) ?_
  refine lv_iconst (v := 4) hx hb dL_law_1446 (by decide) ?_
  refine lv_iadd hx hb dL_law_1447 ?_
  refine ki (v := 4) (by decide) ?_
  refine va_sld hx hb hX hbl hbA hS (i := 4) (vp_k (by decide)) dL_law_1448 ?_
  refine kv (v := .int (xs 4)) rfl ?_
  refine cr_V (As := [.int (xs 1), .int (xs 2), .int (xs 3), .int (xs 4)]) (rest := []) hFX hKK (c_X11_matches l D κ x0 n0 t0 f0 r0 w0 k0 n1 n2 n3 n4 n5 (xs 1) (xs 2) (xs 3) (xs 4)) 4 gV_L_149 hdV_X11_matches rfl rfl ⟨Nat.le_of_ble_eq_true rfl, Nat.le_of_ble_eq_true rfl⟩ rfl rfl (Nat.le_of_ble_eq_true rfl) dL_law_1449 ⟨Nat.le_of_ble_eq_true rfl, Nat.le_of_ble_eq_true rfl⟩ hl.1 hP 0 11 rfl rfl rfl (hP.sub [0, 1, 3, 4] rfl) (fun _ hp_1 => ?_)
  refine W.eq (g2 := F0 m 1452 ls [.int (-1)]) rfl ?_
  refine lv_aload_n hx hb dL_law_1452 rfl (lv_at hl 1 rfl) ?_
  refine lv_aload_n hx hb dL_law_1453 rfl (lv_at hl 3 rfl) ?_
  refine lv_iload_n hx hb dL_law_1454 rfl (lv_at hl 0 rfl) ?_
  refine lv_iconst (v := 1) hx hb dL_law_1455 (by decide) ?_
  refine lv_iadd hx hb dL_law_1456 ?_
  refine ki (v := 1) (by decide) ?_
  refine va_sld hx hb hX hbl hbA hS (i := 1) (vp_k (by decide)) dL_law_1457 ?_
  refine kv (v := .int (xs 1)) rfl ?_
  refine lv_aload_n hx hb dL_law_1458 rfl (lv_at hl 3 rfl) ?_
  refine lv_iload_n hx hb dL_law_1459 rfl (lv_at hl 0 rfl) ?_
  refine lv_iconst (v := 2) hx hb dL_law_1460 (by decide) ?_
  refine lv_iadd hx hb dL_law_1461 ?_
  refine ki (v := 2) (by decide) ?_
  refine va_sld hx hb hX hbl hbA hS (i := 2) (vp_k (by decide)) dL_law_1462 ?_
  refine kv (v := .int (xs 2)) rfl ?_
  refine lv_aload_n hx hb dL_law_1463 rfl (lv_at hl 3 rfl) ?_
  refine lv_iload_n hx hb dL_law_1464 rfl (lv_at hl 0 rfl) ?_
  refine lv_iconst (v := 3) hx hb dL_law_1465 (by decide) ?_
  refine lv_iadd hx hb dL_law_1466 ?_
  refine ki (v := 3) (by decide) ?_
  refine va_sld hx hb hX hbl hbA hS (i := 3) (vp_k (by decide)) dL_law_1467 ?_
  refine kv (v := .int (xs 3)) rfl ?_
  refine lv_aload_n hx hb dL_law_1468 rfl (lv_at hl 3 rfl) ?_
  refine lv_iload_n hx hb dL_law_1469 rfl (lv_at hl 0 rfl) ?_
  refine lv_iconst (v := 4) hx hb dL_law_1470 (by decide) ?_
  refine lv_iadd hx hb dL_law_1471 ?_
  refine ki (v := 4) (by decide) ?_
  refine va_sld hx hb hX hbl hbA hS (i := 4) (vp_k (by decide)) dL_law_1472 ?_
  refine kv (v := .int (xs 4)) rfl ?_
  refine cr_V (As := [.int (xs 1), .int (xs 2), .int (xs 3), .int (xs 4)]) (rest := [.int (-1)]) hFX hKK (c_X12_matches l D κ m0 a0 a1 a2 a5 a14 a15 a16 a17 a20 a21 a23 a24 a25 a28 (xs 1) (xs 2) (xs 3) (xs 4)) 4 gV_L_152 hdV_X12_matches rfl rfl ⟨Nat.le_of_ble_eq_true rfl, Nat.le_of_ble_eq_true rfl⟩ rfl rfl (Nat.le_of_ble_eq_true rfl) dL_law_1473 ⟨Nat.le_of_ble_eq_true rfl, Nat.le_of_ble_eq_true rfl⟩ hl.1 hP 25 12 rfl rfl rfl (hP.sub [25, 26] rfl) (fun _ hp_2 => ?_)
  refine W.eq (g2 := F0 m 1476 ls [.int (-1), .int (-1)]) rfl ?_
  refine lv_icmp_eq (tgt := 1622) hx hb dL_law_1476 (by decide) (fun c_3 => ?_) (fun c_3 => absurd (by decide) c_3)
  exact law_tail C0 hA hAq hS hl (Nat.le_of_ble_eq_true rfl) (Nat.le_of_ble_eq_true rfl)
set_option maxHeartbeats 4000000 in
set_option maxRecDepth 100000 in
theorem law_case_32 {p : Program} {l : Launch} {e : Env} {s : State} {m : MethodId} {below : List Frame} {meth : Method} {c : Code} {D : va_G} {κ : Nat → ClassId} {b : Nat} {xs : Nat → Int32} (C0 : lw_At p s m meth c b 6 xs) (hKK : KK D κ s) {A : Nat → Prop} (hA : ∀ q : Nat, s.heap.size ≤ q → A q) (hAq : ∀ q : Nat, A q → s.heap.size ≤ q) (x0 n0 t0 f0 r0 w0 k0 n1 n2 n3 n4 n5 t1 b0 r1 r2 r3 r4 b1 w1 k1 k2 k3 k4 k5 m0 a0 a1 a2 a5 a14 a15 a16 a17 a20 a21 a23 a24 a25 a28 : Nat) {H : Heap} {locs : List Loc} {ls : Array Slot} (hP : va_P D vwCl [(x0, .inr (11, [.ref n0, .ref t0, .ref f0, .ref r0, .ref w0, .ref k0, .int 0])), (n0, .inr (6, [.ref n1, .ref n2, .ref n3, .ref n4, .ref n5, .int 0])), (n1, .inl (κ 0, 6, .inl dial0)), (n2, .inl (κ 4, 3, .inr (.inr (.inr (.inr (fun _ => none)))))), (n3, .inl (κ 5, 3, .inr (.inr (.inr (.inr (fun _ => none)))))), (n4, .inl (κ 0, 6, .inl (fun _ => 0))), (n5, .inl (κ 4, 6, .inr (.inr (.inr (.inr (fun _ => none)))))), (t0, .inr (8, [.ref t1, .int 0])), (t1, .inl (κ 0, 800, .inl (fun _ => 0))), (f0, .inr (2, [.int 0, .int (-1), .int (-1), .int (-1), .int (-1), .int 0])), (r0, .inr (4, [.ref t0, .ref n1, .ref f0, .ref b0, .int 0, .int (-1), .ref r1, .int 0, .ref r2, .ref r3, .int 0, .null, .ref r4, .int 0])), (b0, .inr (0, [.ref b1, .int 0, .long 0])), (b1, .inl (κ 1, 0, .inl (fun _ => 0))), (r1, .inl (κ 1, 20, .inl (fun _ => 0))), (r2, .inl (κ 2, 8, .inr (.inr (.inr (.inr (fun _ => none)))))), (r3, .inl (κ 0, 8, .inl (fun _ => 0))), (r4, .inl (κ 2, 320, .inr (.inr (.inr (.inr (fun _ => none)))))), (w0, .inr (10, [.ref n1, .ref w1, .int 0])), (w1, .inl (κ 1, 6000, .inl (fun _ => 0))), (k0, .inr (6, [.ref k1, .ref k2, .ref k3, .ref k4, .ref k5, .int 0])), (k1, .inl (κ 0, 6, .inl dial0)), (k2, .inl (κ 4, 3, .inr (.inr (.inr (.inr (fun _ => none)))))), (k3, .inl (κ 5, 3, .inr (.inr (.inr (.inr (fun _ => none)))))), (k4, .inl (κ 0, 6, .inl (fun _ => 0))), (k5, .inl (κ 4, 6, .inr (.inr (.inr (.inr (fun _ => none)))))), (m0, .inr (12, [.ref a0, .ref a1, .ref a2, .int 0, .int 0, .ref a5, .int 0, .int 0, .int (-1), .int (-1), .int 0, .int 0, .int 0, .int 0, .ref a14, .ref a15, .ref a16, .ref a17, .int 0, .int 0, .ref a20, .ref a21, .int 0, .ref a23, .ref a24, .ref a25, .int 0, .int 0, .ref a28, .int 0])), (a0, .inl (κ 0, 21375, .inl wf0)), (a1, .inl (κ 0, 21375, .inl (fun _ => 0))), (a2, .inl (κ 0, 128214, .inl (fun _ => 0))), (a5, .inl (κ 0, 800, .inl (fun _ => 0))), (a14, .inl (κ 0, 189, .inl (fun _ => 0))), (a15, .inl (κ 0, 9, .inl (fun _ => 0))), (a16, .inl (κ 0, 9, .inl (fun _ => 0))), (a17, .inl (κ 0, 7123, .inl (fun _ => 0))), (a20, .inl (κ 0, 801, .inl (fun _ => 0))), (a21, .inl (κ 0, 40, .inl (fun _ => 0))), (a23, .inl (κ 0, 40, .inl (fun _ => 0))), (a24, .inl (κ 0, 40, .inl (fun _ => 0))), (a25, .inl (κ 0, 6000, .inl (fun _ => 0))), (a28, .inl (κ 0, 400, .inl (fun _ => 0)))] H) (hD : va_D A [(x0, .inr (11, [.ref n0, .ref t0, .ref f0, .ref r0, .ref w0, .ref k0, .int 0])), (n0, .inr (6, [.ref n1, .ref n2, .ref n3, .ref n4, .ref n5, .int 0])), (n1, .inl (κ 0, 6, .inl dial0)), (n2, .inl (κ 4, 3, .inr (.inr (.inr (.inr (fun _ => none)))))), (n3, .inl (κ 5, 3, .inr (.inr (.inr (.inr (fun _ => none)))))), (n4, .inl (κ 0, 6, .inl (fun _ => 0))), (n5, .inl (κ 4, 6, .inr (.inr (.inr (.inr (fun _ => none)))))), (t0, .inr (8, [.ref t1, .int 0])), (t1, .inl (κ 0, 800, .inl (fun _ => 0))), (f0, .inr (2, [.int 0, .int (-1), .int (-1), .int (-1), .int (-1), .int 0])), (r0, .inr (4, [.ref t0, .ref n1, .ref f0, .ref b0, .int 0, .int (-1), .ref r1, .int 0, .ref r2, .ref r3, .int 0, .null, .ref r4, .int 0])), (b0, .inr (0, [.ref b1, .int 0, .long 0])), (b1, .inl (κ 1, 0, .inl (fun _ => 0))), (r1, .inl (κ 1, 20, .inl (fun _ => 0))), (r2, .inl (κ 2, 8, .inr (.inr (.inr (.inr (fun _ => none)))))), (r3, .inl (κ 0, 8, .inl (fun _ => 0))), (r4, .inl (κ 2, 320, .inr (.inr (.inr (.inr (fun _ => none)))))), (w0, .inr (10, [.ref n1, .ref w1, .int 0])), (w1, .inl (κ 1, 6000, .inl (fun _ => 0))), (k0, .inr (6, [.ref k1, .ref k2, .ref k3, .ref k4, .ref k5, .int 0])), (k1, .inl (κ 0, 6, .inl dial0)), (k2, .inl (κ 4, 3, .inr (.inr (.inr (.inr (fun _ => none)))))), (k3, .inl (κ 5, 3, .inr (.inr (.inr (.inr (fun _ => none)))))), (k4, .inl (κ 0, 6, .inl (fun _ => 0))), (k5, .inl (κ 4, 6, .inr (.inr (.inr (.inr (fun _ => none)))))), (m0, .inr (12, [.ref a0, .ref a1, .ref a2, .int 0, .int 0, .ref a5, .int 0, .int 0, .int (-1), .int (-1), .int 0, .int 0, .int 0, .int 0, .ref a14, .ref a15, .ref a16, .ref a17, .int 0, .int 0, .ref a20, .ref a21, .int 0, .ref a23, .ref a24, .ref a25, .int 0, .int 0, .ref a28, .int 0])), (a0, .inl (κ 0, 21375, .inl wf0)), (a1, .inl (κ 0, 21375, .inl (fun _ => 0))), (a2, .inl (κ 0, 128214, .inl (fun _ => 0))), (a5, .inl (κ 0, 800, .inl (fun _ => 0))), (a14, .inl (κ 0, 189, .inl (fun _ => 0))), (a15, .inl (κ 0, 9, .inl (fun _ => 0))), (a16, .inl (κ 0, 9, .inl (fun _ => 0))), (a17, .inl (κ 0, 7123, .inl (fun _ => 0))), (a20, .inl (κ 0, 801, .inl (fun _ => 0))), (a21, .inl (κ 0, 40, .inl (fun _ => 0))), (a23, .inl (κ 0, 40, .inl (fun _ => 0))), (a24, .inl (κ 0, 40, .inl (fun _ => 0))), (a25, .inl (κ 0, 6000, .inl (fun _ => 0))), (a28, .inl (κ 0, 400, .inl (fun _ => 0)))]) (hS : va_S A s.heap H locs) (hl : lv_has ls 4 [(3, .int 0), (2, .ref m0), (1, .ref x0), (0, .ref b)]) : W p l e room_1 s m #[Value.ref b] below meth c H locs 40 193696 (lw_Z below #[Value.ref b] s) (F0 m 1481 ls []) := by
  obtain ⟨hx, hb, hr, hml, hown, hts0, hX, hbl, hlk, hgv⟩ := id C0
  have hb : c.code = cL_law := hb
  have hts : ∀ w ∈ wsL_law, w.before #[Value.ref b] s = true := fun w h => hts0 w (wsL_law_in w h)
  have hown : s.vm.findClass RL = some m.cls := hown
  have hK : va_K D vwCl (T0 κ) s := hKK.1
  have hbA : ¬ A b := fun h => absurd (hAq b h) (Nat.not_le.mpr hbl)
  have hFX : FX p s m #[Value.ref b] c cL_law 4 RL := ⟨hx, hb, hml, hown, hts⟩
  refine lv_aload_n hx hb dL_law_1481 rfl (lv_at hl 2 rfl) ?_
  refine lv_aload_n hx hb dL_law_1482 rfl (lv_at hl 3 rfl) ?_
  refine lv_iload_n hx hb dL_law_1483 rfl (lv_at hl 0 rfl) ?_
  refine lv_iconst (v := 1) hx hb dL_law_1484 (by decide) ?_
  refine lv_iadd hx hb dL_law_1485 ?_
  refine ki (v := 1) (by decide) ?_
  refine va_sld hx hb hX hbl hbA hS (i := 1) (vp_k (by decide)) dL_law_1486 ?_
  refine kv (v := .int (xs 1)) rfl ?_
  refine lv_aload_n hx hb dL_law_1487 rfl (lv_at hl 3 rfl) ?_
  refine lv_iload_n hx hb dL_law_1488 rfl (lv_at hl 0 rfl) ?_
  refine lv_iconst (v := 2) hx hb dL_law_1489 (by decide) ?_
  refine lv_iadd hx hb dL_law_1490 ?_
  refine ki (v := 2) (by decide) ?_
  refine va_sld hx hb hX hbl hbA hS (i := 2) (vp_k (by decide)) dL_law_1491 ?_
  refine kv (v := .int (xs 2)) rfl ?_
  refine cr_V (As := [.int (xs 1), .int (xs 2)]) (rest := []) hFX hKK (c_X11_differ l D κ x0 n0 t0 f0 r0 w0 k0 n1 n2 n3 n4 n5 (xs 1) (xs 2)) 2 gV_L_153 hdV_X11_differ rfl rfl ⟨Nat.le_of_ble_eq_true rfl, Nat.le_of_ble_eq_true rfl⟩ rfl rfl (Nat.le_of_ble_eq_true rfl) dL_law_1492 ⟨Nat.le_of_ble_eq_true rfl, Nat.le_of_ble_eq_true rfl⟩ hl.1 hP 0 11 rfl rfl rfl (hP.sub [0, 1, 3] rfl) (fun _ hp_1 => ?_)
  refine W.eq (g2 := F0 m 1495 ls [.int (-1)]) rfl ?_
  refine lv_aload_n hx hb dL_law_1495 rfl (lv_at hl 1 rfl) ?_
  refine lv_aload_n hx hb dL_law_1496 rfl (lv_at hl 3 rfl) ?_
  refine lv_iload_n hx hb dL_law_1497 rfl (lv_at hl 0 rfl) ?_
  refine lv_iconst (v := 1) hx hb dL_law_1498 (by decide) ?_
  refine lv_iadd hx hb dL_law_1499 ?_
  refine ki (v := 1) (by decide) ?_
  refine va_sld hx hb hX hbl hbA hS (i := 1) (vp_k (by decide)) dL_law_1500 ?_
  refine kv (v := .int (xs 1)) rfl ?_
  refine lv_aload_n hx hb dL_law_1501 rfl (lv_at hl 3 rfl) ?_
  refine lv_iload_n hx hb dL_law_1502 rfl (lv_at hl 0 rfl) ?_
  refine lv_iconst (v := 2) hx hb dL_law_1503 (by decide) ?_
  refine lv_iadd hx hb dL_law_1504 ?_
  refine ki (v := 2) (by decide) ?_
  refine va_sld hx hb hX hbl hbA hS (i := 2) (vp_k (by decide)) dL_law_1505 ?_
  refine kv (v := .int (xs 2)) rfl ?_
  refine cr_V (As := [.int (xs 1), .int (xs 2)]) (rest := [.int (-1)]) hFX hKK (c_X12_differ l D κ m0 a0 a1 a2 a5 a14 a15 a16 a17 a20 a21 a23 a24 a25 a28 (xs 1) (xs 2)) 2 gV_L_156 hdV_X12_differ rfl rfl ⟨Nat.le_of_ble_eq_true rfl, Nat.le_of_ble_eq_true rfl⟩ rfl rfl (Nat.le_of_ble_eq_true rfl) dL_law_1506 ⟨Nat.le_of_ble_eq_true rfl, Nat.le_of_ble_eq_true rfl⟩ hl.1 hP 25 12 rfl rfl rfl (hP.sub [25, 26] rfl) (fun _ hp_2 => ?_)
  refine W.eq (g2 := F0 m 1509 ls [.int (-1), .int (-1)]) rfl ?_
  refine lv_icmp_eq (tgt := 1622) hx hb dL_law_1509 (by decide) (fun c_3 => ?_) (fun c_3 => absurd (by decide) c_3)
  exact law_tail C0 hA hAq hS hl (Nat.le_of_ble_eq_true rfl) (Nat.le_of_ble_eq_true rfl)
set_option maxHeartbeats 4000000 in
set_option maxRecDepth 100000 in
theorem law_case_33 {p : Program} {l : Launch} {e : Env} {s : State} {m : MethodId} {below : List Frame} {meth : Method} {c : Code} {D : va_G} {κ : Nat → ClassId} {b : Nat} {xs : Nat → Int32} (C0 : lw_At p s m meth c b 6 xs) (hKK : KK D κ s) {A : Nat → Prop} (hA : ∀ q : Nat, s.heap.size ≤ q → A q) (hAq : ∀ q : Nat, A q → s.heap.size ≤ q) (x0 n0 t0 f0 r0 w0 k0 n1 n2 n3 n4 n5 t1 b0 r1 r2 r3 r4 b1 w1 k1 k2 k3 k4 k5 m0 a0 a1 a2 a5 a14 a15 a16 a17 a20 a21 a23 a24 a25 a28 : Nat) {H : Heap} {locs : List Loc} {ls : Array Slot} (hP : va_P D vwCl [(x0, .inr (11, [.ref n0, .ref t0, .ref f0, .ref r0, .ref w0, .ref k0, .int 0])), (n0, .inr (6, [.ref n1, .ref n2, .ref n3, .ref n4, .ref n5, .int 0])), (n1, .inl (κ 0, 6, .inl dial0)), (n2, .inl (κ 4, 3, .inr (.inr (.inr (.inr (fun _ => none)))))), (n3, .inl (κ 5, 3, .inr (.inr (.inr (.inr (fun _ => none)))))), (n4, .inl (κ 0, 6, .inl (fun _ => 0))), (n5, .inl (κ 4, 6, .inr (.inr (.inr (.inr (fun _ => none)))))), (t0, .inr (8, [.ref t1, .int 0])), (t1, .inl (κ 0, 800, .inl (fun _ => 0))), (f0, .inr (2, [.int 0, .int (-1), .int (-1), .int (-1), .int (-1), .int 0])), (r0, .inr (4, [.ref t0, .ref n1, .ref f0, .ref b0, .int 0, .int (-1), .ref r1, .int 0, .ref r2, .ref r3, .int 0, .null, .ref r4, .int 0])), (b0, .inr (0, [.ref b1, .int 0, .long 0])), (b1, .inl (κ 1, 0, .inl (fun _ => 0))), (r1, .inl (κ 1, 20, .inl (fun _ => 0))), (r2, .inl (κ 2, 8, .inr (.inr (.inr (.inr (fun _ => none)))))), (r3, .inl (κ 0, 8, .inl (fun _ => 0))), (r4, .inl (κ 2, 320, .inr (.inr (.inr (.inr (fun _ => none)))))), (w0, .inr (10, [.ref n1, .ref w1, .int 0])), (w1, .inl (κ 1, 6000, .inl (fun _ => 0))), (k0, .inr (6, [.ref k1, .ref k2, .ref k3, .ref k4, .ref k5, .int 0])), (k1, .inl (κ 0, 6, .inl dial0)), (k2, .inl (κ 4, 3, .inr (.inr (.inr (.inr (fun _ => none)))))), (k3, .inl (κ 5, 3, .inr (.inr (.inr (.inr (fun _ => none)))))), (k4, .inl (κ 0, 6, .inl (fun _ => 0))), (k5, .inl (κ 4, 6, .inr (.inr (.inr (.inr (fun _ => none)))))), (m0, .inr (12, [.ref a0, .ref a1, .ref a2, .int 0, .int 0, .ref a5, .int 0, .int 0, .int (-1), .int (-1), .int 0, .int 0, .int 0, .int 0, .ref a14, .ref a15, .ref a16, .ref a17, .int 0, .int 0, .ref a20, .ref a21, .int 0, .ref a23, .ref a24, .ref a25, .int 0, .int 0, .ref a28, .int 0])), (a0, .inl (κ 0, 21375, .inl wf0)), (a1, .inl (κ 0, 21375, .inl (fun _ => 0))), (a2, .inl (κ 0, 128214, .inl (fun _ => 0))), (a5, .inl (κ 0, 800, .inl (fun _ => 0))), (a14, .inl (κ 0, 189, .inl (fun _ => 0))), (a15, .inl (κ 0, 9, .inl (fun _ => 0))), (a16, .inl (κ 0, 9, .inl (fun _ => 0))), (a17, .inl (κ 0, 7123, .inl (fun _ => 0))), (a20, .inl (κ 0, 801, .inl (fun _ => 0))), (a21, .inl (κ 0, 40, .inl (fun _ => 0))), (a23, .inl (κ 0, 40, .inl (fun _ => 0))), (a24, .inl (κ 0, 40, .inl (fun _ => 0))), (a25, .inl (κ 0, 6000, .inl (fun _ => 0))), (a28, .inl (κ 0, 400, .inl (fun _ => 0)))] H) (hD : va_D A [(x0, .inr (11, [.ref n0, .ref t0, .ref f0, .ref r0, .ref w0, .ref k0, .int 0])), (n0, .inr (6, [.ref n1, .ref n2, .ref n3, .ref n4, .ref n5, .int 0])), (n1, .inl (κ 0, 6, .inl dial0)), (n2, .inl (κ 4, 3, .inr (.inr (.inr (.inr (fun _ => none)))))), (n3, .inl (κ 5, 3, .inr (.inr (.inr (.inr (fun _ => none)))))), (n4, .inl (κ 0, 6, .inl (fun _ => 0))), (n5, .inl (κ 4, 6, .inr (.inr (.inr (.inr (fun _ => none)))))), (t0, .inr (8, [.ref t1, .int 0])), (t1, .inl (κ 0, 800, .inl (fun _ => 0))), (f0, .inr (2, [.int 0, .int (-1), .int (-1), .int (-1), .int (-1), .int 0])), (r0, .inr (4, [.ref t0, .ref n1, .ref f0, .ref b0, .int 0, .int (-1), .ref r1, .int 0, .ref r2, .ref r3, .int 0, .null, .ref r4, .int 0])), (b0, .inr (0, [.ref b1, .int 0, .long 0])), (b1, .inl (κ 1, 0, .inl (fun _ => 0))), (r1, .inl (κ 1, 20, .inl (fun _ => 0))), (r2, .inl (κ 2, 8, .inr (.inr (.inr (.inr (fun _ => none)))))), (r3, .inl (κ 0, 8, .inl (fun _ => 0))), (r4, .inl (κ 2, 320, .inr (.inr (.inr (.inr (fun _ => none)))))), (w0, .inr (10, [.ref n1, .ref w1, .int 0])), (w1, .inl (κ 1, 6000, .inl (fun _ => 0))), (k0, .inr (6, [.ref k1, .ref k2, .ref k3, .ref k4, .ref k5, .int 0])), (k1, .inl (κ 0, 6, .inl dial0)), (k2, .inl (κ 4, 3, .inr (.inr (.inr (.inr (fun _ => none)))))), (k3, .inl (κ 5, 3, .inr (.inr (.inr (.inr (fun _ => none)))))), (k4, .inl (κ 0, 6, .inl (fun _ => 0))), (k5, .inl (κ 4, 6, .inr (.inr (.inr (.inr (fun _ => none)))))), (m0, .inr (12, [.ref a0, .ref a1, .ref a2, .int 0, .int 0, .ref a5, .int 0, .int 0, .int (-1), .int (-1), .int 0, .int 0, .int 0, .int 0, .ref a14, .ref a15, .ref a16, .ref a17, .int 0, .int 0, .ref a20, .ref a21, .int 0, .ref a23, .ref a24, .ref a25, .int 0, .int 0, .ref a28, .int 0])), (a0, .inl (κ 0, 21375, .inl wf0)), (a1, .inl (κ 0, 21375, .inl (fun _ => 0))), (a2, .inl (κ 0, 128214, .inl (fun _ => 0))), (a5, .inl (κ 0, 800, .inl (fun _ => 0))), (a14, .inl (κ 0, 189, .inl (fun _ => 0))), (a15, .inl (κ 0, 9, .inl (fun _ => 0))), (a16, .inl (κ 0, 9, .inl (fun _ => 0))), (a17, .inl (κ 0, 7123, .inl (fun _ => 0))), (a20, .inl (κ 0, 801, .inl (fun _ => 0))), (a21, .inl (κ 0, 40, .inl (fun _ => 0))), (a23, .inl (κ 0, 40, .inl (fun _ => 0))), (a24, .inl (κ 0, 40, .inl (fun _ => 0))), (a25, .inl (κ 0, 6000, .inl (fun _ => 0))), (a28, .inl (κ 0, 400, .inl (fun _ => 0)))]) (hS : va_S A s.heap H locs) (hl : lv_has ls 4 [(3, .int 0), (2, .ref m0), (1, .ref x0), (0, .ref b)]) : W p l e room_1 s m #[Value.ref b] below meth c H locs 40 193696 (lw_Z below #[Value.ref b] s) (F0 m 1514 ls []) := by
  obtain ⟨hx, hb, hr, hml, hown, hts0, hX, hbl, hlk, hgv⟩ := id C0
  have hb : c.code = cL_law := hb
  have hts : ∀ w ∈ wsL_law, w.before #[Value.ref b] s = true := fun w h => hts0 w (wsL_law_in w h)
  have hown : s.vm.findClass RL = some m.cls := hown
  have hK : va_K D vwCl (T0 κ) s := hKK.1
  have hbA : ¬ A b := fun h => absurd (hAq b h) (Nat.not_le.mpr hbl)
  have hFX : FX p s m #[Value.ref b] c cL_law 4 RL := ⟨hx, hb, hml, hown, hts⟩
  refine lv_aload_n hx hb dL_law_1514 rfl (lv_at hl 2 rfl) ?_
  refine lv_aload_n hx hb dL_law_1515 rfl (lv_at hl 3 rfl) ?_
  refine lv_iload_n hx hb dL_law_1516 rfl (lv_at hl 0 rfl) ?_
  refine lv_iconst (v := 1) hx hb dL_law_1517 (by decide) ?_
  refine lv_iadd hx hb dL_law_1518 ?_
  refine ki (v := 1) (by decide) ?_
  refine va_sld hx hb hX hbl hbA hS (i := 1) (vp_k (by decide)) dL_law_1519 ?_
  refine kv (v := .int (xs 1)) rfl ?_
  refine cr_V (As := [.int (xs 1)]) (rest := []) hFX hKK (c_X11_write l D κ x0 n0 t0 f0 r0 w0 k0 n1 n2 n3 n4 n5 (xs 1)) 1 gV_L_157 hdV_X11_write rfl rfl ⟨Nat.le_of_ble_eq_true rfl, Nat.le_of_ble_eq_true rfl⟩ rfl rfl (Nat.le_of_ble_eq_true rfl) dL_law_1520 ⟨Nat.le_of_ble_eq_true rfl, Nat.le_of_ble_eq_true rfl⟩ hl.1 hP 0 11 rfl rfl rfl (hP.sub [0, 1, 3, 4] rfl) (fun _ hp_1 => ?_)
  refine W.eq (g2 := F0 m 1523 ls [.int (-1)]) rfl ?_
  refine lv_aload_n hx hb dL_law_1523 rfl (lv_at hl 1 rfl) ?_
  refine lv_aload_n hx hb dL_law_1524 rfl (lv_at hl 3 rfl) ?_
  refine lv_iload_n hx hb dL_law_1525 rfl (lv_at hl 0 rfl) ?_
  refine lv_iconst (v := 1) hx hb dL_law_1526 (by decide) ?_
  refine lv_iadd hx hb dL_law_1527 ?_
  refine ki (v := 1) (by decide) ?_
  refine va_sld hx hb hX hbl hbA hS (i := 1) (vp_k (by decide)) dL_law_1528 ?_
  refine kv (v := .int (xs 1)) rfl ?_
  refine cr_V (As := [.int (xs 1)]) (rest := [.int (-1)]) hFX hKK (c_X12_write l D κ m0 a0 a1 a2 a5 a14 a15 a16 a17 a20 a21 a23 a24 a25 a28 (xs 1)) 1 gV_L_160 hdV_X12_write rfl rfl ⟨Nat.le_of_ble_eq_true rfl, Nat.le_of_ble_eq_true rfl⟩ rfl rfl (Nat.le_of_ble_eq_true rfl) dL_law_1529 ⟨Nat.le_of_ble_eq_true rfl, Nat.le_of_ble_eq_true rfl⟩ hl.1 hP 25 12 rfl rfl rfl (hP.sub [25, 26] rfl) (fun _ hp_2 => ?_)
  refine W.eq (g2 := F0 m 1532 ls [.int (-1), .int (-1)]) rfl ?_
  refine lv_icmp_eq (tgt := 1622) hx hb dL_law_1532 (by decide) (fun c_3 => ?_) (fun c_3 => absurd (by decide) c_3)
  exact law_tail C0 hA hAq hS hl (Nat.le_of_ble_eq_true rfl) (Nat.le_of_ble_eq_true rfl)
set_option maxHeartbeats 4000000 in
set_option maxRecDepth 100000 in
theorem law_case_34 {p : Program} {l : Launch} {e : Env} {s : State} {m : MethodId} {below : List Frame} {meth : Method} {c : Code} {D : va_G} {κ : Nat → ClassId} {b : Nat} {xs : Nat → Int32} (C0 : lw_At p s m meth c b 6 xs) (hKK : KK D κ s) {A : Nat → Prop} (hA : ∀ q : Nat, s.heap.size ≤ q → A q) (hAq : ∀ q : Nat, A q → s.heap.size ≤ q) (x0 n0 t0 f0 r0 w0 k0 n1 n2 n3 n4 n5 t1 b0 r1 r2 r3 r4 b1 w1 k1 k2 k3 k4 k5 m0 a0 a1 a2 a5 a14 a15 a16 a17 a20 a21 a23 a24 a25 a28 : Nat) {H : Heap} {locs : List Loc} {ls : Array Slot} (hP : va_P D vwCl [(x0, .inr (11, [.ref n0, .ref t0, .ref f0, .ref r0, .ref w0, .ref k0, .int 0])), (n0, .inr (6, [.ref n1, .ref n2, .ref n3, .ref n4, .ref n5, .int 0])), (n1, .inl (κ 0, 6, .inl dial0)), (n2, .inl (κ 4, 3, .inr (.inr (.inr (.inr (fun _ => none)))))), (n3, .inl (κ 5, 3, .inr (.inr (.inr (.inr (fun _ => none)))))), (n4, .inl (κ 0, 6, .inl (fun _ => 0))), (n5, .inl (κ 4, 6, .inr (.inr (.inr (.inr (fun _ => none)))))), (t0, .inr (8, [.ref t1, .int 0])), (t1, .inl (κ 0, 800, .inl (fun _ => 0))), (f0, .inr (2, [.int 0, .int (-1), .int (-1), .int (-1), .int (-1), .int 0])), (r0, .inr (4, [.ref t0, .ref n1, .ref f0, .ref b0, .int 0, .int (-1), .ref r1, .int 0, .ref r2, .ref r3, .int 0, .null, .ref r4, .int 0])), (b0, .inr (0, [.ref b1, .int 0, .long 0])), (b1, .inl (κ 1, 0, .inl (fun _ => 0))), (r1, .inl (κ 1, 20, .inl (fun _ => 0))), (r2, .inl (κ 2, 8, .inr (.inr (.inr (.inr (fun _ => none)))))), (r3, .inl (κ 0, 8, .inl (fun _ => 0))), (r4, .inl (κ 2, 320, .inr (.inr (.inr (.inr (fun _ => none)))))), (w0, .inr (10, [.ref n1, .ref w1, .int 0])), (w1, .inl (κ 1, 6000, .inl (fun _ => 0))), (k0, .inr (6, [.ref k1, .ref k2, .ref k3, .ref k4, .ref k5, .int 0])), (k1, .inl (κ 0, 6, .inl dial0)), (k2, .inl (κ 4, 3, .inr (.inr (.inr (.inr (fun _ => none)))))), (k3, .inl (κ 5, 3, .inr (.inr (.inr (.inr (fun _ => none)))))), (k4, .inl (κ 0, 6, .inl (fun _ => 0))), (k5, .inl (κ 4, 6, .inr (.inr (.inr (.inr (fun _ => none)))))), (m0, .inr (12, [.ref a0, .ref a1, .ref a2, .int 0, .int 0, .ref a5, .int 0, .int 0, .int (-1), .int (-1), .int 0, .int 0, .int 0, .int 0, .ref a14, .ref a15, .ref a16, .ref a17, .int 0, .int 0, .ref a20, .ref a21, .int 0, .ref a23, .ref a24, .ref a25, .int 0, .int 0, .ref a28, .int 0])), (a0, .inl (κ 0, 21375, .inl wf0)), (a1, .inl (κ 0, 21375, .inl (fun _ => 0))), (a2, .inl (κ 0, 128214, .inl (fun _ => 0))), (a5, .inl (κ 0, 800, .inl (fun _ => 0))), (a14, .inl (κ 0, 189, .inl (fun _ => 0))), (a15, .inl (κ 0, 9, .inl (fun _ => 0))), (a16, .inl (κ 0, 9, .inl (fun _ => 0))), (a17, .inl (κ 0, 7123, .inl (fun _ => 0))), (a20, .inl (κ 0, 801, .inl (fun _ => 0))), (a21, .inl (κ 0, 40, .inl (fun _ => 0))), (a23, .inl (κ 0, 40, .inl (fun _ => 0))), (a24, .inl (κ 0, 40, .inl (fun _ => 0))), (a25, .inl (κ 0, 6000, .inl (fun _ => 0))), (a28, .inl (κ 0, 400, .inl (fun _ => 0)))] H) (hD : va_D A [(x0, .inr (11, [.ref n0, .ref t0, .ref f0, .ref r0, .ref w0, .ref k0, .int 0])), (n0, .inr (6, [.ref n1, .ref n2, .ref n3, .ref n4, .ref n5, .int 0])), (n1, .inl (κ 0, 6, .inl dial0)), (n2, .inl (κ 4, 3, .inr (.inr (.inr (.inr (fun _ => none)))))), (n3, .inl (κ 5, 3, .inr (.inr (.inr (.inr (fun _ => none)))))), (n4, .inl (κ 0, 6, .inl (fun _ => 0))), (n5, .inl (κ 4, 6, .inr (.inr (.inr (.inr (fun _ => none)))))), (t0, .inr (8, [.ref t1, .int 0])), (t1, .inl (κ 0, 800, .inl (fun _ => 0))), (f0, .inr (2, [.int 0, .int (-1), .int (-1), .int (-1), .int (-1), .int 0])), (r0, .inr (4, [.ref t0, .ref n1, .ref f0, .ref b0, .int 0, .int (-1), .ref r1, .int 0, .ref r2, .ref r3, .int 0, .null, .ref r4, .int 0])), (b0, .inr (0, [.ref b1, .int 0, .long 0])), (b1, .inl (κ 1, 0, .inl (fun _ => 0))), (r1, .inl (κ 1, 20, .inl (fun _ => 0))), (r2, .inl (κ 2, 8, .inr (.inr (.inr (.inr (fun _ => none)))))), (r3, .inl (κ 0, 8, .inl (fun _ => 0))), (r4, .inl (κ 2, 320, .inr (.inr (.inr (.inr (fun _ => none)))))), (w0, .inr (10, [.ref n1, .ref w1, .int 0])), (w1, .inl (κ 1, 6000, .inl (fun _ => 0))), (k0, .inr (6, [.ref k1, .ref k2, .ref k3, .ref k4, .ref k5, .int 0])), (k1, .inl (κ 0, 6, .inl dial0)), (k2, .inl (κ 4, 3, .inr (.inr (.inr (.inr (fun _ => none)))))), (k3, .inl (κ 5, 3, .inr (.inr (.inr (.inr (fun _ => none)))))), (k4, .inl (κ 0, 6, .inl (fun _ => 0))), (k5, .inl (κ 4, 6, .inr (.inr (.inr (.inr (fun _ => none)))))), (m0, .inr (12, [.ref a0, .ref a1, .ref a2, .int 0, .int 0, .ref a5, .int 0, .int 0, .int (-1), .int (-1), .int 0, .int 0, .int 0, .int 0, .ref a14, .ref a15, .ref a16, .ref a17, .int 0, .int 0, .ref a20, .ref a21, .int 0, .ref a23, .ref a24, .ref a25, .int 0, .int 0, .ref a28, .int 0])), (a0, .inl (κ 0, 21375, .inl wf0)), (a1, .inl (κ 0, 21375, .inl (fun _ => 0))), (a2, .inl (κ 0, 128214, .inl (fun _ => 0))), (a5, .inl (κ 0, 800, .inl (fun _ => 0))), (a14, .inl (κ 0, 189, .inl (fun _ => 0))), (a15, .inl (κ 0, 9, .inl (fun _ => 0))), (a16, .inl (κ 0, 9, .inl (fun _ => 0))), (a17, .inl (κ 0, 7123, .inl (fun _ => 0))), (a20, .inl (κ 0, 801, .inl (fun _ => 0))), (a21, .inl (κ 0, 40, .inl (fun _ => 0))), (a23, .inl (κ 0, 40, .inl (fun _ => 0))), (a24, .inl (κ 0, 40, .inl (fun _ => 0))), (a25, .inl (κ 0, 6000, .inl (fun _ => 0))), (a28, .inl (κ 0, 400, .inl (fun _ => 0)))]) (hS : va_S A s.heap H locs) (hl : lv_has ls 4 [(3, .int 0), (2, .ref m0), (1, .ref x0), (0, .ref b)]) : W p l e room_1 s m #[Value.ref b] below meth c H locs 40 193696 (lw_Z below #[Value.ref b] s) (F0 m 1537 ls []) := by
  obtain ⟨hx, hb, hr, hml, hown, hts0, hX, hbl, hlk, hgv⟩ := id C0
  have hb : c.code = cL_law := hb
  have hts : ∀ w ∈ wsL_law, w.before #[Value.ref b] s = true := fun w h => hts0 w (wsL_law_in w h)
  have hown : s.vm.findClass RL = some m.cls := hown
  have hK : va_K D vwCl (T0 κ) s := hKK.1
  have hbA : ¬ A b := fun h => absurd (hAq b h) (Nat.not_le.mpr hbl)
  have hFX : FX p s m #[Value.ref b] c cL_law 4 RL := ⟨hx, hb, hml, hown, hts⟩
  refine lv_aload_n hx hb dL_law_1537 rfl (lv_at hl 2 rfl) ?_
  refine lv_aload_n hx hb dL_law_1538 rfl (lv_at hl 3 rfl) ?_
  refine lv_iload_n hx hb dL_law_1539 rfl (lv_at hl 0 rfl) ?_
  refine lv_iconst (v := 1) hx hb dL_law_1540 (by decide) ?_
  refine lv_iadd hx hb dL_law_1541 ?_
  refine ki (v := 1) (by decide) ?_
  refine va_sld hx hb hX hbl hbA hS (i := 1) (vp_k (by decide)) dL_law_1542 ?_
  refine kv (v := .int (xs 1)) rfl ?_
  refine cr_V (As := [.int (xs 1)]) (rest := []) hFX hKK (c_X11_sign l D κ x0 n0 t0 f0 r0 w0 k0 n1 w1 (xs 1)) 1 gV_L_161 hdV_X11_sign rfl rfl ⟨Nat.le_of_ble_eq_true rfl, Nat.le_of_ble_eq_true rfl⟩ rfl rfl (Nat.le_of_ble_eq_true rfl) dL_law_1543 ⟨Nat.le_of_ble_eq_true rfl, Nat.le_of_ble_eq_true rfl⟩ hl.1 hP 0 11 rfl rfl rfl (hP.sub [0, 17] rfl) (fun _ hp_1 => ?_)
  refine W.eq (g2 := F0 m 1546 ls [.int (-1)]) rfl ?_
  refine lv_aload_n hx hb dL_law_1546 rfl (lv_at hl 1 rfl) ?_
  refine lv_aload_n hx hb dL_law_1547 rfl (lv_at hl 3 rfl) ?_
  refine lv_iload_n hx hb dL_law_1548 rfl (lv_at hl 0 rfl) ?_
  refine lv_iconst (v := 1) hx hb dL_law_1549 (by decide) ?_
  refine lv_iadd hx hb dL_law_1550 ?_
  refine ki (v := 1) (by decide) ?_
  refine va_sld hx hb hX hbl hbA hS (i := 1) (vp_k (by decide)) dL_law_1551 ?_
  refine kv (v := .int (xs 1)) rfl ?_
  refine cr_V (As := [.int (xs 1)]) (rest := [.int (-1)]) hFX hKK (c_X12_sign l D κ m0 a0 a1 a2 a5 a14 a15 a16 a17 a20 a21 a23 a24 a25 a28 (xs 1)) 1 gV_L_164 hdV_X12_sign rfl rfl ⟨Nat.le_of_ble_eq_true rfl, Nat.le_of_ble_eq_true rfl⟩ rfl rfl (Nat.le_of_ble_eq_true rfl) dL_law_1552 ⟨Nat.le_of_ble_eq_true rfl, Nat.le_of_ble_eq_true rfl⟩ hl.1 hP 25 12 rfl rfl rfl (hP.sub [25, 38] rfl) (fun _ hp_2 => ?_)
  refine W.eq (g2 := F0 m 1555 ls [.int (-1), .int (-1)]) rfl ?_
  refine lv_icmp_eq (tgt := 1622) hx hb dL_law_1555 (by decide) (fun c_3 => ?_) (fun c_3 => absurd (by decide) c_3)
  exact law_tail C0 hA hAq hS hl (Nat.le_of_ble_eq_true rfl) (Nat.le_of_ble_eq_true rfl)
set_option maxHeartbeats 4000000 in
set_option maxRecDepth 100000 in
theorem law_case_35 {p : Program} {l : Launch} {e : Env} {s : State} {m : MethodId} {below : List Frame} {meth : Method} {c : Code} {D : va_G} {κ : Nat → ClassId} {b : Nat} {xs : Nat → Int32} (C0 : lw_At p s m meth c b 6 xs) (hKK : KK D κ s) {A : Nat → Prop} (hA : ∀ q : Nat, s.heap.size ≤ q → A q) (hAq : ∀ q : Nat, A q → s.heap.size ≤ q) (x0 n0 t0 f0 r0 w0 k0 n1 n2 n3 n4 n5 t1 b0 r1 r2 r3 r4 b1 w1 k1 k2 k3 k4 k5 m0 a0 a1 a2 a5 a14 a15 a16 a17 a20 a21 a23 a24 a25 a28 : Nat) {H : Heap} {locs : List Loc} {ls : Array Slot} (hP : va_P D vwCl [(x0, .inr (11, [.ref n0, .ref t0, .ref f0, .ref r0, .ref w0, .ref k0, .int 0])), (n0, .inr (6, [.ref n1, .ref n2, .ref n3, .ref n4, .ref n5, .int 0])), (n1, .inl (κ 0, 6, .inl dial0)), (n2, .inl (κ 4, 3, .inr (.inr (.inr (.inr (fun _ => none)))))), (n3, .inl (κ 5, 3, .inr (.inr (.inr (.inr (fun _ => none)))))), (n4, .inl (κ 0, 6, .inl (fun _ => 0))), (n5, .inl (κ 4, 6, .inr (.inr (.inr (.inr (fun _ => none)))))), (t0, .inr (8, [.ref t1, .int 0])), (t1, .inl (κ 0, 800, .inl (fun _ => 0))), (f0, .inr (2, [.int 0, .int (-1), .int (-1), .int (-1), .int (-1), .int 0])), (r0, .inr (4, [.ref t0, .ref n1, .ref f0, .ref b0, .int 0, .int (-1), .ref r1, .int 0, .ref r2, .ref r3, .int 0, .null, .ref r4, .int 0])), (b0, .inr (0, [.ref b1, .int 0, .long 0])), (b1, .inl (κ 1, 0, .inl (fun _ => 0))), (r1, .inl (κ 1, 20, .inl (fun _ => 0))), (r2, .inl (κ 2, 8, .inr (.inr (.inr (.inr (fun _ => none)))))), (r3, .inl (κ 0, 8, .inl (fun _ => 0))), (r4, .inl (κ 2, 320, .inr (.inr (.inr (.inr (fun _ => none)))))), (w0, .inr (10, [.ref n1, .ref w1, .int 0])), (w1, .inl (κ 1, 6000, .inl (fun _ => 0))), (k0, .inr (6, [.ref k1, .ref k2, .ref k3, .ref k4, .ref k5, .int 0])), (k1, .inl (κ 0, 6, .inl dial0)), (k2, .inl (κ 4, 3, .inr (.inr (.inr (.inr (fun _ => none)))))), (k3, .inl (κ 5, 3, .inr (.inr (.inr (.inr (fun _ => none)))))), (k4, .inl (κ 0, 6, .inl (fun _ => 0))), (k5, .inl (κ 4, 6, .inr (.inr (.inr (.inr (fun _ => none)))))), (m0, .inr (12, [.ref a0, .ref a1, .ref a2, .int 0, .int 0, .ref a5, .int 0, .int 0, .int (-1), .int (-1), .int 0, .int 0, .int 0, .int 0, .ref a14, .ref a15, .ref a16, .ref a17, .int 0, .int 0, .ref a20, .ref a21, .int 0, .ref a23, .ref a24, .ref a25, .int 0, .int 0, .ref a28, .int 0])), (a0, .inl (κ 0, 21375, .inl wf0)), (a1, .inl (κ 0, 21375, .inl (fun _ => 0))), (a2, .inl (κ 0, 128214, .inl (fun _ => 0))), (a5, .inl (κ 0, 800, .inl (fun _ => 0))), (a14, .inl (κ 0, 189, .inl (fun _ => 0))), (a15, .inl (κ 0, 9, .inl (fun _ => 0))), (a16, .inl (κ 0, 9, .inl (fun _ => 0))), (a17, .inl (κ 0, 7123, .inl (fun _ => 0))), (a20, .inl (κ 0, 801, .inl (fun _ => 0))), (a21, .inl (κ 0, 40, .inl (fun _ => 0))), (a23, .inl (κ 0, 40, .inl (fun _ => 0))), (a24, .inl (κ 0, 40, .inl (fun _ => 0))), (a25, .inl (κ 0, 6000, .inl (fun _ => 0))), (a28, .inl (κ 0, 400, .inl (fun _ => 0)))] H) (hD : va_D A [(x0, .inr (11, [.ref n0, .ref t0, .ref f0, .ref r0, .ref w0, .ref k0, .int 0])), (n0, .inr (6, [.ref n1, .ref n2, .ref n3, .ref n4, .ref n5, .int 0])), (n1, .inl (κ 0, 6, .inl dial0)), (n2, .inl (κ 4, 3, .inr (.inr (.inr (.inr (fun _ => none)))))), (n3, .inl (κ 5, 3, .inr (.inr (.inr (.inr (fun _ => none)))))), (n4, .inl (κ 0, 6, .inl (fun _ => 0))), (n5, .inl (κ 4, 6, .inr (.inr (.inr (.inr (fun _ => none)))))), (t0, .inr (8, [.ref t1, .int 0])), (t1, .inl (κ 0, 800, .inl (fun _ => 0))), (f0, .inr (2, [.int 0, .int (-1), .int (-1), .int (-1), .int (-1), .int 0])), (r0, .inr (4, [.ref t0, .ref n1, .ref f0, .ref b0, .int 0, .int (-1), .ref r1, .int 0, .ref r2, .ref r3, .int 0, .null, .ref r4, .int 0])), (b0, .inr (0, [.ref b1, .int 0, .long 0])), (b1, .inl (κ 1, 0, .inl (fun _ => 0))), (r1, .inl (κ 1, 20, .inl (fun _ => 0))), (r2, .inl (κ 2, 8, .inr (.inr (.inr (.inr (fun _ => none)))))), (r3, .inl (κ 0, 8, .inl (fun _ => 0))), (r4, .inl (κ 2, 320, .inr (.inr (.inr (.inr (fun _ => none)))))), (w0, .inr (10, [.ref n1, .ref w1, .int 0])), (w1, .inl (κ 1, 6000, .inl (fun _ => 0))), (k0, .inr (6, [.ref k1, .ref k2, .ref k3, .ref k4, .ref k5, .int 0])), (k1, .inl (κ 0, 6, .inl dial0)), (k2, .inl (κ 4, 3, .inr (.inr (.inr (.inr (fun _ => none)))))), (k3, .inl (κ 5, 3, .inr (.inr (.inr (.inr (fun _ => none)))))), (k4, .inl (κ 0, 6, .inl (fun _ => 0))), (k5, .inl (κ 4, 6, .inr (.inr (.inr (.inr (fun _ => none)))))), (m0, .inr (12, [.ref a0, .ref a1, .ref a2, .int 0, .int 0, .ref a5, .int 0, .int 0, .int (-1), .int (-1), .int 0, .int 0, .int 0, .int 0, .ref a14, .ref a15, .ref a16, .ref a17, .int 0, .int 0, .ref a20, .ref a21, .int 0, .ref a23, .ref a24, .ref a25, .int 0, .int 0, .ref a28, .int 0])), (a0, .inl (κ 0, 21375, .inl wf0)), (a1, .inl (κ 0, 21375, .inl (fun _ => 0))), (a2, .inl (κ 0, 128214, .inl (fun _ => 0))), (a5, .inl (κ 0, 800, .inl (fun _ => 0))), (a14, .inl (κ 0, 189, .inl (fun _ => 0))), (a15, .inl (κ 0, 9, .inl (fun _ => 0))), (a16, .inl (κ 0, 9, .inl (fun _ => 0))), (a17, .inl (κ 0, 7123, .inl (fun _ => 0))), (a20, .inl (κ 0, 801, .inl (fun _ => 0))), (a21, .inl (κ 0, 40, .inl (fun _ => 0))), (a23, .inl (κ 0, 40, .inl (fun _ => 0))), (a24, .inl (κ 0, 40, .inl (fun _ => 0))), (a25, .inl (κ 0, 6000, .inl (fun _ => 0))), (a28, .inl (κ 0, 400, .inl (fun _ => 0)))]) (hS : va_S A s.heap H locs) (hl : lv_has ls 4 [(3, .int 0), (2, .ref m0), (1, .ref x0), (0, .ref b)]) : W p l e room_1 s m #[Value.ref b] below meth c H locs 40 193696 (lw_Z below #[Value.ref b] s) (F0 m 1560 ls []) := by
  obtain ⟨hx, hb, hr, hml, hown, hts0, hX, hbl, hlk, hgv⟩ := id C0
  have hb : c.code = cL_law := hb
  have hts : ∀ w ∈ wsL_law, w.before #[Value.ref b] s = true := fun w h => hts0 w (wsL_law_in w h)
  have hown : s.vm.findClass RL = some m.cls := hown
  have hK : va_K D vwCl (T0 κ) s := hKK.1
  have hbA : ¬ A b := fun h => absurd (hAq b h) (Nat.not_le.mpr hbl)
  have hFX : FX p s m #[Value.ref b] c cL_law 4 RL := ⟨hx, hb, hml, hown, hts⟩
  refine lv_aload_n hx hb dL_law_1560 rfl (lv_at hl 2 rfl) ?_
  refine lv_aload_n hx hb dL_law_1561 rfl (lv_at hl 3 rfl) ?_
  refine lv_iload_n hx hb dL_law_1562 rfl (lv_at hl 0 rfl) ?_
  refine lv_iconst (v := 1) hx hb dL_law_1563 (by decide) ?_
  refine lv_iadd hx hb dL_law_1564 ?_
  refine ki (v := 1) (by decide) ?_
  refine va_sld hx hb hX hbl hbA hS (i := 1) (vp_k (by decide)) dL_law_1565 ?_
  refine kv (v := .int (xs 1)) rfl ?_
  refine lv_if_eq (tgt := 1573) hx hb dL_law_1566 (by decide) (fun c_1 => ?_) (fun c_1 => ?_)
  · refine lv_iconst (v := 0) hx hb dL_law_1573 (by decide) ?_
    refine ct_V (wr := [(t0, .inr (8, [.ref t1, .int 0])), (t1, .inl (κ 0, 800, .inl (fun _ => 0))), (f0, .inr (2, [.int 0, .int (-1), .int (-1), .int (-1), .int (-1), .int 0])), (r0, .inr (4, [.ref t0, .ref n1, .ref f0, .ref b0, .int 0, .int (-1), .ref r1, .int 0, .ref r2, .ref r3, .int 0, .null, .ref r4, .int 0])), (b0, .inr (0, [.ref b1, .int 0, .long 0])), (b1, .inl (κ 1, 0, .inl (fun _ => 0))), (r1, .inl (κ 1, 20, .inl (fun _ => 0))), (r2, .inl (κ 2, 8, .inr (.inr (.inr (.inr (fun _ => none)))))), (r3, .inl (κ 0, 8, .inl (fun _ => 0))), (r4, .inl (κ 2, 320, .inr (.inr (.inr (.inr (fun _ => none)))))), (w0, .inr (10, [.ref n1, .ref w1, .int 0])), (w1, .inl (κ 1, 6000, .inl (fun _ => 0))), (m0, .inr (12, [.ref a0, .ref a1, .ref a2, .int 0, .int 0, .ref a5, .int 0, .int 0, .int (-1), .int (-1), .int 0, .int 0, .int 0, .int 0, .ref a14, .ref a15, .ref a16, .ref a17, .int 0, .int 0, .ref a20, .ref a21, .int 0, .ref a23, .ref a24, .ref a25, .int 0, .int 0, .ref a28, .int 0])), (a0, .inl (κ 0, 21375, .inl wf0)), (a1, .inl (κ 0, 21375, .inl (fun _ => 0))), (a2, .inl (κ 0, 128214, .inl (fun _ => 0))), (a5, .inl (κ 0, 800, .inl (fun _ => 0))), (a14, .inl (κ 0, 189, .inl (fun _ => 0))), (a15, .inl (κ 0, 9, .inl (fun _ => 0))), (a16, .inl (κ 0, 9, .inl (fun _ => 0))), (a17, .inl (κ 0, 7123, .inl (fun _ => 0))), (a20, .inl (κ 0, 801, .inl (fun _ => 0))), (a21, .inl (κ 0, 40, .inl (fun _ => 0))), (a23, .inl (κ 0, 40, .inl (fun _ => 0))), (a24, .inl (κ 0, 40, .inl (fun _ => 0))), (a25, .inl (κ 0, 6000, .inl (fun _ => 0))), (a28, .inl (κ 0, 400, .inl (fun _ => 0)))]) (As := [.int 0]) (rest := []) hFX hKK hP hD hS hA (c_X11_image l D κ x0 n0 t0 f0 r0 w0 k0 n1 n2 n3 n4 n5 k1 k2 k3 k4 k5 0) 1 gV_L_165 hdV_X11_image ⟨Nat.le_of_ble_eq_true rfl, Nat.le_of_ble_eq_true rfl⟩ rfl rfl (Nat.le_of_ble_eq_true rfl) dL_law_1574 ⟨Nat.le_of_ble_eq_true rfl, Nat.le_of_ble_eq_true rfl⟩ hl.1 [0, 1, 2, 3, 4, 5, 6, 19, 20, 21, 22, 23, 24] [7, 8, 9, 10, 11, 12, 13, 14, 15, 16, 17, 18, 25, 26, 27, 28, 29, 30, 31, 32, 33, 34, 35, 36, 37, 38, 39] rfl rfl (by decide) (by decide) (by decide) 0 11 rfl rfl rfl trivial (fun r_2 H locs hp_3 _ hP hD hS hz_ hk_ => ?_)
    have hP : va_P D vwCl [(t0, .inr (8, [.ref t1, .int 0])), (t1, .inl (κ 0, 800, .inl (fun _ => 0))), (f0, .inr (2, [.int 0, .int (-1), .int (-1), .int (-1), .int (-1), .int 0])), (r0, .inr (4, [.ref t0, .ref n1, .ref f0, .ref b0, .int 0, .int (-1), .ref r1, .int 0, .ref r2, .ref r3, .int 0, .null, .ref r4, .int 0])), (b0, .inr (0, [.ref b1, .int 0, .long 0])), (b1, .inl (κ 1, 0, .inl (fun _ => 0))), (r1, .inl (κ 1, 20, .inl (fun _ => 0))), (r2, .inl (κ 2, 8, .inr (.inr (.inr (.inr (fun _ => none)))))), (r3, .inl (κ 0, 8, .inl (fun _ => 0))), (r4, .inl (κ 2, 320, .inr (.inr (.inr (.inr (fun _ => none)))))), (w0, .inr (10, [.ref n1, .ref w1, .int 0])), (w1, .inl (κ 1, 6000, .inl (fun _ => 0))), (m0, .inr (12, [.ref a0, .ref a1, .ref a2, .int 0, .int 0, .ref a5, .int 0, .int 0, .int (-1), .int (-1), .int 0, .int 0, .int 0, .int 0, .ref a14, .ref a15, .ref a16, .ref a17, .int 0, .int 0, .ref a20, .ref a21, .int 0, .ref a23, .ref a24, .ref a25, .int 0, .int 0, .ref a28, .int 0])), (a0, .inl (κ 0, 21375, .inl wf0)), (a1, .inl (κ 0, 21375, .inl (fun _ => 0))), (a2, .inl (κ 0, 128214, .inl (fun _ => 0))), (a5, .inl (κ 0, 800, .inl (fun _ => 0))), (a14, .inl (κ 0, 189, .inl (fun _ => 0))), (a15, .inl (κ 0, 9, .inl (fun _ => 0))), (a16, .inl (κ 0, 9, .inl (fun _ => 0))), (a17, .inl (κ 0, 7123, .inl (fun _ => 0))), (a20, .inl (κ 0, 801, .inl (fun _ => 0))), (a21, .inl (κ 0, 40, .inl (fun _ => 0))), (a23, .inl (κ 0, 40, .inl (fun _ => 0))), (a24, .inl (κ 0, 40, .inl (fun _ => 0))), (a25, .inl (κ 0, 6000, .inl (fun _ => 0))), (a28, .inl (κ 0, 400, .inl (fun _ => 0)))] H := hP
    have hD : va_D A [(t0, .inr (8, [.ref t1, .int 0])), (t1, .inl (κ 0, 800, .inl (fun _ => 0))), (f0, .inr (2, [.int 0, .int (-1), .int (-1), .int (-1), .int (-1), .int 0])), (r0, .inr (4, [.ref t0, .ref n1, .ref f0, .ref b0, .int 0, .int (-1), .ref r1, .int 0, .ref r2, .ref r3, .int 0, .null, .ref r4, .int 0])), (b0, .inr (0, [.ref b1, .int 0, .long 0])), (b1, .inl (κ 1, 0, .inl (fun _ => 0))), (r1, .inl (κ 1, 20, .inl (fun _ => 0))), (r2, .inl (κ 2, 8, .inr (.inr (.inr (.inr (fun _ => none)))))), (r3, .inl (κ 0, 8, .inl (fun _ => 0))), (r4, .inl (κ 2, 320, .inr (.inr (.inr (.inr (fun _ => none)))))), (w0, .inr (10, [.ref n1, .ref w1, .int 0])), (w1, .inl (κ 1, 6000, .inl (fun _ => 0))), (m0, .inr (12, [.ref a0, .ref a1, .ref a2, .int 0, .int 0, .ref a5, .int 0, .int 0, .int (-1), .int (-1), .int 0, .int 0, .int 0, .int 0, .ref a14, .ref a15, .ref a16, .ref a17, .int 0, .int 0, .ref a20, .ref a21, .int 0, .ref a23, .ref a24, .ref a25, .int 0, .int 0, .ref a28, .int 0])), (a0, .inl (κ 0, 21375, .inl wf0)), (a1, .inl (κ 0, 21375, .inl (fun _ => 0))), (a2, .inl (κ 0, 128214, .inl (fun _ => 0))), (a5, .inl (κ 0, 800, .inl (fun _ => 0))), (a14, .inl (κ 0, 189, .inl (fun _ => 0))), (a15, .inl (κ 0, 9, .inl (fun _ => 0))), (a16, .inl (κ 0, 9, .inl (fun _ => 0))), (a17, .inl (κ 0, 7123, .inl (fun _ => 0))), (a20, .inl (κ 0, 801, .inl (fun _ => 0))), (a21, .inl (κ 0, 40, .inl (fun _ => 0))), (a23, .inl (κ 0, 40, .inl (fun _ => 0))), (a24, .inl (κ 0, 40, .inl (fun _ => 0))), (a25, .inl (κ 0, 6000, .inl (fun _ => 0))), (a28, .inl (κ 0, 400, .inl (fun _ => 0)))] := hD
    have hp_3 : (r_2 = 1 ∧ ¬ (0 : Int32) = 0) ∨ (r_2 = 0 ∧ (0 : Int32) = 0) := hp_3
    rcases hp_3 with ⟨rfl, a_4⟩ | ⟨rfl, a_5⟩
    · refine W.eq (g2 := F0 m 1577 ls [.int 1]) rfl ?_
      refine lv_aload_n hx hb dL_law_1577 rfl (lv_at hl 1 rfl) ?_
      refine lv_aload_n hx hb dL_law_1578 rfl (lv_at hl 3 rfl) ?_
      refine lv_iload_n hx hb dL_law_1579 rfl (lv_at hl 0 rfl) ?_
      refine lv_iconst (v := 1) hx hb dL_law_1580 (by decide) ?_
      refine lv_iadd hx hb dL_law_1581 ?_
      refine ki (v := 1) (by decide) ?_
      refine va_sld hx hb hX hbl hbA hS (i := 1) (vp_k (by decide)) dL_law_1582 ?_
      refine kv (v := .int (xs 1)) rfl ?_
      refine lv_if_eq (tgt := 1590) hx hb dL_law_1583 (by decide) (fun c_6 => ?_) (fun c_6 => absurd c_1 c_6)
      refine lv_iconst (v := 0) hx hb dL_law_1590 (by decide) ?_
      refine ct_V (wr := [(t0, .inr (8, [.ref t1, .int 0])), (t1, .inl (κ 0, 800, .inl (fun _ => 0))), (f0, .inr (2, [.int 0, .int (-1), .int (-1), .int (-1), .int (-1), .int 0])), (r0, .inr (4, [.ref t0, .ref n1, .ref f0, .ref b0, .int 0, .int (-1), .ref r1, .int 0, .ref r2, .ref r3, .int 0, .null, .ref r4, .int 0])), (b0, .inr (0, [.ref b1, .int 0, .long 0])), (b1, .inl (κ 1, 0, .inl (fun _ => 0))), (r1, .inl (κ 1, 20, .inl (fun _ => 0))), (r2, .inl (κ 2, 8, .inr (.inr (.inr (.inr (fun _ => none)))))), (r3, .inl (κ 0, 8, .inl (fun _ => 0))), (r4, .inl (κ 2, 320, .inr (.inr (.inr (.inr (fun _ => none)))))), (w0, .inr (10, [.ref n1, .ref w1, .int 0])), (w1, .inl (κ 1, 6000, .inl (fun _ => 0))), (a2, .inl (κ 0, 128214, .inl (fun _ => 0))), (a5, .inl (κ 0, 800, .inl (fun _ => 0))), (a14, .inl (κ 0, 189, .inl (fun _ => 0))), (a15, .inl (κ 0, 9, .inl (fun _ => 0))), (a16, .inl (κ 0, 9, .inl (fun _ => 0))), (a17, .inl (κ 0, 7123, .inl (fun _ => 0))), (a20, .inl (κ 0, 801, .inl (fun _ => 0))), (a21, .inl (κ 0, 40, .inl (fun _ => 0))), (a23, .inl (κ 0, 40, .inl (fun _ => 0))), (a24, .inl (κ 0, 40, .inl (fun _ => 0))), (a25, .inl (κ 0, 6000, .inl (fun _ => 0))), (a28, .inl (κ 0, 400, .inl (fun _ => 0)))]) (As := [.int 0]) (rest := [.int 1]) hFX hKK hP hD hS hA (c_X12_image l D κ m0 a0 a1 a2 a5 a14 a15 a16 a17 a20 a21 a23 a24 a25 a28 0) 1 gV_L_169 hdV_X12_image ⟨Nat.le_of_ble_eq_true rfl, Nat.le_of_ble_eq_true rfl⟩ rfl rfl (Nat.le_of_ble_eq_true rfl) dL_law_1591 ⟨Nat.le_of_ble_eq_true rfl, Nat.le_of_ble_eq_true rfl⟩ hl.1 [12, 13, 14] [0, 1, 2, 3, 4, 5, 6, 7, 8, 9, 10, 11, 15, 16, 17, 18, 19, 20, 21, 22, 23, 24, 25, 26] rfl rfl (by decide) (by decide) (by decide) 12 12 rfl rfl rfl trivial (fun r_7 H locs hp_8 _ hP hD hS hz_ hk_ => ?_)
      have hP : va_P D vwCl [(t0, .inr (8, [.ref t1, .int 0])), (t1, .inl (κ 0, 800, .inl (fun _ => 0))), (f0, .inr (2, [.int 0, .int (-1), .int (-1), .int (-1), .int (-1), .int 0])), (r0, .inr (4, [.ref t0, .ref n1, .ref f0, .ref b0, .int 0, .int (-1), .ref r1, .int 0, .ref r2, .ref r3, .int 0, .null, .ref r4, .int 0])), (b0, .inr (0, [.ref b1, .int 0, .long 0])), (b1, .inl (κ 1, 0, .inl (fun _ => 0))), (r1, .inl (κ 1, 20, .inl (fun _ => 0))), (r2, .inl (κ 2, 8, .inr (.inr (.inr (.inr (fun _ => none)))))), (r3, .inl (κ 0, 8, .inl (fun _ => 0))), (r4, .inl (κ 2, 320, .inr (.inr (.inr (.inr (fun _ => none)))))), (w0, .inr (10, [.ref n1, .ref w1, .int 0])), (w1, .inl (κ 1, 6000, .inl (fun _ => 0))), (a2, .inl (κ 0, 128214, .inl (fun _ => 0))), (a5, .inl (κ 0, 800, .inl (fun _ => 0))), (a14, .inl (κ 0, 189, .inl (fun _ => 0))), (a15, .inl (κ 0, 9, .inl (fun _ => 0))), (a16, .inl (κ 0, 9, .inl (fun _ => 0))), (a17, .inl (κ 0, 7123, .inl (fun _ => 0))), (a20, .inl (κ 0, 801, .inl (fun _ => 0))), (a21, .inl (κ 0, 40, .inl (fun _ => 0))), (a23, .inl (κ 0, 40, .inl (fun _ => 0))), (a24, .inl (κ 0, 40, .inl (fun _ => 0))), (a25, .inl (κ 0, 6000, .inl (fun _ => 0))), (a28, .inl (κ 0, 400, .inl (fun _ => 0)))] H := hP
      have hD : va_D A [(t0, .inr (8, [.ref t1, .int 0])), (t1, .inl (κ 0, 800, .inl (fun _ => 0))), (f0, .inr (2, [.int 0, .int (-1), .int (-1), .int (-1), .int (-1), .int 0])), (r0, .inr (4, [.ref t0, .ref n1, .ref f0, .ref b0, .int 0, .int (-1), .ref r1, .int 0, .ref r2, .ref r3, .int 0, .null, .ref r4, .int 0])), (b0, .inr (0, [.ref b1, .int 0, .long 0])), (b1, .inl (κ 1, 0, .inl (fun _ => 0))), (r1, .inl (κ 1, 20, .inl (fun _ => 0))), (r2, .inl (κ 2, 8, .inr (.inr (.inr (.inr (fun _ => none)))))), (r3, .inl (κ 0, 8, .inl (fun _ => 0))), (r4, .inl (κ 2, 320, .inr (.inr (.inr (.inr (fun _ => none)))))), (w0, .inr (10, [.ref n1, .ref w1, .int 0])), (w1, .inl (κ 1, 6000, .inl (fun _ => 0))), (a2, .inl (κ 0, 128214, .inl (fun _ => 0))), (a5, .inl (κ 0, 800, .inl (fun _ => 0))), (a14, .inl (κ 0, 189, .inl (fun _ => 0))), (a15, .inl (κ 0, 9, .inl (fun _ => 0))), (a16, .inl (κ 0, 9, .inl (fun _ => 0))), (a17, .inl (κ 0, 7123, .inl (fun _ => 0))), (a20, .inl (κ 0, 801, .inl (fun _ => 0))), (a21, .inl (κ 0, 40, .inl (fun _ => 0))), (a23, .inl (κ 0, 40, .inl (fun _ => 0))), (a24, .inl (κ 0, 40, .inl (fun _ => 0))), (a25, .inl (κ 0, 6000, .inl (fun _ => 0))), (a28, .inl (κ 0, 400, .inl (fun _ => 0)))] := hD
      have hp_8 : (r_7 = 1 ∧ ¬ (0 : Int32) = 0) ∨ (r_7 = 0 ∧ (0 : Int32) = 0) := hp_8
      rcases hp_8 with ⟨rfl, a_9⟩ | ⟨rfl, a_10⟩
      · refine W.eq (g2 := F0 m 1594 ls [.int 1, .int 1]) rfl ?_
        refine lv_icmp_eq (tgt := 1622) hx hb dL_law_1594 (by decide) (fun c_11 => ?_) (fun c_11 => absurd (by decide) c_11)
        exact law_tail C0 hA hAq hS hl (Nat.le_of_ble_eq_true rfl) (Nat.le_of_ble_eq_true rfl)
      · refine W.eq (g2 := F0 m 1594 ls [.int 0, .int 1]) rfl ?_
        refine lv_icmp_eq (tgt := 1622) hx hb dL_law_1594 (by decide) (fun c_12 => absurd c_12 (by decide)) (fun c_12 => ?_)
        first | exact absurd a_4 (by decide) | exact absurd a_10 (by decide) | exact absurd (by decide) a_4 | exact absurd (by decide) a_10 | exact absurd a_4 a_10 | exact absurd a_10 a_4
    · refine W.eq (g2 := F0 m 1577 ls [.int 0]) rfl ?_
      refine lv_aload_n hx hb dL_law_1577 rfl (lv_at hl 1 rfl) ?_
      refine lv_aload_n hx hb dL_law_1578 rfl (lv_at hl 3 rfl) ?_
      refine lv_iload_n hx hb dL_law_1579 rfl (lv_at hl 0 rfl) ?_
      refine lv_iconst (v := 1) hx hb dL_law_1580 (by decide) ?_
      refine lv_iadd hx hb dL_law_1581 ?_
      refine ki (v := 1) (by decide) ?_
      refine va_sld hx hb hX hbl hbA hS (i := 1) (vp_k (by decide)) dL_law_1582 ?_
      refine kv (v := .int (xs 1)) rfl ?_
      refine lv_if_eq (tgt := 1590) hx hb dL_law_1583 (by decide) (fun c_13 => ?_) (fun c_13 => absurd c_1 c_13)
      refine lv_iconst (v := 0) hx hb dL_law_1590 (by decide) ?_
      refine ct_V (wr := [(t0, .inr (8, [.ref t1, .int 0])), (t1, .inl (κ 0, 800, .inl (fun _ => 0))), (f0, .inr (2, [.int 0, .int (-1), .int (-1), .int (-1), .int (-1), .int 0])), (r0, .inr (4, [.ref t0, .ref n1, .ref f0, .ref b0, .int 0, .int (-1), .ref r1, .int 0, .ref r2, .ref r3, .int 0, .null, .ref r4, .int 0])), (b0, .inr (0, [.ref b1, .int 0, .long 0])), (b1, .inl (κ 1, 0, .inl (fun _ => 0))), (r1, .inl (κ 1, 20, .inl (fun _ => 0))), (r2, .inl (κ 2, 8, .inr (.inr (.inr (.inr (fun _ => none)))))), (r3, .inl (κ 0, 8, .inl (fun _ => 0))), (r4, .inl (κ 2, 320, .inr (.inr (.inr (.inr (fun _ => none)))))), (w0, .inr (10, [.ref n1, .ref w1, .int 0])), (w1, .inl (κ 1, 6000, .inl (fun _ => 0))), (a2, .inl (κ 0, 128214, .inl (fun _ => 0))), (a5, .inl (κ 0, 800, .inl (fun _ => 0))), (a14, .inl (κ 0, 189, .inl (fun _ => 0))), (a15, .inl (κ 0, 9, .inl (fun _ => 0))), (a16, .inl (κ 0, 9, .inl (fun _ => 0))), (a17, .inl (κ 0, 7123, .inl (fun _ => 0))), (a20, .inl (κ 0, 801, .inl (fun _ => 0))), (a21, .inl (κ 0, 40, .inl (fun _ => 0))), (a23, .inl (κ 0, 40, .inl (fun _ => 0))), (a24, .inl (κ 0, 40, .inl (fun _ => 0))), (a25, .inl (κ 0, 6000, .inl (fun _ => 0))), (a28, .inl (κ 0, 400, .inl (fun _ => 0)))]) (As := [.int 0]) (rest := [.int 0]) hFX hKK hP hD hS hA (c_X12_image l D κ m0 a0 a1 a2 a5 a14 a15 a16 a17 a20 a21 a23 a24 a25 a28 0) 1 gV_L_169 hdV_X12_image ⟨Nat.le_of_ble_eq_true rfl, Nat.le_of_ble_eq_true rfl⟩ rfl rfl (Nat.le_of_ble_eq_true rfl) dL_law_1591 ⟨Nat.le_of_ble_eq_true rfl, Nat.le_of_ble_eq_true rfl⟩ hl.1 [12, 13, 14] [0, 1, 2, 3, 4, 5, 6, 7, 8, 9, 10, 11, 15, 16, 17, 18, 19, 20, 21, 22, 23, 24, 25, 26] rfl rfl (by decide) (by decide) (by decide) 12 12 rfl rfl rfl trivial (fun r_14 H locs hp_15 _ hP hD hS hz_ hk_ => ?_)
      have hP : va_P D vwCl [(t0, .inr (8, [.ref t1, .int 0])), (t1, .inl (κ 0, 800, .inl (fun _ => 0))), (f0, .inr (2, [.int 0, .int (-1), .int (-1), .int (-1), .int (-1), .int 0])), (r0, .inr (4, [.ref t0, .ref n1, .ref f0, .ref b0, .int 0, .int (-1), .ref r1, .int 0, .ref r2, .ref r3, .int 0, .null, .ref r4, .int 0])), (b0, .inr (0, [.ref b1, .int 0, .long 0])), (b1, .inl (κ 1, 0, .inl (fun _ => 0))), (r1, .inl (κ 1, 20, .inl (fun _ => 0))), (r2, .inl (κ 2, 8, .inr (.inr (.inr (.inr (fun _ => none)))))), (r3, .inl (κ 0, 8, .inl (fun _ => 0))), (r4, .inl (κ 2, 320, .inr (.inr (.inr (.inr (fun _ => none)))))), (w0, .inr (10, [.ref n1, .ref w1, .int 0])), (w1, .inl (κ 1, 6000, .inl (fun _ => 0))), (a2, .inl (κ 0, 128214, .inl (fun _ => 0))), (a5, .inl (κ 0, 800, .inl (fun _ => 0))), (a14, .inl (κ 0, 189, .inl (fun _ => 0))), (a15, .inl (κ 0, 9, .inl (fun _ => 0))), (a16, .inl (κ 0, 9, .inl (fun _ => 0))), (a17, .inl (κ 0, 7123, .inl (fun _ => 0))), (a20, .inl (κ 0, 801, .inl (fun _ => 0))), (a21, .inl (κ 0, 40, .inl (fun _ => 0))), (a23, .inl (κ 0, 40, .inl (fun _ => 0))), (a24, .inl (κ 0, 40, .inl (fun _ => 0))), (a25, .inl (κ 0, 6000, .inl (fun _ => 0))), (a28, .inl (κ 0, 400, .inl (fun _ => 0)))] H := hP
      have hD : va_D A [(t0, .inr (8, [.ref t1, .int 0])), (t1, .inl (κ 0, 800, .inl (fun _ => 0))), (f0, .inr (2, [.int 0, .int (-1), .int (-1), .int (-1), .int (-1), .int 0])), (r0, .inr (4, [.ref t0, .ref n1, .ref f0, .ref b0, .int 0, .int (-1), .ref r1, .int 0, .ref r2, .ref r3, .int 0, .null, .ref r4, .int 0])), (b0, .inr (0, [.ref b1, .int 0, .long 0])), (b1, .inl (κ 1, 0, .inl (fun _ => 0))), (r1, .inl (κ 1, 20, .inl (fun _ => 0))), (r2, .inl (κ 2, 8, .inr (.inr (.inr (.inr (fun _ => none)))))), (r3, .inl (κ 0, 8, .inl (fun _ => 0))), (r4, .inl (κ 2, 320, .inr (.inr (.inr (.inr (fun _ => none)))))), (w0, .inr (10, [.ref n1, .ref w1, .int 0])), (w1, .inl (κ 1, 6000, .inl (fun _ => 0))), (a2, .inl (κ 0, 128214, .inl (fun _ => 0))), (a5, .inl (κ 0, 800, .inl (fun _ => 0))), (a14, .inl (κ 0, 189, .inl (fun _ => 0))), (a15, .inl (κ 0, 9, .inl (fun _ => 0))), (a16, .inl (κ 0, 9, .inl (fun _ => 0))), (a17, .inl (κ 0, 7123, .inl (fun _ => 0))), (a20, .inl (κ 0, 801, .inl (fun _ => 0))), (a21, .inl (κ 0, 40, .inl (fun _ => 0))), (a23, .inl (κ 0, 40, .inl (fun _ => 0))), (a24, .inl (κ 0, 40, .inl (fun _ => 0))), (a25, .inl (κ 0, 6000, .inl (fun _ => 0))), (a28, .inl (κ 0, 400, .inl (fun _ => 0)))] := hD
      have hp_15 : (r_14 = 1 ∧ ¬ (0 : Int32) = 0) ∨ (r_14 = 0 ∧ (0 : Int32) = 0) := hp_15
      rcases hp_15 with ⟨rfl, a_16⟩ | ⟨rfl, a_17⟩
      · refine W.eq (g2 := F0 m 1594 ls [.int 1, .int 0]) rfl ?_
        refine lv_icmp_eq (tgt := 1622) hx hb dL_law_1594 (by decide) (fun c_18 => absurd c_18 (by decide)) (fun c_18 => ?_)
        first | exact absurd a_5 (by decide) | exact absurd a_16 (by decide) | exact absurd (by decide) a_5 | exact absurd (by decide) a_16 | exact absurd a_5 a_16 | exact absurd a_16 a_5
      · refine W.eq (g2 := F0 m 1594 ls [.int 0, .int 0]) rfl ?_
        refine lv_icmp_eq (tgt := 1622) hx hb dL_law_1594 (by decide) (fun c_19 => ?_) (fun c_19 => absurd (by decide) c_19)
        exact law_tail C0 hA hAq hS hl (Nat.le_of_ble_eq_true rfl) (Nat.le_of_ble_eq_true rfl)
  · refine lv_iconst (v := 1) hx hb dL_law_1569 (by decide) ?_
    refine lv_goto (tgt := 1574) hx hb dL_law_1570 (by decide) ?_
    refine ct_V (wr := [(t0, .inr (8, [.ref t1, .int 0])), (t1, .inl (κ 0, 800, .inl (fun _ => 0))), (f0, .inr (2, [.int 0, .int (-1), .int (-1), .int (-1), .int (-1), .int 0])), (r0, .inr (4, [.ref t0, .ref n1, .ref f0, .ref b0, .int 0, .int (-1), .ref r1, .int 0, .ref r2, .ref r3, .int 0, .null, .ref r4, .int 0])), (b0, .inr (0, [.ref b1, .int 0, .long 0])), (b1, .inl (κ 1, 0, .inl (fun _ => 0))), (r1, .inl (κ 1, 20, .inl (fun _ => 0))), (r2, .inl (κ 2, 8, .inr (.inr (.inr (.inr (fun _ => none)))))), (r3, .inl (κ 0, 8, .inl (fun _ => 0))), (r4, .inl (κ 2, 320, .inr (.inr (.inr (.inr (fun _ => none)))))), (w0, .inr (10, [.ref n1, .ref w1, .int 0])), (w1, .inl (κ 1, 6000, .inl (fun _ => 0))), (m0, .inr (12, [.ref a0, .ref a1, .ref a2, .int 0, .int 0, .ref a5, .int 0, .int 0, .int (-1), .int (-1), .int 0, .int 0, .int 0, .int 0, .ref a14, .ref a15, .ref a16, .ref a17, .int 0, .int 0, .ref a20, .ref a21, .int 0, .ref a23, .ref a24, .ref a25, .int 0, .int 0, .ref a28, .int 0])), (a0, .inl (κ 0, 21375, .inl wf0)), (a1, .inl (κ 0, 21375, .inl (fun _ => 0))), (a2, .inl (κ 0, 128214, .inl (fun _ => 0))), (a5, .inl (κ 0, 800, .inl (fun _ => 0))), (a14, .inl (κ 0, 189, .inl (fun _ => 0))), (a15, .inl (κ 0, 9, .inl (fun _ => 0))), (a16, .inl (κ 0, 9, .inl (fun _ => 0))), (a17, .inl (κ 0, 7123, .inl (fun _ => 0))), (a20, .inl (κ 0, 801, .inl (fun _ => 0))), (a21, .inl (κ 0, 40, .inl (fun _ => 0))), (a23, .inl (κ 0, 40, .inl (fun _ => 0))), (a24, .inl (κ 0, 40, .inl (fun _ => 0))), (a25, .inl (κ 0, 6000, .inl (fun _ => 0))), (a28, .inl (κ 0, 400, .inl (fun _ => 0)))]) (As := [.int 1]) (rest := []) hFX hKK hP hD hS hA (c_X11_image l D κ x0 n0 t0 f0 r0 w0 k0 n1 n2 n3 n4 n5 k1 k2 k3 k4 k5 1) 1 gV_L_165 hdV_X11_image ⟨Nat.le_of_ble_eq_true rfl, Nat.le_of_ble_eq_true rfl⟩ rfl rfl (Nat.le_of_ble_eq_true rfl) dL_law_1574 ⟨Nat.le_of_ble_eq_true rfl, Nat.le_of_ble_eq_true rfl⟩ hl.1 [0, 1, 2, 3, 4, 5, 6, 19, 20, 21, 22, 23, 24] [7, 8, 9, 10, 11, 12, 13, 14, 15, 16, 17, 18, 25, 26, 27, 28, 29, 30, 31, 32, 33, 34, 35, 36, 37, 38, 39] rfl rfl (by decide) (by decide) (by decide) 0 11 rfl rfl rfl trivial (fun r_20 H locs hp_21 _ hP hD hS hz_ hk_ => ?_)
    have hP : va_P D vwCl [(t0, .inr (8, [.ref t1, .int 0])), (t1, .inl (κ 0, 800, .inl (fun _ => 0))), (f0, .inr (2, [.int 0, .int (-1), .int (-1), .int (-1), .int (-1), .int 0])), (r0, .inr (4, [.ref t0, .ref n1, .ref f0, .ref b0, .int 0, .int (-1), .ref r1, .int 0, .ref r2, .ref r3, .int 0, .null, .ref r4, .int 0])), (b0, .inr (0, [.ref b1, .int 0, .long 0])), (b1, .inl (κ 1, 0, .inl (fun _ => 0))), (r1, .inl (κ 1, 20, .inl (fun _ => 0))), (r2, .inl (κ 2, 8, .inr (.inr (.inr (.inr (fun _ => none)))))), (r3, .inl (κ 0, 8, .inl (fun _ => 0))), (r4, .inl (κ 2, 320, .inr (.inr (.inr (.inr (fun _ => none)))))), (w0, .inr (10, [.ref n1, .ref w1, .int 0])), (w1, .inl (κ 1, 6000, .inl (fun _ => 0))), (m0, .inr (12, [.ref a0, .ref a1, .ref a2, .int 0, .int 0, .ref a5, .int 0, .int 0, .int (-1), .int (-1), .int 0, .int 0, .int 0, .int 0, .ref a14, .ref a15, .ref a16, .ref a17, .int 0, .int 0, .ref a20, .ref a21, .int 0, .ref a23, .ref a24, .ref a25, .int 0, .int 0, .ref a28, .int 0])), (a0, .inl (κ 0, 21375, .inl wf0)), (a1, .inl (κ 0, 21375, .inl (fun _ => 0))), (a2, .inl (κ 0, 128214, .inl (fun _ => 0))), (a5, .inl (κ 0, 800, .inl (fun _ => 0))), (a14, .inl (κ 0, 189, .inl (fun _ => 0))), (a15, .inl (κ 0, 9, .inl (fun _ => 0))), (a16, .inl (κ 0, 9, .inl (fun _ => 0))), (a17, .inl (κ 0, 7123, .inl (fun _ => 0))), (a20, .inl (κ 0, 801, .inl (fun _ => 0))), (a21, .inl (κ 0, 40, .inl (fun _ => 0))), (a23, .inl (κ 0, 40, .inl (fun _ => 0))), (a24, .inl (κ 0, 40, .inl (fun _ => 0))), (a25, .inl (κ 0, 6000, .inl (fun _ => 0))), (a28, .inl (κ 0, 400, .inl (fun _ => 0)))] H := hP
    have hD : va_D A [(t0, .inr (8, [.ref t1, .int 0])), (t1, .inl (κ 0, 800, .inl (fun _ => 0))), (f0, .inr (2, [.int 0, .int (-1), .int (-1), .int (-1), .int (-1), .int 0])), (r0, .inr (4, [.ref t0, .ref n1, .ref f0, .ref b0, .int 0, .int (-1), .ref r1, .int 0, .ref r2, .ref r3, .int 0, .null, .ref r4, .int 0])), (b0, .inr (0, [.ref b1, .int 0, .long 0])), (b1, .inl (κ 1, 0, .inl (fun _ => 0))), (r1, .inl (κ 1, 20, .inl (fun _ => 0))), (r2, .inl (κ 2, 8, .inr (.inr (.inr (.inr (fun _ => none)))))), (r3, .inl (κ 0, 8, .inl (fun _ => 0))), (r4, .inl (κ 2, 320, .inr (.inr (.inr (.inr (fun _ => none)))))), (w0, .inr (10, [.ref n1, .ref w1, .int 0])), (w1, .inl (κ 1, 6000, .inl (fun _ => 0))), (m0, .inr (12, [.ref a0, .ref a1, .ref a2, .int 0, .int 0, .ref a5, .int 0, .int 0, .int (-1), .int (-1), .int 0, .int 0, .int 0, .int 0, .ref a14, .ref a15, .ref a16, .ref a17, .int 0, .int 0, .ref a20, .ref a21, .int 0, .ref a23, .ref a24, .ref a25, .int 0, .int 0, .ref a28, .int 0])), (a0, .inl (κ 0, 21375, .inl wf0)), (a1, .inl (κ 0, 21375, .inl (fun _ => 0))), (a2, .inl (κ 0, 128214, .inl (fun _ => 0))), (a5, .inl (κ 0, 800, .inl (fun _ => 0))), (a14, .inl (κ 0, 189, .inl (fun _ => 0))), (a15, .inl (κ 0, 9, .inl (fun _ => 0))), (a16, .inl (κ 0, 9, .inl (fun _ => 0))), (a17, .inl (κ 0, 7123, .inl (fun _ => 0))), (a20, .inl (κ 0, 801, .inl (fun _ => 0))), (a21, .inl (κ 0, 40, .inl (fun _ => 0))), (a23, .inl (κ 0, 40, .inl (fun _ => 0))), (a24, .inl (κ 0, 40, .inl (fun _ => 0))), (a25, .inl (κ 0, 6000, .inl (fun _ => 0))), (a28, .inl (κ 0, 400, .inl (fun _ => 0)))] := hD
    have hp_21 : (r_20 = 1 ∧ ¬ (1 : Int32) = 0) ∨ (r_20 = 0 ∧ (1 : Int32) = 0) := hp_21
    rcases hp_21 with ⟨rfl, a_22⟩ | ⟨rfl, a_23⟩
    · refine W.eq (g2 := F0 m 1577 ls [.int 1]) rfl ?_
      refine lv_aload_n hx hb dL_law_1577 rfl (lv_at hl 1 rfl) ?_
      refine lv_aload_n hx hb dL_law_1578 rfl (lv_at hl 3 rfl) ?_
      refine lv_iload_n hx hb dL_law_1579 rfl (lv_at hl 0 rfl) ?_
      refine lv_iconst (v := 1) hx hb dL_law_1580 (by decide) ?_
      refine lv_iadd hx hb dL_law_1581 ?_
      refine ki (v := 1) (by decide) ?_
      refine va_sld hx hb hX hbl hbA hS (i := 1) (vp_k (by decide)) dL_law_1582 ?_
      refine kv (v := .int (xs 1)) rfl ?_
      refine lv_if_eq (tgt := 1590) hx hb dL_law_1583 (by decide) (fun c_24 => absurd c_24 c_1) (fun c_24 => ?_)
      refine lv_iconst (v := 1) hx hb dL_law_1586 (by decide) ?_
      refine lv_goto (tgt := 1591) hx hb dL_law_1587 (by decide) ?_
      refine ct_V (wr := [(t0, .inr (8, [.ref t1, .int 0])), (t1, .inl (κ 0, 800, .inl (fun _ => 0))), (f0, .inr (2, [.int 0, .int (-1), .int (-1), .int (-1), .int (-1), .int 0])), (r0, .inr (4, [.ref t0, .ref n1, .ref f0, .ref b0, .int 0, .int (-1), .ref r1, .int 0, .ref r2, .ref r3, .int 0, .null, .ref r4, .int 0])), (b0, .inr (0, [.ref b1, .int 0, .long 0])), (b1, .inl (κ 1, 0, .inl (fun _ => 0))), (r1, .inl (κ 1, 20, .inl (fun _ => 0))), (r2, .inl (κ 2, 8, .inr (.inr (.inr (.inr (fun _ => none)))))), (r3, .inl (κ 0, 8, .inl (fun _ => 0))), (r4, .inl (κ 2, 320, .inr (.inr (.inr (.inr (fun _ => none)))))), (w0, .inr (10, [.ref n1, .ref w1, .int 0])), (w1, .inl (κ 1, 6000, .inl (fun _ => 0))), (a2, .inl (κ 0, 128214, .inl (fun _ => 0))), (a5, .inl (κ 0, 800, .inl (fun _ => 0))), (a14, .inl (κ 0, 189, .inl (fun _ => 0))), (a15, .inl (κ 0, 9, .inl (fun _ => 0))), (a16, .inl (κ 0, 9, .inl (fun _ => 0))), (a17, .inl (κ 0, 7123, .inl (fun _ => 0))), (a20, .inl (κ 0, 801, .inl (fun _ => 0))), (a21, .inl (κ 0, 40, .inl (fun _ => 0))), (a23, .inl (κ 0, 40, .inl (fun _ => 0))), (a24, .inl (κ 0, 40, .inl (fun _ => 0))), (a25, .inl (κ 0, 6000, .inl (fun _ => 0))), (a28, .inl (κ 0, 400, .inl (fun _ => 0)))]) (As := [.int 1]) (rest := [.int 1]) hFX hKK hP hD hS hA (c_X12_image l D κ m0 a0 a1 a2 a5 a14 a15 a16 a17 a20 a21 a23 a24 a25 a28 1) 1 gV_L_169 hdV_X12_image ⟨Nat.le_of_ble_eq_true rfl, Nat.le_of_ble_eq_true rfl⟩ rfl rfl (Nat.le_of_ble_eq_true rfl) dL_law_1591 ⟨Nat.le_of_ble_eq_true rfl, Nat.le_of_ble_eq_true rfl⟩ hl.1 [12, 13, 14] [0, 1, 2, 3, 4, 5, 6, 7, 8, 9, 10, 11, 15, 16, 17, 18, 19, 20, 21, 22, 23, 24, 25, 26] rfl rfl (by decide) (by decide) (by decide) 12 12 rfl rfl rfl trivial (fun r_25 H locs hp_26 _ hP hD hS hz_ hk_ => ?_)
      have hP : va_P D vwCl [(t0, .inr (8, [.ref t1, .int 0])), (t1, .inl (κ 0, 800, .inl (fun _ => 0))), (f0, .inr (2, [.int 0, .int (-1), .int (-1), .int (-1), .int (-1), .int 0])), (r0, .inr (4, [.ref t0, .ref n1, .ref f0, .ref b0, .int 0, .int (-1), .ref r1, .int 0, .ref r2, .ref r3, .int 0, .null, .ref r4, .int 0])), (b0, .inr (0, [.ref b1, .int 0, .long 0])), (b1, .inl (κ 1, 0, .inl (fun _ => 0))), (r1, .inl (κ 1, 20, .inl (fun _ => 0))), (r2, .inl (κ 2, 8, .inr (.inr (.inr (.inr (fun _ => none)))))), (r3, .inl (κ 0, 8, .inl (fun _ => 0))), (r4, .inl (κ 2, 320, .inr (.inr (.inr (.inr (fun _ => none)))))), (w0, .inr (10, [.ref n1, .ref w1, .int 0])), (w1, .inl (κ 1, 6000, .inl (fun _ => 0))), (a2, .inl (κ 0, 128214, .inl (fun _ => 0))), (a5, .inl (κ 0, 800, .inl (fun _ => 0))), (a14, .inl (κ 0, 189, .inl (fun _ => 0))), (a15, .inl (κ 0, 9, .inl (fun _ => 0))), (a16, .inl (κ 0, 9, .inl (fun _ => 0))), (a17, .inl (κ 0, 7123, .inl (fun _ => 0))), (a20, .inl (κ 0, 801, .inl (fun _ => 0))), (a21, .inl (κ 0, 40, .inl (fun _ => 0))), (a23, .inl (κ 0, 40, .inl (fun _ => 0))), (a24, .inl (κ 0, 40, .inl (fun _ => 0))), (a25, .inl (κ 0, 6000, .inl (fun _ => 0))), (a28, .inl (κ 0, 400, .inl (fun _ => 0)))] H := hP
      have hD : va_D A [(t0, .inr (8, [.ref t1, .int 0])), (t1, .inl (κ 0, 800, .inl (fun _ => 0))), (f0, .inr (2, [.int 0, .int (-1), .int (-1), .int (-1), .int (-1), .int 0])), (r0, .inr (4, [.ref t0, .ref n1, .ref f0, .ref b0, .int 0, .int (-1), .ref r1, .int 0, .ref r2, .ref r3, .int 0, .null, .ref r4, .int 0])), (b0, .inr (0, [.ref b1, .int 0, .long 0])), (b1, .inl (κ 1, 0, .inl (fun _ => 0))), (r1, .inl (κ 1, 20, .inl (fun _ => 0))), (r2, .inl (κ 2, 8, .inr (.inr (.inr (.inr (fun _ => none)))))), (r3, .inl (κ 0, 8, .inl (fun _ => 0))), (r4, .inl (κ 2, 320, .inr (.inr (.inr (.inr (fun _ => none)))))), (w0, .inr (10, [.ref n1, .ref w1, .int 0])), (w1, .inl (κ 1, 6000, .inl (fun _ => 0))), (a2, .inl (κ 0, 128214, .inl (fun _ => 0))), (a5, .inl (κ 0, 800, .inl (fun _ => 0))), (a14, .inl (κ 0, 189, .inl (fun _ => 0))), (a15, .inl (κ 0, 9, .inl (fun _ => 0))), (a16, .inl (κ 0, 9, .inl (fun _ => 0))), (a17, .inl (κ 0, 7123, .inl (fun _ => 0))), (a20, .inl (κ 0, 801, .inl (fun _ => 0))), (a21, .inl (κ 0, 40, .inl (fun _ => 0))), (a23, .inl (κ 0, 40, .inl (fun _ => 0))), (a24, .inl (κ 0, 40, .inl (fun _ => 0))), (a25, .inl (κ 0, 6000, .inl (fun _ => 0))), (a28, .inl (κ 0, 400, .inl (fun _ => 0)))] := hD
      have hp_26 : (r_25 = 1 ∧ ¬ (1 : Int32) = 0) ∨ (r_25 = 0 ∧ (1 : Int32) = 0) := hp_26
      rcases hp_26 with ⟨rfl, a_27⟩ | ⟨rfl, a_28⟩
      · refine W.eq (g2 := F0 m 1594 ls [.int 1, .int 1]) rfl ?_
        refine lv_icmp_eq (tgt := 1622) hx hb dL_law_1594 (by decide) (fun c_29 => ?_) (fun c_29 => absurd (by decide) c_29)
        exact law_tail C0 hA hAq hS hl (Nat.le_of_ble_eq_true rfl) (Nat.le_of_ble_eq_true rfl)
      · refine W.eq (g2 := F0 m 1594 ls [.int 0, .int 1]) rfl ?_
        refine lv_icmp_eq (tgt := 1622) hx hb dL_law_1594 (by decide) (fun c_30 => absurd c_30 (by decide)) (fun c_30 => ?_)
        first | exact absurd a_22 (by decide) | exact absurd a_28 (by decide) | exact absurd (by decide) a_22 | exact absurd (by decide) a_28 | exact absurd a_22 a_28 | exact absurd a_28 a_22
    · refine W.eq (g2 := F0 m 1577 ls [.int 0]) rfl ?_
      refine lv_aload_n hx hb dL_law_1577 rfl (lv_at hl 1 rfl) ?_
      refine lv_aload_n hx hb dL_law_1578 rfl (lv_at hl 3 rfl) ?_
      refine lv_iload_n hx hb dL_law_1579 rfl (lv_at hl 0 rfl) ?_
      refine lv_iconst (v := 1) hx hb dL_law_1580 (by decide) ?_
      refine lv_iadd hx hb dL_law_1581 ?_
      refine ki (v := 1) (by decide) ?_
      refine va_sld hx hb hX hbl hbA hS (i := 1) (vp_k (by decide)) dL_law_1582 ?_
      refine kv (v := .int (xs 1)) rfl ?_
      refine lv_if_eq (tgt := 1590) hx hb dL_law_1583 (by decide) (fun c_31 => absurd c_31 c_1) (fun c_31 => ?_)
      refine lv_iconst (v := 1) hx hb dL_law_1586 (by decide) ?_
      refine lv_goto (tgt := 1591) hx hb dL_law_1587 (by decide) ?_
      refine ct_V (wr := [(t0, .inr (8, [.ref t1, .int 0])), (t1, .inl (κ 0, 800, .inl (fun _ => 0))), (f0, .inr (2, [.int 0, .int (-1), .int (-1), .int (-1), .int (-1), .int 0])), (r0, .inr (4, [.ref t0, .ref n1, .ref f0, .ref b0, .int 0, .int (-1), .ref r1, .int 0, .ref r2, .ref r3, .int 0, .null, .ref r4, .int 0])), (b0, .inr (0, [.ref b1, .int 0, .long 0])), (b1, .inl (κ 1, 0, .inl (fun _ => 0))), (r1, .inl (κ 1, 20, .inl (fun _ => 0))), (r2, .inl (κ 2, 8, .inr (.inr (.inr (.inr (fun _ => none)))))), (r3, .inl (κ 0, 8, .inl (fun _ => 0))), (r4, .inl (κ 2, 320, .inr (.inr (.inr (.inr (fun _ => none)))))), (w0, .inr (10, [.ref n1, .ref w1, .int 0])), (w1, .inl (κ 1, 6000, .inl (fun _ => 0))), (a2, .inl (κ 0, 128214, .inl (fun _ => 0))), (a5, .inl (κ 0, 800, .inl (fun _ => 0))), (a14, .inl (κ 0, 189, .inl (fun _ => 0))), (a15, .inl (κ 0, 9, .inl (fun _ => 0))), (a16, .inl (κ 0, 9, .inl (fun _ => 0))), (a17, .inl (κ 0, 7123, .inl (fun _ => 0))), (a20, .inl (κ 0, 801, .inl (fun _ => 0))), (a21, .inl (κ 0, 40, .inl (fun _ => 0))), (a23, .inl (κ 0, 40, .inl (fun _ => 0))), (a24, .inl (κ 0, 40, .inl (fun _ => 0))), (a25, .inl (κ 0, 6000, .inl (fun _ => 0))), (a28, .inl (κ 0, 400, .inl (fun _ => 0)))]) (As := [.int 1]) (rest := [.int 0]) hFX hKK hP hD hS hA (c_X12_image l D κ m0 a0 a1 a2 a5 a14 a15 a16 a17 a20 a21 a23 a24 a25 a28 1) 1 gV_L_169 hdV_X12_image ⟨Nat.le_of_ble_eq_true rfl, Nat.le_of_ble_eq_true rfl⟩ rfl rfl (Nat.le_of_ble_eq_true rfl) dL_law_1591 ⟨Nat.le_of_ble_eq_true rfl, Nat.le_of_ble_eq_true rfl⟩ hl.1 [12, 13, 14] [0, 1, 2, 3, 4, 5, 6, 7, 8, 9, 10, 11, 15, 16, 17, 18, 19, 20, 21, 22, 23, 24, 25, 26] rfl rfl (by decide) (by decide) (by decide) 12 12 rfl rfl rfl trivial (fun r_32 H locs hp_33 _ hP hD hS hz_ hk_ => ?_)
      have hP : va_P D vwCl [(t0, .inr (8, [.ref t1, .int 0])), (t1, .inl (κ 0, 800, .inl (fun _ => 0))), (f0, .inr (2, [.int 0, .int (-1), .int (-1), .int (-1), .int (-1), .int 0])), (r0, .inr (4, [.ref t0, .ref n1, .ref f0, .ref b0, .int 0, .int (-1), .ref r1, .int 0, .ref r2, .ref r3, .int 0, .null, .ref r4, .int 0])), (b0, .inr (0, [.ref b1, .int 0, .long 0])), (b1, .inl (κ 1, 0, .inl (fun _ => 0))), (r1, .inl (κ 1, 20, .inl (fun _ => 0))), (r2, .inl (κ 2, 8, .inr (.inr (.inr (.inr (fun _ => none)))))), (r3, .inl (κ 0, 8, .inl (fun _ => 0))), (r4, .inl (κ 2, 320, .inr (.inr (.inr (.inr (fun _ => none)))))), (w0, .inr (10, [.ref n1, .ref w1, .int 0])), (w1, .inl (κ 1, 6000, .inl (fun _ => 0))), (a2, .inl (κ 0, 128214, .inl (fun _ => 0))), (a5, .inl (κ 0, 800, .inl (fun _ => 0))), (a14, .inl (κ 0, 189, .inl (fun _ => 0))), (a15, .inl (κ 0, 9, .inl (fun _ => 0))), (a16, .inl (κ 0, 9, .inl (fun _ => 0))), (a17, .inl (κ 0, 7123, .inl (fun _ => 0))), (a20, .inl (κ 0, 801, .inl (fun _ => 0))), (a21, .inl (κ 0, 40, .inl (fun _ => 0))), (a23, .inl (κ 0, 40, .inl (fun _ => 0))), (a24, .inl (κ 0, 40, .inl (fun _ => 0))), (a25, .inl (κ 0, 6000, .inl (fun _ => 0))), (a28, .inl (κ 0, 400, .inl (fun _ => 0)))] H := hP
      have hD : va_D A [(t0, .inr (8, [.ref t1, .int 0])), (t1, .inl (κ 0, 800, .inl (fun _ => 0))), (f0, .inr (2, [.int 0, .int (-1), .int (-1), .int (-1), .int (-1), .int 0])), (r0, .inr (4, [.ref t0, .ref n1, .ref f0, .ref b0, .int 0, .int (-1), .ref r1, .int 0, .ref r2, .ref r3, .int 0, .null, .ref r4, .int 0])), (b0, .inr (0, [.ref b1, .int 0, .long 0])), (b1, .inl (κ 1, 0, .inl (fun _ => 0))), (r1, .inl (κ 1, 20, .inl (fun _ => 0))), (r2, .inl (κ 2, 8, .inr (.inr (.inr (.inr (fun _ => none)))))), (r3, .inl (κ 0, 8, .inl (fun _ => 0))), (r4, .inl (κ 2, 320, .inr (.inr (.inr (.inr (fun _ => none)))))), (w0, .inr (10, [.ref n1, .ref w1, .int 0])), (w1, .inl (κ 1, 6000, .inl (fun _ => 0))), (a2, .inl (κ 0, 128214, .inl (fun _ => 0))), (a5, .inl (κ 0, 800, .inl (fun _ => 0))), (a14, .inl (κ 0, 189, .inl (fun _ => 0))), (a15, .inl (κ 0, 9, .inl (fun _ => 0))), (a16, .inl (κ 0, 9, .inl (fun _ => 0))), (a17, .inl (κ 0, 7123, .inl (fun _ => 0))), (a20, .inl (κ 0, 801, .inl (fun _ => 0))), (a21, .inl (κ 0, 40, .inl (fun _ => 0))), (a23, .inl (κ 0, 40, .inl (fun _ => 0))), (a24, .inl (κ 0, 40, .inl (fun _ => 0))), (a25, .inl (κ 0, 6000, .inl (fun _ => 0))), (a28, .inl (κ 0, 400, .inl (fun _ => 0)))] := hD
      have hp_33 : (r_32 = 1 ∧ ¬ (1 : Int32) = 0) ∨ (r_32 = 0 ∧ (1 : Int32) = 0) := hp_33
      rcases hp_33 with ⟨rfl, a_34⟩ | ⟨rfl, a_35⟩
      · refine W.eq (g2 := F0 m 1594 ls [.int 1, .int 0]) rfl ?_
        refine lv_icmp_eq (tgt := 1622) hx hb dL_law_1594 (by decide) (fun c_36 => absurd c_36 (by decide)) (fun c_36 => ?_)
        first | exact absurd a_23 (by decide) | exact absurd a_34 (by decide) | exact absurd (by decide) a_23 | exact absurd (by decide) a_34 | exact absurd a_23 a_34 | exact absurd a_34 a_23
      · refine W.eq (g2 := F0 m 1594 ls [.int 0, .int 0]) rfl ?_
        refine lv_icmp_eq (tgt := 1622) hx hb dL_law_1594 (by decide) (fun c_37 => ?_) (fun c_37 => absurd (by decide) c_37)
        exact law_tail C0 hA hAq hS hl (Nat.le_of_ble_eq_true rfl) (Nat.le_of_ble_eq_true rfl)
set_option maxHeartbeats 4000000 in
set_option maxRecDepth 100000 in
theorem law_case_36 {p : Program} {l : Launch} {e : Env} {s : State} {m : MethodId} {below : List Frame} {meth : Method} {c : Code} {D : va_G} {κ : Nat → ClassId} {b : Nat} {xs : Nat → Int32} (C0 : lw_At p s m meth c b 6 xs) (hKK : KK D κ s) {A : Nat → Prop} (hA : ∀ q : Nat, s.heap.size ≤ q → A q) (hAq : ∀ q : Nat, A q → s.heap.size ≤ q) (x0 n0 t0 f0 r0 w0 k0 n1 n2 n3 n4 n5 t1 b0 r1 r2 r3 r4 b1 w1 k1 k2 k3 k4 k5 m0 a0 a1 a2 a5 a14 a15 a16 a17 a20 a21 a23 a24 a25 a28 : Nat) {H : Heap} {locs : List Loc} {ls : Array Slot} (hP : va_P D vwCl [(x0, .inr (11, [.ref n0, .ref t0, .ref f0, .ref r0, .ref w0, .ref k0, .int 0])), (n0, .inr (6, [.ref n1, .ref n2, .ref n3, .ref n4, .ref n5, .int 0])), (n1, .inl (κ 0, 6, .inl dial0)), (n2, .inl (κ 4, 3, .inr (.inr (.inr (.inr (fun _ => none)))))), (n3, .inl (κ 5, 3, .inr (.inr (.inr (.inr (fun _ => none)))))), (n4, .inl (κ 0, 6, .inl (fun _ => 0))), (n5, .inl (κ 4, 6, .inr (.inr (.inr (.inr (fun _ => none)))))), (t0, .inr (8, [.ref t1, .int 0])), (t1, .inl (κ 0, 800, .inl (fun _ => 0))), (f0, .inr (2, [.int 0, .int (-1), .int (-1), .int (-1), .int (-1), .int 0])), (r0, .inr (4, [.ref t0, .ref n1, .ref f0, .ref b0, .int 0, .int (-1), .ref r1, .int 0, .ref r2, .ref r3, .int 0, .null, .ref r4, .int 0])), (b0, .inr (0, [.ref b1, .int 0, .long 0])), (b1, .inl (κ 1, 0, .inl (fun _ => 0))), (r1, .inl (κ 1, 20, .inl (fun _ => 0))), (r2, .inl (κ 2, 8, .inr (.inr (.inr (.inr (fun _ => none)))))), (r3, .inl (κ 0, 8, .inl (fun _ => 0))), (r4, .inl (κ 2, 320, .inr (.inr (.inr (.inr (fun _ => none)))))), (w0, .inr (10, [.ref n1, .ref w1, .int 0])), (w1, .inl (κ 1, 6000, .inl (fun _ => 0))), (k0, .inr (6, [.ref k1, .ref k2, .ref k3, .ref k4, .ref k5, .int 0])), (k1, .inl (κ 0, 6, .inl dial0)), (k2, .inl (κ 4, 3, .inr (.inr (.inr (.inr (fun _ => none)))))), (k3, .inl (κ 5, 3, .inr (.inr (.inr (.inr (fun _ => none)))))), (k4, .inl (κ 0, 6, .inl (fun _ => 0))), (k5, .inl (κ 4, 6, .inr (.inr (.inr (.inr (fun _ => none)))))), (m0, .inr (12, [.ref a0, .ref a1, .ref a2, .int 0, .int 0, .ref a5, .int 0, .int 0, .int (-1), .int (-1), .int 0, .int 0, .int 0, .int 0, .ref a14, .ref a15, .ref a16, .ref a17, .int 0, .int 0, .ref a20, .ref a21, .int 0, .ref a23, .ref a24, .ref a25, .int 0, .int 0, .ref a28, .int 0])), (a0, .inl (κ 0, 21375, .inl wf0)), (a1, .inl (κ 0, 21375, .inl (fun _ => 0))), (a2, .inl (κ 0, 128214, .inl (fun _ => 0))), (a5, .inl (κ 0, 800, .inl (fun _ => 0))), (a14, .inl (κ 0, 189, .inl (fun _ => 0))), (a15, .inl (κ 0, 9, .inl (fun _ => 0))), (a16, .inl (κ 0, 9, .inl (fun _ => 0))), (a17, .inl (κ 0, 7123, .inl (fun _ => 0))), (a20, .inl (κ 0, 801, .inl (fun _ => 0))), (a21, .inl (κ 0, 40, .inl (fun _ => 0))), (a23, .inl (κ 0, 40, .inl (fun _ => 0))), (a24, .inl (κ 0, 40, .inl (fun _ => 0))), (a25, .inl (κ 0, 6000, .inl (fun _ => 0))), (a28, .inl (κ 0, 400, .inl (fun _ => 0)))] H) (hD : va_D A [(x0, .inr (11, [.ref n0, .ref t0, .ref f0, .ref r0, .ref w0, .ref k0, .int 0])), (n0, .inr (6, [.ref n1, .ref n2, .ref n3, .ref n4, .ref n5, .int 0])), (n1, .inl (κ 0, 6, .inl dial0)), (n2, .inl (κ 4, 3, .inr (.inr (.inr (.inr (fun _ => none)))))), (n3, .inl (κ 5, 3, .inr (.inr (.inr (.inr (fun _ => none)))))), (n4, .inl (κ 0, 6, .inl (fun _ => 0))), (n5, .inl (κ 4, 6, .inr (.inr (.inr (.inr (fun _ => none)))))), (t0, .inr (8, [.ref t1, .int 0])), (t1, .inl (κ 0, 800, .inl (fun _ => 0))), (f0, .inr (2, [.int 0, .int (-1), .int (-1), .int (-1), .int (-1), .int 0])), (r0, .inr (4, [.ref t0, .ref n1, .ref f0, .ref b0, .int 0, .int (-1), .ref r1, .int 0, .ref r2, .ref r3, .int 0, .null, .ref r4, .int 0])), (b0, .inr (0, [.ref b1, .int 0, .long 0])), (b1, .inl (κ 1, 0, .inl (fun _ => 0))), (r1, .inl (κ 1, 20, .inl (fun _ => 0))), (r2, .inl (κ 2, 8, .inr (.inr (.inr (.inr (fun _ => none)))))), (r3, .inl (κ 0, 8, .inl (fun _ => 0))), (r4, .inl (κ 2, 320, .inr (.inr (.inr (.inr (fun _ => none)))))), (w0, .inr (10, [.ref n1, .ref w1, .int 0])), (w1, .inl (κ 1, 6000, .inl (fun _ => 0))), (k0, .inr (6, [.ref k1, .ref k2, .ref k3, .ref k4, .ref k5, .int 0])), (k1, .inl (κ 0, 6, .inl dial0)), (k2, .inl (κ 4, 3, .inr (.inr (.inr (.inr (fun _ => none)))))), (k3, .inl (κ 5, 3, .inr (.inr (.inr (.inr (fun _ => none)))))), (k4, .inl (κ 0, 6, .inl (fun _ => 0))), (k5, .inl (κ 4, 6, .inr (.inr (.inr (.inr (fun _ => none)))))), (m0, .inr (12, [.ref a0, .ref a1, .ref a2, .int 0, .int 0, .ref a5, .int 0, .int 0, .int (-1), .int (-1), .int 0, .int 0, .int 0, .int 0, .ref a14, .ref a15, .ref a16, .ref a17, .int 0, .int 0, .ref a20, .ref a21, .int 0, .ref a23, .ref a24, .ref a25, .int 0, .int 0, .ref a28, .int 0])), (a0, .inl (κ 0, 21375, .inl wf0)), (a1, .inl (κ 0, 21375, .inl (fun _ => 0))), (a2, .inl (κ 0, 128214, .inl (fun _ => 0))), (a5, .inl (κ 0, 800, .inl (fun _ => 0))), (a14, .inl (κ 0, 189, .inl (fun _ => 0))), (a15, .inl (κ 0, 9, .inl (fun _ => 0))), (a16, .inl (κ 0, 9, .inl (fun _ => 0))), (a17, .inl (κ 0, 7123, .inl (fun _ => 0))), (a20, .inl (κ 0, 801, .inl (fun _ => 0))), (a21, .inl (κ 0, 40, .inl (fun _ => 0))), (a23, .inl (κ 0, 40, .inl (fun _ => 0))), (a24, .inl (κ 0, 40, .inl (fun _ => 0))), (a25, .inl (κ 0, 6000, .inl (fun _ => 0))), (a28, .inl (κ 0, 400, .inl (fun _ => 0)))]) (hS : va_S A s.heap H locs) (hl : lv_has ls 4 [(3, .int 0), (2, .ref m0), (1, .ref x0), (0, .ref b)]) : W p l e room_1 s m #[Value.ref b] below meth c H locs 40 193696 (lw_Z below #[Value.ref b] s) (F0 m 1599 ls []) := by
  obtain ⟨hx, hb, hr, hml, hown, hts0, hX, hbl, hlk, hgv⟩ := id C0
  have hb : c.code = cL_law := hb
  have hts : ∀ w ∈ wsL_law, w.before #[Value.ref b] s = true := fun w h => hts0 w (wsL_law_in w h)
  have hown : s.vm.findClass RL = some m.cls := hown
  have hK : va_K D vwCl (T0 κ) s := hKK.1
  have hbA : ¬ A b := fun h => absurd (hAq b h) (Nat.not_le.mpr hbl)
  have hFX : FX p s m #[Value.ref b] c cL_law 4 RL := ⟨hx, hb, hml, hown, hts⟩
  refine lv_aload_n hx hb dL_law_1599 rfl (lv_at hl 2 rfl) ?_
  refine lv_aload_n hx hb dL_law_1600 rfl (lv_at hl 3 rfl) ?_
  refine lv_iload_n hx hb dL_law_1601 rfl (lv_at hl 0 rfl) ?_
  refine lv_iconst (v := 1) hx hb dL_law_1602 (by decide) ?_
  refine lv_iadd hx hb dL_law_1603 ?_
  refine ki (v := 1) (by decide) ?_
  refine va_sld hx hb hX hbl hbA hS (i := 1) (vp_k (by decide)) dL_law_1604 ?_
  refine kv (v := .int (xs 1)) rfl ?_
  refine cr_V (As := [.int (xs 1)]) (rest := []) hFX hKK (c_X11_look l D κ x0 n0 t0 f0 r0 w0 k0 n1 n2 n3 n4 n5 t1 (xs 1)) 1 gV_L_170 hdV_X11_look rfl rfl ⟨Nat.le_of_ble_eq_true rfl, Nat.le_of_ble_eq_true rfl⟩ rfl rfl (Nat.le_of_ble_eq_true rfl) dL_law_1605 ⟨Nat.le_of_ble_eq_true rfl, Nat.le_of_ble_eq_true rfl⟩ hl.1 hP 0 11 rfl rfl rfl (hP.sub [0, 1, 2, 3, 7, 9] rfl) (fun r_1 hp_2 => ?_)
  have hp_2 : r_1 = lookF (xs 1) := hp_2
  refine W.eq (g2 := F0 m 1608 ls [.int r_1]) rfl ?_
  refine lv_aload_n hx hb dL_law_1608 rfl (lv_at hl 1 rfl) ?_
  refine lv_aload_n hx hb dL_law_1609 rfl (lv_at hl 3 rfl) ?_
  refine lv_iload_n hx hb dL_law_1610 rfl (lv_at hl 0 rfl) ?_
  refine lv_iconst (v := 1) hx hb dL_law_1611 (by decide) ?_
  refine lv_iadd hx hb dL_law_1612 ?_
  refine ki (v := 1) (by decide) ?_
  refine va_sld hx hb hX hbl hbA hS (i := 1) (vp_k (by decide)) dL_law_1613 ?_
  refine kv (v := .int (xs 1)) rfl ?_
  refine cr_V (As := [.int (xs 1)]) (rest := [.int r_1]) hFX hKK (c_X12_look l D κ m0 a0 a1 a2 a5 a14 a15 a16 a17 a20 a21 a23 a24 a25 a28 (xs 1)) 1 gV_L_173 hdV_X12_look rfl rfl ⟨Nat.le_of_ble_eq_true rfl, Nat.le_of_ble_eq_true rfl⟩ rfl rfl (Nat.le_of_ble_eq_true rfl) dL_law_1614 ⟨Nat.le_of_ble_eq_true rfl, Nat.le_of_ble_eq_true rfl⟩ hl.1 hP 25 12 rfl rfl rfl (hP.sub [25, 26] rfl) (fun r_3 hp_4 => ?_)
  have hp_4 : r_3 = lookF (xs 1) := hp_4
  refine W.eq (g2 := F0 m 1617 ls [.int r_3, .int r_1]) rfl ?_
  refine lv_icmp_eq (tgt := 1622) hx hb dL_law_1617 (by decide) (fun c_5 => ?_) (fun c_5 => absurd (hp_2.trans hp_4.symm) c_5)
  exact law_tail C0 hA hAq hS hl (Nat.le_of_ble_eq_true rfl) (Nat.le_of_ble_eq_true rfl)

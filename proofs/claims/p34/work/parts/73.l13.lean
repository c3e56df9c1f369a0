/-! the law's loop, printed by wip/p34/genall.py -/
theorem zt_l1216 : zchk zRUL 3 xBY zIN zCF [] zgl_l1216 20000 [(12, 3, 92), (12, 3, 93), (5, 0, 0), (5, 1, 0)] zc_l1216 = true := by decide +kernel
theorem zt_l1217 : zchk zRUL 3 xBY zIN zCF [] zgl_l1216 20000 [(12, 2, 91), (21, 2, 90)] zc_l1217 = true := by decide +kernel
theorem zt_l1218 : zchk zRUL 3 xBY zIN zCF [] zgl_l1216 20000 [(12, 2, 91), (21, 2, 90)] zc_l1218 = true := by decide +kernel
theorem zt_l1219 : zchk zRUL 3 xBY zIN zCF [] zgl_l1216 20000 [(12, 2, 91), (21, 2, 90)] zc_l1219 = true := by decide +kernel
theorem zt_l1220 : zchk zRUL 3 xBY zIN zCF [] zgl_l1216 20000 [(12, 2, 91), (21, 2, 90)] zc_l1220 = true := by decide +kernel
theorem zt_l1221 : zchk zRUL 3 xBY zIN zCF [] zgl_l1216 20000 [(12, 2, 91), (21, 2, 90)] zc_l1221 = true := by decide +kernel
theorem zt_l1222 : zchk zRUL 3 xBY zIN zCF [] zgl_l1216 20000 [(12, 2, 91), (21, 2, 90)] zc_l1222 = true := by decide +kernel
theorem zt_l1223 : zchk zRUL 3 xBY zIN zCF [] zgl_l1216 20000 [(12, 2, 91), (21, 2, 90)] zc_l1223 = true := by decide +kernel
theorem zt_l1224 : zchk zRUL 3 xBY zIN zCF [] zgl_l1216 20000 [(12, 2, 91), (21, 2, 90)] zc_l1224 = true := by decide +kernel
theorem zt_l1225 : zchk zRUL 3 xBY zIN zCF [] zgl_l1216 20000 [(12, 2, 91), (21, 2, 90)] zc_l1225 = true := by decide +kernel
theorem zt_l1226 : zchk zRUL 3 xBY zIN zCF [] zgl_l1216 20000 [(12, 2, 91), (21, 2, 90)] zc_l1226 = true := by decide +kernel
theorem zt_l1227 : zchk zRUL 3 xBY zIN zCF [] zgl_l1216 20000 [(12, 2, 91), (21, 2, 90)] zc_l1227 = true := by decide +kernel
theorem zt_l1228 : zchk zRUL 3 xBY zIN zCF [] zgl_l1216 20000 [(12, 2, 91), (21, 2, 90)] zc_l1228 = true := by decide +kernel
theorem zt_l1229 : zchk zRUL 3 xBY zIN zCF [] zgl_l1216 20000 [(12, 2, 91), (21, 2, 90)] zc_l1229 = true := by decide +kernel
theorem zt_l1230 : zchk zRUL 3 xBY zIN zCF [] zgl_l1216 20000 [(12, 2, 91), (21, 2, 90)] zc_l1230 = true := by decide +kernel
theorem zt_l1231 : zchk zRUL 3 xBY zIN zCF [] zgl_l1216 20000 [(12, 2, 91), (21, 2, 90)] zc_l1231 = true := by decide +kernel
theorem zga_l1216_0 : ∀ p ∈ zgh_l1216_0, zchk zRUL 3 xBY zIN zCF [] zgl_l1216 20000 p.2 p.1 = true := List.forall_mem_cons.mpr ⟨zt_l1216, List.forall_mem_cons.mpr ⟨zt_l1217, List.forall_mem_cons.mpr ⟨zt_l1218, List.forall_mem_cons.mpr ⟨zt_l1219, List.forall_mem_cons.mpr ⟨zt_l1220, List.forall_mem_cons.mpr ⟨zt_l1221, List.forall_mem_cons.mpr ⟨zt_l1222, List.forall_mem_cons.mpr ⟨zt_l1223, List.forall_mem_cons.mpr ⟨zt_l1224, List.forall_mem_cons.mpr ⟨zt_l1225, List.forall_mem_cons.mpr ⟨zt_l1226, List.forall_mem_cons.mpr ⟨zt_l1227, List.forall_mem_cons.mpr ⟨zt_l1228, List.forall_mem_cons.mpr ⟨zt_l1229, List.forall_mem_cons.mpr ⟨zt_l1230, List.forall_mem_cons.mpr ⟨zt_l1231, fun _ h => absurd h List.not_mem_nil⟩⟩⟩⟩⟩⟩⟩⟩⟩⟩⟩⟩⟩⟩⟩⟩
theorem zt_l1232 : zchk zRUL 3 xBY zIN zCF [] zgl_l1216 20000 [(12, 2, 91), (21, 2, 90)] zc_l1232 = true := by decide +kernel
theorem zt_l1233 : zchk zRUL 3 xBY zIN zCF [] zgl_l1216 20000 [(12, 2, 91), (21, 2, 90)] zc_l1233 = true := by decide +kernel
theorem zt_l1234 : zchk zRUL 3 xBY zIN zCF [] zgl_l1216 20000 [(12, 2, 91), (21, 2, 90)] zc_l1234 = true := by decide +kernel
theorem zt_l1235 : zchk zRUL 3 xBY zIN zCF [] zgl_l1216 20000 [(12, 2, 91), (21, 2, 90)] zc_l1235 = true := by decide +kernel
theorem zt_l1236 : zchk zRUL 3 xBY zIN zCF [] zgl_l1216 20000 [(12, 2, 91), (21, 2, 90)] zc_l1236 = true := by decide +kernel
theorem zt_l1237 : zchk zRUL 3 xBY zIN zCF [] zgl_l1216 20000 [(12, 2, 91), (21, 2, 90)] zc_l1237 = true := by decide +kernel
theorem zt_l1238 : zchk zRUL 3 xBY zIN zCF [] zgl_l1216 20000 [(12, 2, 91), (21, 2, 90)] zc_l1238 = true := by decide +kernel
theorem zt_l1239 : zchk zRUL 3 xBY zIN zCF [] zgl_l1216 20000 [(12, 2, 91), (21, 2, 90)] zc_l1239 = true := by decide +kernel
theorem zt_l1240 : zchk zRUL 3 xBY zIN zCF [] zgl_l1216 20000 [(12, 2, 91), (21, 2, 90)] zc_l1240 = true := by decide +kernel
theorem zt_l1241 : zchk zRUL 3 xBY zIN zCF [] zgl_l1216 20000 [(12, 2, 91), (21, 2, 90)] zc_l1241 = true := by decide +kernel
theorem zt_l1242 : zchk zRUL 3 xBY zIN zCF [] zgl_l1216 20000 [(12, 2, 91), (21, 2, 90)] zc_l1242 = true := by decide +kernel
theorem zt_l1243 : zchk zRUL 3 xBY zIN zCF [] zgl_l1216 20000 [(12, 2, 91), (21, 2, 90)] zc_l1243 = true := by decide +kernel
theorem zt_l1244 : zchk zRUL 3 xBY zIN zCF [] zgl_l1216 20000 [(12, 2, 91), (21, 2, 90)] zc_l1244 = true := by decide +kernel
theorem zt_l1245 : zchk zRUL 3 xBY zIN zCF [] zgl_l1216 20000 [(12, 2, 91), (21, 2, 90)] zc_l1245 = true := by decide +kernel
theorem zt_l1246 : zchk zRUL 3 xBY zIN zCF [] zgl_l1216 20000 [(12, 2, 91), (21, 2, 90)] zc_l1246 = true := by decide +kernel
theorem zt_l1247 : zchk zRUL 3 xBY zIN zCF [] zgl_l1216 20000 [(12, 2, 91), (21, 2, 90)] zc_l1247 = true := by decide +kernel
theorem zga_l1216_1 : ∀ p ∈ zgh_l1216_1, zchk zRUL 3 xBY zIN zCF [] zgl_l1216 20000 p.2 p.1 = true := List.forall_mem_cons.mpr ⟨zt_l1232, List.forall_mem_cons.mpr ⟨zt_l1233, List.forall_mem_cons.mpr ⟨zt_l1234, List.forall_mem_cons.mpr ⟨zt_l1235, List.forall_mem_cons.mpr ⟨zt_l1236, List.forall_mem_cons.mpr ⟨zt_l1237, List.forall_mem_cons.mpr ⟨zt_l1238, List.forall_mem_cons.mpr ⟨zt_l1239, List.forall_mem_cons.mpr ⟨zt_l1240, List.forall_mem_cons.mpr ⟨zt_l1241, List.forall_mem_cons.mpr ⟨zt_l1242, List.forall_mem_cons.mpr ⟨zt_l1243, List.forall_mem_cons.mpr ⟨zt_l1244, List.forall_mem_cons.mpr ⟨zt_l1245, List.forall_mem_cons.mpr ⟨zt_l1246, List.forall_mem_cons.mpr ⟨zt_l1247, fun _ h => absurd h List.not_mem_nil⟩⟩⟩⟩⟩⟩⟩⟩⟩⟩⟩⟩⟩⟩⟩⟩
theorem zt_l1248 : zchk zRUL 3 xBY zIN zCF [] zgl_l1216 20000 [(12, 2, 91), (21, 2, 90)] zc_l1248 = true := by decide +kernel
theorem zt_l1249 : zchk zRUL 3 xBY zIN zCF [] zgl_l1216 20000 [(12, 2, 91), (21, 2, 90)] zc_l1249 = true := by decide +kernel
theorem zt_l1250 : zchk zRUL 3 xBY zIN zCF [] zgl_l1216 20000 [(12, 2, 91), (21, 2, 90)] zc_l1250 = true := by decide +kernel
theorem zt_l1251 : zchk zRUL 3 xBY zIN zCF [] zgl_l1216 20000 [(12, 2, 91), (21, 2, 90)] zc_l1251 = true := by decide +kernel
theorem zt_l1252 : zchk zRUL 3 xBY zIN zCF [] zgl_l1216 20000 [(12, 2, 91), (21, 2, 90)] zc_l1252 = true := by decide +kernel
theorem zt_l1253 : zchk zRUL 3 xBY zIN zCF [] zgl_l1216 20000 [(12, 2, 91), (21, 2, 90)] zc_l1253 = true := by decide +kernel
theorem zt_l1254 : zchk zRUL 3 xBY zIN zCF [] zgl_l1216 20000 [(12, 2, 91), (21, 2, 90)] zc_l1254 = true := by decide +kernel
theorem zt_l1255 : zchk zRUL 3 xBY zIN zCF [] zgl_l1216 20000 [(12, 2, 91), (21, 2, 90)] zc_l1255 = true := by decide +kernel
theorem zt_l1256 : zchk zRUL 3 xBY zIN zCF [] zgl_l1216 20000 [(12, 2, 91), (21, 2, 90)] zc_l1256 = true := by decide +kernel
theorem zt_l1257 : zchk zRUL 3 xBY zIN zCF [] zgl_l1216 20000 [(12, 2, 91), (21, 2, 90)] zc_l1257 = true := by decide +kernel
theorem zt_l1258 : zchk zRUL 3 xBY zIN zCF [] zgl_l1216 20000 [(12, 2, 91), (21, 2, 90)] zc_l1258 = true := by decide +kernel
theorem zt_l1259 : zchk zRUL 3 xBY zIN zCF [] zgl_l1216 20000 [(12, 2, 91), (21, 2, 90)] zc_l1259 = true := by decide +kernel
theorem zt_l1260 : zchk zRUL 3 xBY zIN zCF [] zgl_l1216 20000 [(12, 2, 91), (21, 2, 90)] zc_l1260 = true := by decide +kernel
theorem zt_l1261 : zchk zRUL 3 xBY zIN zCF [] zgl_l1216 20000 [(12, 2, 91), (21, 2, 90)] zc_l1261 = true := by decide +kernel
theorem zt_l1262 : zchk zRUL 3 xBY zIN zCF [] zgl_l1216 20000 [(12, 2, 91), (21, 2, 90)] zc_l1262 = true := by decide +kernel
theorem zt_l1263 : zchk zRUL 3 xBY zIN zCF [] zgl_l1216 20000 [(12, 2, 91), (21, 2, 90)] zc_l1263 = true := by decide +kernel
theorem zga_l1216_2 : ∀ p ∈ zgh_l1216_2, zchk zRUL 3 xBY zIN zCF [] zgl_l1216 20000 p.2 p.1 = true := List.forall_mem_cons.mpr ⟨zt_l1248, List.forall_mem_cons.mpr ⟨zt_l1249, List.forall_mem_cons.mpr ⟨zt_l1250, List.forall_mem_cons.mpr ⟨zt_l1251, List.forall_mem_cons.mpr ⟨zt_l1252, List.forall_mem_cons.mpr ⟨zt_l1253, List.forall_mem_cons.mpr ⟨zt_l1254, List.forall_mem_cons.mpr ⟨zt_l1255, List.forall_mem_cons.mpr ⟨zt_l1256, List.forall_mem_cons.mpr ⟨zt_l1257, List.forall_mem_cons.mpr ⟨zt_l1258, List.forall_mem_cons.mpr ⟨zt_l1259, List.forall_mem_cons.mpr ⟨zt_l1260, List.forall_mem_cons.mpr ⟨zt_l1261, List.forall_mem_cons.mpr ⟨zt_l1262, List.forall_mem_cons.mpr ⟨zt_l1263, fun _ h => absurd h List.not_mem_nil⟩⟩⟩⟩⟩⟩⟩⟩⟩⟩⟩⟩⟩⟩⟩⟩
theorem zt_l1264 : zchk zRUL 3 xBY zIN zCF [] zgl_l1216 20000 [(12, 2, 91), (21, 2, 90)] zc_l1264 = true := by decide +kernel
theorem zt_l1265 : zchk zRUL 3 xBY zIN zCF [] zgl_l1216 20000 [(12, 2, 91), (21, 2, 90)] zc_l1265 = true := by decide +kernel
theorem zt_l1266 : zchk zRUL 3 xBY zIN zCF [] zgl_l1216 20000 [(12, 2, 91), (21, 2, 90)] zc_l1266 = true := by decide +kernel
theorem zt_l1267 : zchk zRUL 3 xBY zIN zCF [] zgl_l1216 20000 [(12, 2, 91), (21, 2, 90)] zc_l1267 = true := by decide +kernel
theorem zt_l1268 : zchk zRUL 3 xBY zIN zCF [] zgl_l1216 20000 [(12, 2, 91), (21, 2, 90)] zc_l1268 = true := by decide +kernel
theorem zt_l1269 : zchk zRUL 3 xBY zIN zCF [] zgl_l1216 20000 [(12, 2, 91), (21, 2, 90)] zc_l1269 = true := by decide +kernel
theorem zt_l1270 : zchk zRUL 3 xBY zIN zCF [] zgl_l1216 20000 [(12, 2, 91), (21, 2, 90)] zc_l1270 = true := by decide +kernel
theorem zt_l1271 : zchk zRUL 3 xBY zIN zCF [] zgl_l1216 20000 [(12, 2, 91), (21, 2, 90)] zc_l1271 = true := by decide +kernel
theorem zt_l1272 : zchk zRUL 3 xBY zIN zCF [] zgl_l1216 20000 [(12, 2, 91), (21, 2, 90)] zc_l1272 = true := by decide +kernel
theorem zt_l1273 : zchk zRUL 3 xBY zIN zCF [] zgl_l1216 20000 [(12, 2, 91), (21, 2, 90)] zc_l1273 = true := by decide +kernel
theorem zt_l1274 : zchk zRUL 3 xBY zIN zCF [] zgl_l1216 20000 [(12, 2, 91), (21, 2, 90)] zc_l1274 = true := by decide +kernel
theorem zt_l1275 : zchk zRUL 3 xBY zIN zCF [] zgl_l1216 20000 [(12, 2, 91), (21, 2, 90)] zc_l1275 = true := by decide +kernel
theorem zt_l1276 : zchk zRUL 3 xBY zIN zCF [] zgl_l1216 20000 [(12, 2, 91), (21, 2, 90)] zc_l1276 = true := by decide +kernel
theorem zt_l1277 : zchk zRUL 3 xBY zIN zCF [] zgl_l1216 20000 [(12, 2, 91), (21, 2, 90)] zc_l1277 = true := by decide +kernel
theorem zt_l1278 : zchk zRUL 3 xBY zIN zCF [] zgl_l1216 20000 [(12, 2, 91), (21, 2, 90)] zc_l1278 = true := by decide +kernel
theorem zt_l1279 : zchk zRUL 3 xBY zIN zCF [] zgl_l1216 20000 [(12, 2, 91), (21, 2, 90)] zc_l1279 = true := by decide +kernel
theorem zga_l1216_3 : ∀ p ∈ zgh_l1216_3, zchk zRUL 3 xBY zIN zCF [] zgl_l1216 20000 p.2 p.1 = true := List.forall_mem_cons.mpr ⟨zt_l1264, List.forall_mem_cons.mpr ⟨zt_l1265, List.forall_mem_cons.mpr ⟨zt_l1266, List.forall_mem_cons.mpr ⟨zt_l1267, List.forall_mem_cons.mpr ⟨zt_l1268, List.forall_mem_cons.mpr ⟨zt_l1269, List.forall_mem_cons.mpr ⟨zt_l1270, List.forall_mem_cons.mpr ⟨zt_l1271, List.forall_mem_cons.mpr ⟨zt_l1272, List.forall_mem_cons.mpr ⟨zt_l1273, List.forall_mem_cons.mpr ⟨zt_l1274, List.forall_mem_cons.mpr ⟨zt_l1275, List.forall_mem_cons.mpr ⟨zt_l1276, List.forall_mem_cons.mpr ⟨zt_l1277, List.forall_mem_cons.mpr ⟨zt_l1278, List.forall_mem_cons.mpr ⟨zt_l1279, fun _ h => absurd h List.not_mem_nil⟩⟩⟩⟩⟩⟩⟩⟩⟩⟩⟩⟩⟩⟩⟩⟩
theorem zt_l1280 : zchk zRUL 3 xBY zIN zCF [] zgl_l1216 20000 [(12, 2, 91), (21, 2, 90)] zc_l1280 = true := by decide +kernel
theorem zt_l1281 : zchk zRUL 3 xBY zIN zCF [] zgl_l1216 20000 [(12, 2, 91), (21, 2, 90)] zc_l1281 = true := by decide +kernel
theorem zt_l1282 : zchk zRUL 3 xBY zIN zCF [] zgl_l1216 20000 [(12, 2, 91), (21, 2, 90)] zc_l1282 = true := by decide +kernel
theorem zt_l1283 : zchk zRUL 3 xBY zIN zCF [] zgl_l1216 20000 [(12, 2, 91), (21, 2, 90)] zc_l1283 = true := by decide +kernel
theorem zt_l1284 : zchk zRUL 3 xBY zIN zCF [] zgl_l1216 20000 [(12, 2, 91), (21, 2, 90)] zc_l1284 = true := by decide +kernel
theorem zt_l1285 : zchk zRUL 3 xBY zIN zCF [] zgl_l1216 20000 [(12, 2, 91), (21, 2, 90)] zc_l1285 = true := by decide +kernel
theorem zt_l1286 : zchk zRUL 3 xBY zIN zCF [] zgl_l1216 20000 [(12, 2, 91), (21, 2, 90)] zc_l1286 = true := by decide +kernel
theorem zt_l1287 : zchk zRUL 3 xBY zIN zCF [] zgl_l1216 20000 [(12, 2, 91), (21, 2, 90)] zc_l1287 = true := by decide +kernel
theorem zt_l1288 : zchk zRUL 3 xBY zIN zCF [] zgl_l1216 20000 [(12, 2, 91), (21, 2, 90)] zc_l1288 = true := by decide +kernel
theorem zt_l1289 : zchk zRUL 3 xBY zIN zCF [] zgl_l1216 20000 [(12, 2, 91), (21, 2, 90)] zc_l1289 = true := by decide +kernel
theorem zt_l1290 : zchk zRUL 3 xBY zIN zCF [] zgl_l1216 20000 [(12, 2, 91), (21, 2, 90)] zc_l1290 = true := by decide +kernel
theorem zt_l1291 : zchk zRUL 3 xBY zIN zCF [] zgl_l1216 20000 [(12, 2, 91), (21, 2, 90)] zc_l1291 = true := by decide +kernel
theorem zt_l1292 : zchk zRUL 3 xBY zIN zCF [] zgl_l1216 20000 [(12, 2, 91), (21, 2, 90)] zc_l1292 = true := by decide +kernel
theorem zt_l1293 : zchk zRUL 3 xBY zIN zCF [] zgl_l1216 20000 [(12, 2, 91), (21, 2, 90)] zc_l1293 = true := by decide +kernel
theorem zt_l1294 : zchk zRUL 3 xBY zIN zCF [] zgl_l1216 20000 [(12, 2, 91), (21, 2, 90)] zc_l1294 = true := by decide +kernel
theorem zt_l1295 : zchk zRUL 3 xBY zIN zCF [] zgl_l1216 20000 [(12, 2, 91), (21, 2, 90)] zc_l1295 = true := by decide +kernel
theorem zga_l1216_4 : ∀ p ∈ zgh_l1216_4, zchk zRUL 3 xBY zIN zCF [] zgl_l1216 20000 p.2 p.1 = true := List.forall_mem_cons.mpr ⟨zt_l1280, List.forall_mem_cons.mpr ⟨zt_l1281, List.forall_mem_cons.mpr ⟨zt_l1282, List.forall_mem_cons.mpr ⟨zt_l1283, List.forall_mem_cons.mpr ⟨zt_l1284, List.forall_mem_cons.mpr ⟨zt_l1285, List.forall_mem_cons.mpr ⟨zt_l1286, List.forall_mem_cons.mpr ⟨zt_l1287, List.forall_mem_cons.mpr ⟨zt_l1288, List.forall_mem_cons.mpr ⟨zt_l1289, List.forall_mem_cons.mpr ⟨zt_l1290, List.forall_mem_cons.mpr ⟨zt_l1291, List.forall_mem_cons.mpr ⟨zt_l1292, List.forall_mem_cons.mpr ⟨zt_l1293, List.forall_mem_cons.mpr ⟨zt_l1294, List.forall_mem_cons.mpr ⟨zt_l1295, fun _ h => absurd h List.not_mem_nil⟩⟩⟩⟩⟩⟩⟩⟩⟩⟩⟩⟩⟩⟩⟩⟩
theorem zt_l1296 : zchk zRUL 3 xBY zIN zCF [] zgl_l1216 20000 [(12, 2, 91), (21, 2, 90)] zc_l1296 = true := by decide +kernel
theorem zt_l1297 : zchk zRUL 3 xBY zIN zCF [] zgl_l1216 20000 [(12, 2, 91), (21, 2, 90)] zc_l1297 = true := by decide +kernel
theorem zt_l1298 : zchk zRUL 3 xBY zIN zCF [] zgl_l1216 20000 [(12, 2, 91), (21, 2, 90)] zc_l1298 = true := by decide +kernel
theorem zt_l1299 : zchk zRUL 3 xBY zIN zCF [] zgl_l1216 20000 [(12, 2, 91), (21, 2, 90)] zc_l1299 = true := by decide +kernel
theorem zt_l1300 : zchk zRUL 3 xBY zIN zCF [] zgl_l1216 20000 [(12, 2, 91), (21, 2, 90)] zc_l1300 = true := by decide +kernel
theorem zt_l1301 : zchk zRUL 3 xBY zIN zCF [] zgl_l1216 20000 [(12, 2, 91), (21, 2, 90)] zc_l1301 = true := by decide +kernel
theorem zt_l1302 : zchk zRUL 3 xBY zIN zCF [] zgl_l1216 20000 [(12, 2, 91), (21, 2, 90)] zc_l1302 = true := by decide +kernel
theorem zt_l1303 : zchk zRUL 3 xBY zIN zCF [] zgl_l1216 20000 [(12, 2, 91), (21, 2, 90)] zc_l1303 = true := by decide +kernel
theorem zt_l1304 : zchk zRUL 3 xBY zIN zCF [] zgl_l1216 20000 [(12, 2, 91), (21, 2, 90)] zc_l1304 = true := by decide +kernel
theorem zt_l1305 : zchk zRUL 3 xBY zIN zCF [] zgl_l1216 20000 [(12, 2, 91), (21, 2, 90)] zc_l1305 = true := by decide +kernel
theorem zt_l1306 : zchk zRUL 3 xBY zIN zCF [] zgl_l1216 20000 [(12, 2, 91), (21, 2, 90)] zc_l1306 = true := by decide +kernel
theorem zt_l1307 : zchk zRUL 3 xBY zIN zCF [] zgl_l1216 20000 [(12, 2, 91), (21, 2, 90)] zc_l1307 = true := by decide +kernel
theorem zt_l1308 : zchk zRUL 3 xBY zIN zCF [] zgl_l1216 20000 [(12, 2, 91), (21, 2, 90)] zc_l1308 = true := by decide +kernel
theorem zt_l1309 : zchk zRUL 3 xBY zIN zCF [] zgl_l1216 20000 [(12, 2, 91), (21, 2, 90)] zc_l1309 = true := by decide +kernel
theorem zt_l1310 : zchk zRUL 3 xBY zIN zCF [] zgl_l1216 20000 [(12, 2, 91), (21, 2, 90)] zc_l1310 = true := by decide +kernel
theorem zt_l1311 : zchk zRUL 3 xBY zIN zCF [] zgl_l1216 20000 [(12, 2, 91), (21, 2, 90)] zc_l1311 = true := by decide +kernel
theorem zga_l1216_5 : ∀ p ∈ zgh_l1216_5, zchk zRUL 3 xBY zIN zCF [] zgl_l1216 20000 p.2 p.1 = true := List.forall_mem_cons.mpr ⟨zt_l1296, List.forall_mem_cons.mpr ⟨zt_l1297, List.forall_mem_cons.mpr ⟨zt_l1298, List.forall_mem_cons.mpr ⟨zt_l1299, List.forall_mem_cons.mpr ⟨zt_l1300, List.forall_mem_cons.mpr ⟨zt_l1301, List.forall_mem_cons.mpr ⟨zt_l1302, List.forall_mem_cons.mpr ⟨zt_l1303, List.forall_mem_cons.mpr ⟨zt_l1304, List.forall_mem_cons.mpr ⟨zt_l1305, List.forall_mem_cons.mpr ⟨zt_l1306, List.forall_mem_cons.mpr ⟨zt_l1307, List.forall_mem_cons.mpr ⟨zt_l1308, List.forall_mem_cons.mpr ⟨zt_l1309, List.forall_mem_cons.mpr ⟨zt_l1310, List.forall_mem_cons.mpr ⟨zt_l1311, fun _ h => absurd h List.not_mem_nil⟩⟩⟩⟩⟩⟩⟩⟩⟩⟩⟩⟩⟩⟩⟩⟩
theorem zt_l1312 : zchk zRUL 3 xBY zIN zCF [] zgl_l1216 20000 [(12, 2, 91), (21, 2, 90)] zc_l1312 = true := by decide +kernel
theorem zt_l1313 : zchk zRUL 3 xBY zIN zCF [] zgl_l1216 20000 [(12, 2, 91), (21, 2, 90)] zc_l1313 = true := by decide +kernel
theorem zt_l1314 : zchk zRUL 3 xBY zIN zCF [] zgl_l1216 20000 [(12, 2, 91), (21, 2, 90)] zc_l1314 = true := by decide +kernel
theorem zt_l1315 : zchk zRUL 3 xBY zIN zCF [] zgl_l1216 20000 [(12, 2, 91), (21, 2, 90)] zc_l1315 = true := by decide +kernel
theorem zt_l1316 : zchk zRUL 3 xBY zIN zCF [] zgl_l1216 20000 [(12, 2, 91), (21, 2, 90)] zc_l1316 = true := by decide +kernel
theorem zga_l1216_6 : ∀ p ∈ zgh_l1216_6, zchk zRUL 3 xBY zIN zCF [] zgl_l1216 20000 p.2 p.1 = true := List.forall_mem_cons.mpr ⟨zt_l1312, List.forall_mem_cons.mpr ⟨zt_l1313, List.forall_mem_cons.mpr ⟨zt_l1314, List.forall_mem_cons.mpr ⟨zt_l1315, List.forall_mem_cons.mpr ⟨zt_l1316, fun _ h => absurd h List.not_mem_nil⟩⟩⟩⟩⟩
theorem zk_l1216 {g : yG} {J : zJp} (hy : zHy g J) : zCok g zCF J zc_l1216 := zgp2 hy (CT := []) (fun _ h => absurd h List.not_mem_nil) (fuel := 20000) (L := zgh_l1216_0 ++ (zgh_l1216_1 ++ (zgh_l1216_2 ++ (zgh_l1216_3 ++ (zgh_l1216_4 ++ (zgh_l1216_5 ++ (zgh_l1216_6))))))) zge_l1216 (List.forall_mem_append.mpr ⟨zga_l1216_0, List.forall_mem_append.mpr ⟨zga_l1216_1, List.forall_mem_append.mpr ⟨zga_l1216_2, List.forall_mem_append.mpr ⟨zga_l1216_3, List.forall_mem_append.mpr ⟨zga_l1216_4, List.forall_mem_append.mpr ⟨zga_l1216_5, zga_l1216_6⟩⟩⟩⟩⟩⟩) (zc_l1216, [(12, 3, 92), (12, 3, 93), (5, 0, 0), (5, 1, 0)]) (List.mem_append_left _ List.mem_cons_self)
/-- GridLawsModel.later, row 0 -/
def zc_l1317 : zC := (287, 0, 1, [(3, 88, .ofNat 0), (1, 0, .ofNat 0)], ([(88, (0, 0, .ofNat 28), (1, 1, .ofNat 0)), (1049, (1, 0, .ofNat 0), (0, 0, .ofNat 0))], []), [(.ofNat 400, .ofNat 499, 0, .ofNat 0), (.ofNat 0, .ofNat 100000, 0, .ofNat 0)], [], [(some (0, 0, .negSucc 0), ([], []), [(.ofNat 400, .ofNat 499, 0, .ofNat 0), (.ofNat 0, .ofNat 100000, 0, .ofNat 0)])], [(false, (0, 0, .ofNat 1))])
/-- GridLawsModel.later, row 5 -/
def zc_l1318 : zC := (287, 5, 1, [(3, 88, .ofNat 0), (0, 0, .ofNat 400)], ([(88, (0, 0, .ofNat 28), (1, 0, .ofNat 0)), (1049, (0, 0, .ofNat 400), (0, 0, .ofNat 0))], []), [(.ofNat 0, .ofNat 100000, 0, .ofNat 0)], [], [(some (0, 0, .negSucc 0), ([], []), [(.ofNat 0, .ofNat 100000, 0, .ofNat 0)])], [(false, (0, 0, .ofNat 0))])
/-- GridLawsModel.later, row 5 -/
def zc_l1319 : zC := (287, 5, 1, [(3, 88, .ofNat 0), (0, 0, .ofNat 401)], ([(88, (0, 0, .ofNat 28), (1, 0, .ofNat 0)), (1049, (0, 0, .ofNat 401), (0, 0, .ofNat 0))], []), [(.ofNat 0, .ofNat 100000, 0, .ofNat 0)], [], [(some (0, 0, .negSucc 0), ([], []), [(.ofNat 0, .ofNat 100000, 0, .ofNat 0)])], [(false, (0, 0, .ofNat 0))])
/-- GridLawsModel.later, row 5 -/
def zc_l1320 : zC := (287, 5, 1, [(3, 88, .ofNat 0), (0, 0, .ofNat 402)], ([(88, (0, 0, .ofNat 28), (1, 0, .ofNat 0)), (1049, (0, 0, .ofNat 402), (0, 0, .ofNat 0))], []), [(.ofNat 0, .ofNat 100000, 0, .ofNat 0)], [], [(some (0, 0, .negSucc 0), ([], []), [(.ofNat 0, .ofNat 100000, 0, .ofNat 0)])], [(false, (0, 0, .ofNat 0))])
/-- GridLawsModel.later, row 5 -/
def zc_l1321 : zC := (287, 5, 1, [(3, 88, .ofNat 0), (0, 0, .ofNat 403)], ([(88, (0, 0, .ofNat 28), (1, 0, .ofNat 0)), (1049, (0, 0, .ofNat 403), (0, 0, .ofNat 0))], []), [(.ofNat 0, .ofNat 100000, 0, .ofNat 0)], [], [(some (0, 0, .negSucc 0), ([], []), [(.ofNat 0, .ofNat 100000, 0, .ofNat 0)])], [(false, (0, 0, .ofNat 0))])
/-- GridLawsModel.later, row 5 -/
def zc_l1322 : zC := (287, 5, 1, [(3, 88, .ofNat 0), (0, 0, .ofNat 404)], ([(88, (0, 0, .ofNat 28), (1, 0, .ofNat 0)), (1049, (0, 0, .ofNat 404), (0, 0, .ofNat 0))], []), [(.ofNat 0, .ofNat 100000, 0, .ofNat 0)], [], [(some (0, 0, .negSucc 0), ([], []), [(.ofNat 0, .ofNat 100000, 0, .ofNat 0)])], [(false, (0, 0, .ofNat 0))])
/-- GridLawsModel.later, row 5 -/
def zc_l1323 : zC := (287, 5, 1, [(3, 88, .ofNat 0), (0, 0, .ofNat 405)], ([(88, (0, 0, .ofNat 28), (1, 0, .ofNat 0)), (1049, (0, 0, .ofNat 405), (0, 0, .ofNat 0))], []), [(.ofNat 0, .ofNat 100000, 0, .ofNat 0)], [], [(some (0, 0, .negSucc 0), ([], []), [(.ofNat 0, .ofNat 100000, 0, .ofNat 0)])], [(false, (0, 0, .ofNat 0))])
/-- GridLawsModel.later, row 5 -/
def zc_l1324 : zC := (287, 5, 1, [(3, 88, .ofNat 0), (0, 0, .ofNat 406)], ([(88, (0, 0, .ofNat 28), (1, 0, .ofNat 0)), (1049, (0, 0, .ofNat 406), (0, 0, .ofNat 0))], []), [(.ofNat 0, .ofNat 100000, 0, .ofNat 0)], [], [(some (0, 0, .negSucc 0), ([], []), [(.ofNat 0, .ofNat 100000, 0, .ofNat 0)])], [(false, (0, 0, .ofNat 0))])
/-- GridLawsModel.later, row 5 -/
def zc_l1325 : zC := (287, 5, 1, [(3, 88, .ofNat 0), (0, 0, .ofNat 407)], ([(88, (0, 0, .ofNat 28), (1, 0, .ofNat 0)), (1049, (0, 0, .ofNat 407), (0, 0, .ofNat 0))], []), [(.ofNat 0, .ofNat 100000, 0, .ofNat 0)], [], [(some (0, 0, .negSucc 0), ([], []), [(.ofNat 0, .ofNat 100000, 0, .ofNat 0)])], [(false, (0, 0, .ofNat 0))])
/-- GridLawsModel.later, row 5 -/
def zc_l1326 : zC := (287, 5, 1, [(3, 88, .ofNat 0), (0, 0, .ofNat 408)], ([(88, (0, 0, .ofNat 28), (1, 0, .ofNat 0)), (1049, (0, 0, .ofNat 408), (0, 0, .ofNat 0))], []), [(.ofNat 0, .ofNat 100000, 0, .ofNat 0)], [], [(some (0, 0, .negSucc 0), ([], []), [(.ofNat 0, .ofNat 100000, 0, .ofNat 0)])], [(false, (0, 0, .ofNat 0))])
/-- GridLawsModel.later, row 5 -/
def zc_l1327 : zC := (287, 5, 1, [(3, 88, .ofNat 0), (0, 0, .ofNat 409)], ([(88, (0, 0, .ofNat 28), (1, 0, .ofNat 0)), (1049, (0, 0, .ofNat 409), (0, 0, .ofNat 0))], []), [(.ofNat 0, .ofNat 100000, 0, .ofNat 0)], [], [(some (0, 0, .negSucc 0), ([], []), [(.ofNat 0, .ofNat 100000, 0, .ofNat 0)])], [(false, (0, 0, .ofNat 0))])
/-- GridLawsModel.later, row 5 -/
def zc_l1328 : zC := (287, 5, 1, [(3, 88, .ofNat 0), (0, 0, .ofNat 410)], ([(88, (0, 0, .ofNat 28), (1, 0, .ofNat 0)), (1049, (0, 0, .ofNat 410), (0, 0, .ofNat 0))], []), [(.ofNat 0, .ofNat 100000, 0, .ofNat 0)], [], [(some (0, 0, .negSucc 0), ([], []), [(.ofNat 0, .ofNat 100000, 0, .ofNat 0)])], [(false, (0, 0, .ofNat 0))])
/-- GridLawsModel.later, row 5 -/
def zc_l1329 : zC := (287, 5, 1, [(3, 88, .ofNat 0), (0, 0, .ofNat 411)], ([(88, (0, 0, .ofNat 28), (1, 0, .ofNat 0)), (1049, (0, 0, .ofNat 411), (0, 0, .ofNat 0))], []), [(.ofNat 0, .ofNat 100000, 0, .ofNat 0)], [], [(some (0, 0, .negSucc 0), ([], []), [(.ofNat 0, .ofNat 100000, 0, .ofNat 0)])], [(false, (0, 0, .ofNat 0))])
/-- GridLawsModel.later, row 5 -/
def zc_l1330 : zC := (287, 5, 1, [(3, 88, .ofNat 0), (0, 0, .ofNat 412)], ([(88, (0, 0, .ofNat 28), (1, 0, .ofNat 0)), (1049, (0, 0, .ofNat 412), (0, 0, .ofNat 0))], []), [(.ofNat 0, .ofNat 100000, 0, .ofNat 0)], [], [(some (0, 0, .negSucc 0), ([], []), [(.ofNat 0, .ofNat 100000, 0, .ofNat 0)])], [(false, (0, 0, .ofNat 0))])
/-- GridLawsModel.later, row 5 -/
def zc_l1331 : zC := (287, 5, 1, [(3, 88, .ofNat 0), (0, 0, .ofNat 413)], ([(88, (0, 0, .ofNat 28), (1, 0, .ofNat 0)), (1049, (0, 0, .ofNat 413), (0, 0, .ofNat 0))], []), [(.ofNat 0, .ofNat 100000, 0, .ofNat 0)], [], [(some (0, 0, .negSucc 0), ([], []), [(.ofNat 0, .ofNat 100000, 0, .ofNat 0)])], [(false, (0, 0, .ofNat 0))])
/-- GridLawsModel.later, row 5 -/
def zc_l1332 : zC := (287, 5, 1, [(3, 88, .ofNat 0), (0, 0, .ofNat 414)], ([(88, (0, 0, .ofNat 28), (1, 0, .ofNat 0)), (1049, (0, 0, .ofNat 414), (0, 0, .ofNat 0))], []), [(.ofNat 0, .ofNat 100000, 0, .ofNat 0)], [], [(some (0, 0, .negSucc 0), ([], []), [(.ofNat 0, .ofNat 100000, 0, .ofNat 0)])], [(false, (0, 0, .ofNat 0))])
/-- GridLawsModel.later, row 5 -/
def zc_l1333 : zC := (287, 5, 1, [(3, 88, .ofNat 0), (0, 0, .ofNat 415)], ([(88, (0, 0, .ofNat 28), (1, 0, .ofNat 0)), (1049, (0, 0, .ofNat 415), (0, 0, .ofNat 0))], []), [(.ofNat 0, .ofNat 100000, 0, .ofNat 0)], [], [(some (0, 0, .negSucc 0), ([], []), [(.ofNat 0, .ofNat 100000, 0, .ofNat 0)])], [(false, (0, 0, .ofNat 0))])
/-- GridLawsModel.later, row 5 -/
def zc_l1334 : zC := (287, 5, 1, [(3, 88, .ofNat 0), (0, 0, .ofNat 416)], ([(88, (0, 0, .ofNat 28), (1, 0, .ofNat 0)), (1049, (0, 0, .ofNat 416), (0, 0, .ofNat 0))], []), [(.ofNat 0, .ofNat 100000, 0, .ofNat 0)], [], [(some (0, 0, .negSucc 0), ([], []), [(.ofNat 0, .ofNat 100000, 0, .ofNat 0)])], [(false, (0, 0, .ofNat 0))])
/-- GridLawsModel.later, row 5 -/
def zc_l1335 : zC := (287, 5, 1, [(3, 88, .ofNat 0), (0, 0, .ofNat 417)], ([(88, (0, 0, .ofNat 28), (1, 0, .ofNat 0)), (1049, (0, 0, .ofNat 417), (0, 0, .ofNat 0))], []), [(.ofNat 0, .ofNat 100000, 0, .ofNat 0)], [], [(some (0, 0, .negSucc 0), ([], []), [(.ofNat 0, .ofNat 100000, 0, .ofNat 0)])], [(false, (0, 0, .ofNat 0))])
/-- GridLawsModel.later, row 5 -/
def zc_l1336 : zC := (287, 5, 1, [(3, 88, .ofNat 0), (0, 0, .ofNat 418)], ([(88, (0, 0, .ofNat 28), (1, 0, .ofNat 0)), (1049, (0, 0, .ofNat 418), (0, 0, .ofNat 0))], []), [(.ofNat 0, .ofNat 100000, 0, .ofNat 0)], [], [(some (0, 0, .negSucc 0), ([], []), [(.ofNat 0, .ofNat 100000, 0, .ofNat 0)])], [(false, (0, 0, .ofNat 0))])
/-- GridLawsModel.later, row 5 -/
def zc_l1337 : zC := (287, 5, 1, [(3, 88, .ofNat 0), (0, 0, .ofNat 419)], ([(88, (0, 0, .ofNat 28), (1, 0, .ofNat 0)), (1049, (0, 0, .ofNat 419), (0, 0, .ofNat 0))], []), [(.ofNat 0, .ofNat 100000, 0, .ofNat 0)], [], [(some (0, 0, .negSucc 0), ([], []), [(.ofNat 0, .ofNat 100000, 0, .ofNat 0)])], [(false, (0, 0, .ofNat 0))])
/-- GridLawsModel.later, row 5 -/
def zc_l1338 : zC := (287, 5, 1, [(3, 88, .ofNat 0), (0, 0, .ofNat 420)], ([(88, (0, 0, .ofNat 28), (1, 0, .ofNat 0)), (1049, (0, 0, .ofNat 420), (0, 0, .ofNat 0))], []), [(.ofNat 0, .ofNat 100000, 0, .ofNat 0)], [], [(some (0, 0, .negSucc 0), ([], []), [(.ofNat 0, .ofNat 100000, 0, .ofNat 0)])], [(false, (0, 0, .ofNat 0))])
/-- GridLawsModel.later, row 5 -/
def zc_l1339 : zC := (287, 5, 1, [(3, 88, .ofNat 0), (0, 0, .ofNat 421)], ([(88, (0, 0, .ofNat 28), (1, 0, .ofNat 0)), (1049, (0, 0, .ofNat 421), (0, 0, .ofNat 0))], []), [(.ofNat 0, .ofNat 100000, 0, .ofNat 0)], [], [(some (0, 0, .negSucc 0), ([], []), [(.ofNat 0, .ofNat 100000, 0, .ofNat 0)])], [(false, (0, 0, .ofNat 0))])
/-- GridLawsModel.later, row 5 -/
def zc_l1340 : zC := (287, 5, 1, [(3, 88, .ofNat 0), (0, 0, .ofNat 422)], ([(88, (0, 0, .ofNat 28), (1, 0, .ofNat 0)), (1049, (0, 0, .ofNat 422), (0, 0, .ofNat 0))], []), [(.ofNat 0, .ofNat 100000, 0, .ofNat 0)], [], [(some (0, 0, .negSucc 0), ([], []), [(.ofNat 0, .ofNat 100000, 0, .ofNat 0)])], [(false, (0, 0, .ofNat 0))])
/-- GridLawsModel.later, row 5 -/
def zc_l1341 : zC := (287, 5, 1, [(3, 88, .ofNat 0), (0, 0, .ofNat 423)], ([(88, (0, 0, .ofNat 28), (1, 0, .ofNat 0)), (1049, (0, 0, .ofNat 423), (0, 0, .ofNat 0))], []), [(.ofNat 0, .ofNat 100000, 0, .ofNat 0)], [], [(some (0, 0, .negSucc 0), ([], []), [(.ofNat 0, .ofNat 100000, 0, .ofNat 0)])], [(false, (0, 0, .ofNat 0))])
/-- GridLawsModel.later, row 5 -/
def zc_l1342 : zC := (287, 5, 1, [(3, 88, .ofNat 0), (0, 0, .ofNat 424)], ([(88, (0, 0, .ofNat 28), (1, 0, .ofNat 0)), (1049, (0, 0, .ofNat 424), (0, 0, .ofNat 0))], []), [(.ofNat 0, .ofNat 100000, 0, .ofNat 0)], [], [(some (0, 0, .negSucc 0), ([], []), [(.ofNat 0, .ofNat 100000, 0, .ofNat 0)])], [(false, (0, 0, .ofNat 0))])
/-- GridLawsModel.later, row 5 -/
def zc_l1343 : zC := (287, 5, 1, [(3, 88, .ofNat 0), (0, 0, .ofNat 425)], ([(88, (0, 0, .ofNat 28), (1, 0, .ofNat 0)), (1049, (0, 0, .ofNat 425), (0, 0, .ofNat 0))], []), [(.ofNat 0, .ofNat 100000, 0, .ofNat 0)], [], [(some (0, 0, .negSucc 0), ([], []), [(.ofNat 0, .ofNat 100000, 0, .ofNat 0)])], [(false, (0, 0, .ofNat 0))])
/-- GridLawsModel.later, row 5 -/
def zc_l1344 : zC := (287, 5, 1, [(3, 88, .ofNat 0), (0, 0, .ofNat 426)], ([(88, (0, 0, .ofNat 28), (1, 0, .ofNat 0)), (1049, (0, 0, .ofNat 426), (0, 0, .ofNat 0))], []), [(.ofNat 0, .ofNat 100000, 0, .ofNat 0)], [], [(some (0, 0, .negSucc 0), ([], []), [(.ofNat 0, .ofNat 100000, 0, .ofNat 0)])], [(false, (0, 0, .ofNat 0))])
/-- GridLawsModel.later, row 5 -/
def zc_l1345 : zC := (287, 5, 1, [(3, 88, .ofNat 0), (0, 0, .ofNat 427)], ([(88, (0, 0, .ofNat 28), (1, 0, .ofNat 0)), (1049, (0, 0, .ofNat 427), (0, 0, .ofNat 0))], []), [(.ofNat 0, .ofNat 100000, 0, .ofNat 0)], [], [(some (0, 0, .negSucc 0), ([], []), [(.ofNat 0, .ofNat 100000, 0, .ofNat 0)])], [(false, (0, 0, .ofNat 0))])
/-- GridLawsModel.later, row 5 -/
def zc_l1346 : zC := (287, 5, 1, [(3, 88, .ofNat 0), (0, 0, .ofNat 428)], ([(88, (0, 0, .ofNat 28), (1, 0, .ofNat 0)), (1049, (0, 0, .ofNat 428), (0, 0, .ofNat 0))], []), [(.ofNat 0, .ofNat 100000, 0, .ofNat 0)], [], [(some (0, 0, .negSucc 0), ([], []), [(.ofNat 0, .ofNat 100000, 0, .ofNat 0)])], [(false, (0, 0, .ofNat 0))])
/-- GridLawsModel.later, row 5 -/
def zc_l1347 : zC := (287, 5, 1, [(3, 88, .ofNat 0), (0, 0, .ofNat 429)], ([(88, (0, 0, .ofNat 28), (1, 0, .ofNat 0)), (1049, (0, 0, .ofNat 429), (0, 0, .ofNat 0))], []), [(.ofNat 0, .ofNat 100000, 0, .ofNat 0)], [], [(some (0, 0, .negSucc 0), ([], []), [(.ofNat 0, .ofNat 100000, 0, .ofNat 0)])], [(false, (0, 0, .ofNat 0))])
/-- GridLawsModel.later, row 5 -/
def zc_l1348 : zC := (287, 5, 1, [(3, 88, .ofNat 0), (0, 0, .ofNat 430)], ([(88, (0, 0, .ofNat 28), (1, 0, .ofNat 0)), (1049, (0, 0, .ofNat 430), (0, 0, .ofNat 0))], []), [(.ofNat 0, .ofNat 100000, 0, .ofNat 0)], [], [(some (0, 0, .negSucc 0), ([], []), [(.ofNat 0, .ofNat 100000, 0, .ofNat 0)])], [(false, (0, 0, .ofNat 0))])
/-- GridLawsModel.later, row 5 -/
def zc_l1349 : zC := (287, 5, 1, [(3, 88, .ofNat 0), (0, 0, .ofNat 431)], ([(88, (0, 0, .ofNat 28), (1, 0, .ofNat 0)), (1049, (0, 0, .ofNat 431), (0, 0, .ofNat 0))], []), [(.ofNat 0, .ofNat 100000, 0, .ofNat 0)], [], [(some (0, 0, .negSucc 0), ([], []), [(.ofNat 0, .ofNat 100000, 0, .ofNat 0)])], [(false, (0, 0, .ofNat 0))])
/-- GridLawsModel.later, row 5 -/
def zc_l1350 : zC := (287, 5, 1, [(3, 88, .ofNat 0), (0, 0, .ofNat 432)], ([(88, (0, 0, .ofNat 28), (1, 0, .ofNat 0)), (1049, (0, 0, .ofNat 432), (0, 0, .ofNat 0))], []), [(.ofNat 0, .ofNat 100000, 0, .ofNat 0)], [], [(some (0, 0, .negSucc 0), ([], []), [(.ofNat 0, .ofNat 100000, 0, .ofNat 0)])], [(false, (0, 0, .ofNat 0))])
/-- GridLawsModel.later, row 5 -/
def zc_l1351 : zC := (287, 5, 1, [(3, 88, .ofNat 0), (0, 0, .ofNat 433)], ([(88, (0, 0, .ofNat 28), (1, 0, .ofNat 0)), (1049, (0, 0, .ofNat 433), (0, 0, .ofNat 0))], []), [(.ofNat 0, .ofNat 100000, 0, .ofNat 0)], [], [(some (0, 0, .negSucc 0), ([], []), [(.ofNat 0, .ofNat 100000, 0, .ofNat 0)])], [(false, (0, 0, .ofNat 0))])
/-- GridLawsModel.later, row 5 -/
def zc_l1352 : zC := (287, 5, 1, [(3, 88, .ofNat 0), (0, 0, .ofNat 434)], ([(88, (0, 0, .ofNat 28), (1, 0, .ofNat 0)), (1049, (0, 0, .ofNat 434), (0, 0, .ofNat 0))], []), [(.ofNat 0, .ofNat 100000, 0, .ofNat 0)], [], [(some (0, 0, .negSucc 0), ([], []), [(.ofNat 0, .ofNat 100000, 0, .ofNat 0)])], [(false, (0, 0, .ofNat 0))])
/-- GridLawsModel.later, row 5 -/
def zc_l1353 : zC := (287, 5, 1, [(3, 88, .ofNat 0), (0, 0, .ofNat 435)], ([(88, (0, 0, .ofNat 28), (1, 0, .ofNat 0)), (1049, (0, 0, .ofNat 435), (0, 0, .ofNat 0))], []), [(.ofNat 0, .ofNat 100000, 0, .ofNat 0)], [], [(some (0, 0, .negSucc 0), ([], []), [(.ofNat 0, .ofNat 100000, 0, .ofNat 0)])], [(false, (0, 0, .ofNat 0))])
/-- GridLawsModel.later, row 5 -/
def zc_l1354 : zC := (287, 5, 1, [(3, 88, .ofNat 0), (0, 0, .ofNat 436)], ([(88, (0, 0, .ofNat 28), (1, 0, .ofNat 0)), (1049, (0, 0, .ofNat 436), (0, 0, .ofNat 0))], []), [(.ofNat 0, .ofNat 100000, 0, .ofNat 0)], [], [(some (0, 0, .negSucc 0), ([], []), [(.ofNat 0, .ofNat 100000, 0, .ofNat 0)])], [(false, (0, 0, .ofNat 0))])
/-- GridLawsModel.later, row 5 -/
def zc_l1355 : zC := (287, 5, 1, [(3, 88, .ofNat 0), (0, 0, .ofNat 437)], ([(88, (0, 0, .ofNat 28), (1, 0, .ofNat 0)), (1049, (0, 0, .ofNat 437), (0, 0, .ofNat 0))], []), [(.ofNat 0, .ofNat 100000, 0, .ofNat 0)], [], [(some (0, 0, .negSucc 0), ([], []), [(.ofNat 0, .ofNat 100000, 0, .ofNat 0)])], [(false, (0, 0, .ofNat 0))])
/-- GridLawsModel.later, row 5 -/
def zc_l1356 : zC := (287, 5, 1, [(3, 88, .ofNat 0), (0, 0, .ofNat 438)], ([(88, (0, 0, .ofNat 28), (1, 0, .ofNat 0)), (1049, (0, 0, .ofNat 438), (0, 0, .ofNat 0))], []), [(.ofNat 0, .ofNat 100000, 0, .ofNat 0)], [], [(some (0, 0, .negSucc 0), ([], []), [(.ofNat 0, .ofNat 100000, 0, .ofNat 0)])], [(false, (0, 0, .ofNat 0))])
/-- GridLawsModel.later, row 5 -/
def zc_l1357 : zC := (287, 5, 1, [(3, 88, .ofNat 0), (0, 0, .ofNat 439)], ([(88, (0, 0, .ofNat 28), (1, 0, .ofNat 0)), (1049, (0, 0, .ofNat 439), (0, 0, .ofNat 0))], []), [(.ofNat 0, .ofNat 100000, 0, .ofNat 0)], [], [(some (0, 0, .negSucc 0), ([], []), [(.ofNat 0, .ofNat 100000, 0, .ofNat 0)])], [(false, (0, 0, .ofNat 0))])
/-- GridLawsModel.later, row 5 -/
def zc_l1358 : zC := (287, 5, 1, [(3, 88, .ofNat 0), (0, 0, .ofNat 440)], ([(88, (0, 0, .ofNat 28), (1, 0, .ofNat 0)), (1049, (0, 0, .ofNat 440), (0, 0, .ofNat 0))], []), [(.ofNat 0, .ofNat 100000, 0, .ofNat 0)], [], [(some (0, 0, .negSucc 0), ([], []), [(.ofNat 0, .ofNat 100000, 0, .ofNat 0)])], [(false, (0, 0, .ofNat 0))])
/-- GridLawsModel.later, row 5 -/
def zc_l1359 : zC := (287, 5, 1, [(3, 88, .ofNat 0), (0, 0, .ofNat 441)], ([(88, (0, 0, .ofNat 28), (1, 0, .ofNat 0)), (1049, (0, 0, .ofNat 441), (0, 0, .ofNat 0))], []), [(.ofNat 0, .ofNat 100000, 0, .ofNat 0)], [], [(some (0, 0, .negSucc 0), ([], []), [(.ofNat 0, .ofNat 100000, 0, .ofNat 0)])], [(false, (0, 0, .ofNat 0))])
/-- GridLawsModel.later, row 5 -/
def zc_l1360 : zC := (287, 5, 1, [(3, 88, .ofNat 0), (0, 0, .ofNat 442)], ([(88, (0, 0, .ofNat 28), (1, 0, .ofNat 0)), (1049, (0, 0, .ofNat 442), (0, 0, .ofNat 0))], []), [(.ofNat 0, .ofNat 100000, 0, .ofNat 0)], [], [(some (0, 0, .negSucc 0), ([], []), [(.ofNat 0, .ofNat 100000, 0, .ofNat 0)])], [(false, (0, 0, .ofNat 0))])
/-- GridLawsModel.later, row 5 -/
def zc_l1361 : zC := (287, 5, 1, [(3, 88, .ofNat 0), (0, 0, .ofNat 443)], ([(88, (0, 0, .ofNat 28), (1, 0, .ofNat 0)), (1049, (0, 0, .ofNat 443), (0, 0, .ofNat 0))], []), [(.ofNat 0, .ofNat 100000, 0, .ofNat 0)], [], [(some (0, 0, .negSucc 0), ([], []), [(.ofNat 0, .ofNat 100000, 0, .ofNat 0)])], [(false, (0, 0, .ofNat 0))])
/-- GridLawsModel.later, row 5 -/
def zc_l1362 : zC := (287, 5, 1, [(3, 88, .ofNat 0), (0, 0, .ofNat 444)], ([(88, (0, 0, .ofNat 28), (1, 0, .ofNat 0)), (1049, (0, 0, .ofNat 444), (0, 0, .ofNat 0))], []), [(.ofNat 0, .ofNat 100000, 0, .ofNat 0)], [], [(some (0, 0, .negSucc 0), ([], []), [(.ofNat 0, .ofNat 100000, 0, .ofNat 0)])], [(false, (0, 0, .ofNat 0))])
/-- GridLawsModel.later, row 5 -/
def zc_l1363 : zC := (287, 5, 1, [(3, 88, .ofNat 0), (0, 0, .ofNat 445)], ([(88, (0, 0, .ofNat 28), (1, 0, .ofNat 0)), (1049, (0, 0, .ofNat 445), (0, 0, .ofNat 0))], []), [(.ofNat 0, .ofNat 100000, 0, .ofNat 0)], [], [(some (0, 0, .negSucc 0), ([], []), [(.ofNat 0, .ofNat 100000, 0, .ofNat 0)])], [(false, (0, 0, .ofNat 0))])
/-- GridLawsModel.later, row 5 -/
def zc_l1364 : zC := (287, 5, 1, [(3, 88, .ofNat 0), (0, 0, .ofNat 446)], ([(88, (0, 0, .ofNat 28), (1, 0, .ofNat 0)), (1049, (0, 0, .ofNat 446), (0, 0, .ofNat 0))], []), [(.ofNat 0, .ofNat 100000, 0, .ofNat 0)], [], [(some (0, 0, .negSucc 0), ([], []), [(.ofNat 0, .ofNat 100000, 0, .ofNat 0)])], [(false, (0, 0, .ofNat 0))])
/-- GridLawsModel.later, row 5 -/
def zc_l1365 : zC := (287, 5, 1, [(3, 88, .ofNat 0), (0, 0, .ofNat 447)], ([(88, (0, 0, .ofNat 28), (1, 0, .ofNat 0)), (1049, (0, 0, .ofNat 447), (0, 0, .ofNat 0))], []), [(.ofNat 0, .ofNat 100000, 0, .ofNat 0)], [], [(some (0, 0, .negSucc 0), ([], []), [(.ofNat 0, .ofNat 100000, 0, .ofNat 0)])], [(false, (0, 0, .ofNat 0))])
/-- GridLawsModel.later, row 5 -/
def zc_l1366 : zC := (287, 5, 1, [(3, 88, .ofNat 0), (0, 0, .ofNat 448)], ([(88, (0, 0, .ofNat 28), (1, 0, .ofNat 0)), (1049, (0, 0, .ofNat 448), (0, 0, .ofNat 0))], []), [(.ofNat 0, .ofNat 100000, 0, .ofNat 0)], [], [(some (0, 0, .negSucc 0), ([], []), [(.ofNat 0, .ofNat 100000, 0, .ofNat 0)])], [(false, (0, 0, .ofNat 0))])
/-- GridLawsModel.later, row 5 -/
def zc_l1367 : zC := (287, 5, 1, [(3, 88, .ofNat 0), (0, 0, .ofNat 449)], ([(88, (0, 0, .ofNat 28), (1, 0, .ofNat 0)), (1049, (0, 0, .ofNat 449), (0, 0, .ofNat 0))], []), [(.ofNat 0, .ofNat 100000, 0, .ofNat 0)], [], [(some (0, 0, .negSucc 0), ([], []), [(.ofNat 0, .ofNat 100000, 0, .ofNat 0)])], [(false, (0, 0, .ofNat 0))])
/-- GridLawsModel.later, row 5 -/
def zc_l1368 : zC := (287, 5, 1, [(3, 88, .ofNat 0), (0, 0, .ofNat 450)], ([(88, (0, 0, .ofNat 28), (1, 0, .ofNat 0)), (1049, (0, 0, .ofNat 450), (0, 0, .ofNat 0))], []), [(.ofNat 0, .ofNat 100000, 0, .ofNat 0)], [], [(some (0, 0, .negSucc 0), ([], []), [(.ofNat 0, .ofNat 100000, 0, .ofNat 0)])], [(false, (0, 0, .ofNat 0))])
/-- GridLawsModel.later, row 5 -/
def zc_l1369 : zC := (287, 5, 1, [(3, 88, .ofNat 0), (0, 0, .ofNat 451)], ([(88, (0, 0, .ofNat 28), (1, 0, .ofNat 0)), (1049, (0, 0, .ofNat 451), (0, 0, .ofNat 0))], []), [(.ofNat 0, .ofNat 100000, 0, .ofNat 0)], [], [(some (0, 0, .negSucc 0), ([], []), [(.ofNat 0, .ofNat 100000, 0, .ofNat 0)])], [(false, (0, 0, .ofNat 0))])
/-- GridLawsModel.later, row 5 -/
def zc_l1370 : zC := (287, 5, 1, [(3, 88, .ofNat 0), (0, 0, .ofNat 452)], ([(88, (0, 0, .ofNat 28), (1, 0, .ofNat 0)), (1049, (0, 0, .ofNat 452), (0, 0, .ofNat 0))], []), [(.ofNat 0, .ofNat 100000, 0, .ofNat 0)], [], [(some (0, 0, .negSucc 0), ([], []), [(.ofNat 0, .ofNat 100000, 0, .ofNat 0)])], [(false, (0, 0, .ofNat 0))])
/-- GridLawsModel.later, row 5 -/
def zc_l1371 : zC := (287, 5, 1, [(3, 88, .ofNat 0), (0, 0, .ofNat 453)], ([(88, (0, 0, .ofNat 28), (1, 0, .ofNat 0)), (1049, (0, 0, .ofNat 453), (0, 0, .ofNat 0))], []), [(.ofNat 0, .ofNat 100000, 0, .ofNat 0)], [], [(some (0, 0, .negSucc 0), ([], []), [(.ofNat 0, .ofNat 100000, 0, .ofNat 0)])], [(false, (0, 0, .ofNat 0))])
/-- GridLawsModel.later, row 5 -/
def zc_l1372 : zC := (287, 5, 1, [(3, 88, .ofNat 0), (0, 0, .ofNat 454)], ([(88, (0, 0, .ofNat 28), (1, 0, .ofNat 0)), (1049, (0, 0, .ofNat 454), (0, 0, .ofNat 0))], []), [(.ofNat 0, .ofNat 100000, 0, .ofNat 0)], [], [(some (0, 0, .negSucc 0), ([], []), [(.ofNat 0, .ofNat 100000, 0, .ofNat 0)])], [(false, (0, 0, .ofNat 0))])
/-- GridLawsModel.later, row 5 -/
def zc_l1373 : zC := (287, 5, 1, [(3, 88, .ofNat 0), (0, 0, .ofNat 455)], ([(88, (0, 0, .ofNat 28), (1, 0, .ofNat 0)), (1049, (0, 0, .ofNat 455), (0, 0, .ofNat 0))], []), [(.ofNat 0, .ofNat 100000, 0, .ofNat 0)], [], [(some (0, 0, .negSucc 0), ([], []), [(.ofNat 0, .ofNat 100000, 0, .ofNat 0)])], [(false, (0, 0, .ofNat 0))])
/-- GridLawsModel.later, row 5 -/
def zc_l1374 : zC := (287, 5, 1, [(3, 88, .ofNat 0), (0, 0, .ofNat 456)], ([(88, (0, 0, .ofNat 28), (1, 0, .ofNat 0)), (1049, (0, 0, .ofNat 456), (0, 0, .ofNat 0))], []), [(.ofNat 0, .ofNat 100000, 0, .ofNat 0)], [], [(some (0, 0, .negSucc 0), ([], []), [(.ofNat 0, .ofNat 100000, 0, .ofNat 0)])], [(false, (0, 0, .ofNat 0))])
/-- GridLawsModel.later, row 5 -/
def zc_l1375 : zC := (287, 5, 1, [(3, 88, .ofNat 0), (0, 0, .ofNat 457)], ([(88, (0, 0, .ofNat 28), (1, 0, .ofNat 0)), (1049, (0, 0, .ofNat 457), (0, 0, .ofNat 0))], []), [(.ofNat 0, .ofNat 100000, 0, .ofNat 0)], [], [(some (0, 0, .negSucc 0), ([], []), [(.ofNat 0, .ofNat 100000, 0, .ofNat 0)])], [(false, (0, 0, .ofNat 0))])
/-- GridLawsModel.later, row 5 -/
def zc_l1376 : zC := (287, 5, 1, [(3, 88, .ofNat 0), (0, 0, .ofNat 458)], ([(88, (0, 0, .ofNat 28), (1, 0, .ofNat 0)), (1049, (0, 0, .ofNat 458), (0, 0, .ofNat 0))], []), [(.ofNat 0, .ofNat 100000, 0, .ofNat 0)], [], [(some (0, 0, .negSucc 0), ([], []), [(.ofNat 0, .ofNat 100000, 0, .ofNat 0)])], [(false, (0, 0, .ofNat 0))])
/-- GridLawsModel.later, row 5 -/
def zc_l1377 : zC := (287, 5, 1, [(3, 88, .ofNat 0), (0, 0, .ofNat 459)], ([(88, (0, 0, .ofNat 28), (1, 0, .ofNat 0)), (1049, (0, 0, .ofNat 459), (0, 0, .ofNat 0))], []), [(.ofNat 0, .ofNat 100000, 0, .ofNat 0)], [], [(some (0, 0, .negSucc 0), ([], []), [(.ofNat 0, .ofNat 100000, 0, .ofNat 0)])], [(false, (0, 0, .ofNat 0))])
/-- GridLawsModel.later, row 5 -/
def zc_l1378 : zC := (287, 5, 1, [(3, 88, .ofNat 0), (0, 0, .ofNat 460)], ([(88, (0, 0, .ofNat 28), (1, 0, .ofNat 0)), (1049, (0, 0, .ofNat 460), (0, 0, .ofNat 0))], []), [(.ofNat 0, .ofNat 100000, 0, .ofNat 0)], [], [(some (0, 0, .negSucc 0), ([], []), [(.ofNat 0, .ofNat 100000, 0, .ofNat 0)])], [(false, (0, 0, .ofNat 0))])
/-- GridLawsModel.later, row 5 -/
def zc_l1379 : zC := (287, 5, 1, [(3, 88, .ofNat 0), (0, 0, .ofNat 461)], ([(88, (0, 0, .ofNat 28), (1, 0, .ofNat 0)), (1049, (0, 0, .ofNat 461), (0, 0, .ofNat 0))], []), [(.ofNat 0, .ofNat 100000, 0, .ofNat 0)], [], [(some (0, 0, .negSucc 0), ([], []), [(.ofNat 0, .ofNat 100000, 0, .ofNat 0)])], [(false, (0, 0, .ofNat 0))])
/-- GridLawsModel.later, row 5 -/
def zc_l1380 : zC := (287, 5, 1, [(3, 88, .ofNat 0), (0, 0, .ofNat 462)], ([(88, (0, 0, .ofNat 28), (1, 0, .ofNat 0)), (1049, (0, 0, .ofNat 462), (0, 0, .ofNat 0))], []), [(.ofNat 0, .ofNat 100000, 0, .ofNat 0)], [], [(some (0, 0, .negSucc 0), ([], []), [(.ofNat 0, .ofNat 100000, 0, .ofNat 0)])], [(false, (0, 0, .ofNat 0))])
/-- GridLawsModel.later, row 5 -/
def zc_l1381 : zC := (287, 5, 1, [(3, 88, .ofNat 0), (0, 0, .ofNat 463)], ([(88, (0, 0, .ofNat 28), (1, 0, .ofNat 0)), (1049, (0, 0, .ofNat 463), (0, 0, .ofNat 0))], []), [(.ofNat 0, .ofNat 100000, 0, .ofNat 0)], [], [(some (0, 0, .negSucc 0), ([], []), [(.ofNat 0, .ofNat 100000, 0, .ofNat 0)])], [(false, (0, 0, .ofNat 0))])
/-- GridLawsModel.later, row 5 -/
def zc_l1382 : zC := (287, 5, 1, [(3, 88, .ofNat 0), (0, 0, .ofNat 464)], ([(88, (0, 0, .ofNat 28), (1, 0, .ofNat 0)), (1049, (0, 0, .ofNat 464), (0, 0, .ofNat 0))], []), [(.ofNat 0, .ofNat 100000, 0, .ofNat 0)], [], [(some (0, 0, .negSucc 0), ([], []), [(.ofNat 0, .ofNat 100000, 0, .ofNat 0)])], [(false, (0, 0, .ofNat 0))])
/-- GridLawsModel.later, row 5 -/
def zc_l1383 : zC := (287, 5, 1, [(3, 88, .ofNat 0), (0, 0, .ofNat 465)], ([(88, (0, 0, .ofNat 28), (1, 0, .ofNat 0)), (1049, (0, 0, .ofNat 465), (0, 0, .ofNat 0))], []), [(.ofNat 0, .ofNat 100000, 0, .ofNat 0)], [], [(some (0, 0, .negSucc 0), ([], []), [(.ofNat 0, .ofNat 100000, 0, .ofNat 0)])], [(false, (0, 0, .ofNat 0))])
/-- GridLawsModel.later, row 5 -/
def zc_l1384 : zC := (287, 5, 1, [(3, 88, .ofNat 0), (0, 0, .ofNat 466)], ([(88, (0, 0, .ofNat 28), (1, 0, .ofNat 0)), (1049, (0, 0, .ofNat 466), (0, 0, .ofNat 0))], []), [(.ofNat 0, .ofNat 100000, 0, .ofNat 0)], [], [(some (0, 0, .negSucc 0), ([], []), [(.ofNat 0, .ofNat 100000, 0, .ofNat 0)])], [(false, (0, 0, .ofNat 0))])
/-- GridLawsModel.later, row 5 -/
def zc_l1385 : zC := (287, 5, 1, [(3, 88, .ofNat 0), (0, 0, .ofNat 467)], ([(88, (0, 0, .ofNat 28), (1, 0, .ofNat 0)), (1049, (0, 0, .ofNat 467), (0, 0, .ofNat 0))], []), [(.ofNat 0, .ofNat 100000, 0, .ofNat 0)], [], [(some (0, 0, .negSucc 0), ([], []), [(.ofNat 0, .ofNat 100000, 0, .ofNat 0)])], [(false, (0, 0, .ofNat 0))])
/-- GridLawsModel.later, row 5 -/
def zc_l1386 : zC := (287, 5, 1, [(3, 88, .ofNat 0), (0, 0, .ofNat 468)], ([(88, (0, 0, .ofNat 28), (1, 0, .ofNat 0)), (1049, (0, 0, .ofNat 468), (0, 0, .ofNat 0))], []), [(.ofNat 0, .ofNat 100000, 0, .ofNat 0)], [], [(some (0, 0, .negSucc 0), ([], []), [(.ofNat 0, .ofNat 100000, 0, .ofNat 0)])], [(false, (0, 0, .ofNat 0))])
/-- GridLawsModel.later, row 5 -/
def zc_l1387 : zC := (287, 5, 1, [(3, 88, .ofNat 0), (0, 0, .ofNat 469)], ([(88, (0, 0, .ofNat 28), (1, 0, .ofNat 0)), (1049, (0, 0, .ofNat 469), (0, 0, .ofNat 0))], []), [(.ofNat 0, .ofNat 100000, 0, .ofNat 0)], [], [(some (0, 0, .negSucc 0), ([], []), [(.ofNat 0, .ofNat 100000, 0, .ofNat 0)])], [(false, (0, 0, .ofNat 0))])
/-- GridLawsModel.later, row 5 -/
def zc_l1388 : zC := (287, 5, 1, [(3, 88, .ofNat 0), (0, 0, .ofNat 470)], ([(88, (0, 0, .ofNat 28), (1, 0, .ofNat 0)), (1049, (0, 0, .ofNat 470), (0, 0, .ofNat 0))], []), [(.ofNat 0, .ofNat 100000, 0, .ofNat 0)], [], [(some (0, 0, .negSucc 0), ([], []), [(.ofNat 0, .ofNat 100000, 0, .ofNat 0)])], [(false, (0, 0, .ofNat 0))])
/-- GridLawsModel.later, row 5 -/
def zc_l1389 : zC := (287, 5, 1, [(3, 88, .ofNat 0), (0, 0, .ofNat 471)], ([(88, (0, 0, .ofNat 28), (1, 0, .ofNat 0)), (1049, (0, 0, .ofNat 471), (0, 0, .ofNat 0))], []), [(.ofNat 0, .ofNat 100000, 0, .ofNat 0)], [], [(some (0, 0, .negSucc 0), ([], []), [(.ofNat 0, .ofNat 100000, 0, .ofNat 0)])], [(false, (0, 0, .ofNat 0))])
/-- GridLawsModel.later, row 5 -/
def zc_l1390 : zC := (287, 5, 1, [(3, 88, .ofNat 0), (0, 0, .ofNat 472)], ([(88, (0, 0, .ofNat 28), (1, 0, .ofNat 0)), (1049, (0, 0, .ofNat 472), (0, 0, .ofNat 0))], []), [(.ofNat 0, .ofNat 100000, 0, .ofNat 0)], [], [(some (0, 0, .negSucc 0), ([], []), [(.ofNat 0, .ofNat 100000, 0, .ofNat 0)])], [(false, (0, 0, .ofNat 0))])
/-- GridLawsModel.later, row 5 -/
def zc_l1391 : zC := (287, 5, 1, [(3, 88, .ofNat 0), (0, 0, .ofNat 473)], ([(88, (0, 0, .ofNat 28), (1, 0, .ofNat 0)), (1049, (0, 0, .ofNat 473), (0, 0, .ofNat 0))], []), [(.ofNat 0, .ofNat 100000, 0, .ofNat 0)], [], [(some (0, 0, .negSucc 0), ([], []), [(.ofNat 0, .ofNat 100000, 0, .ofNat 0)])], [(false, (0, 0, .ofNat 0))])
/-- GridLawsModel.later, row 5 -/
def zc_l1392 : zC := (287, 5, 1, [(3, 88, .ofNat 0), (0, 0, .ofNat 474)], ([(88, (0, 0, .ofNat 28), (1, 0, .ofNat 0)), (1049, (0, 0, .ofNat 474), (0, 0, .ofNat 0))], []), [(.ofNat 0, .ofNat 100000, 0, .ofNat 0)], [], [(some (0, 0, .negSucc 0), ([], []), [(.ofNat 0, .ofNat 100000, 0, .ofNat 0)])], [(false, (0, 0, .ofNat 0))])
/-- GridLawsModel.later, row 5 -/
def zc_l1393 : zC := (287, 5, 1, [(3, 88, .ofNat 0), (0, 0, .ofNat 475)], ([(88, (0, 0, .ofNat 28), (1, 0, .ofNat 0)), (1049, (0, 0, .ofNat 475), (0, 0, .ofNat 0))], []), [(.ofNat 0, .ofNat 100000, 0, .ofNat 0)], [], [(some (0, 0, .negSucc 0), ([], []), [(.ofNat 0, .ofNat 100000, 0, .ofNat 0)])], [(false, (0, 0, .ofNat 0))])
/-- GridLawsModel.later, row 5 -/
def zc_l1394 : zC := (287, 5, 1, [(3, 88, .ofNat 0), (0, 0, .ofNat 476)], ([(88, (0, 0, .ofNat 28), (1, 0, .ofNat 0)), (1049, (0, 0, .ofNat 476), (0, 0, .ofNat 0))], []), [(.ofNat 0, .ofNat 100000, 0, .ofNat 0)], [], [(some (0, 0, .negSucc 0), ([], []), [(.ofNat 0, .ofNat 100000, 0, .ofNat 0)])], [(false, (0, 0, .ofNat 0))])
/-- GridLawsModel.later, row 5 -/
def zc_l1395 : zC := (287, 5, 1, [(3, 88, .ofNat 0), (0, 0, .ofNat 477)], ([(88, (0, 0, .ofNat 28), (1, 0, .ofNat 0)), (1049, (0, 0, .ofNat 477), (0, 0, .ofNat 0))], []), [(.ofNat 0, .ofNat 100000, 0, .ofNat 0)], [], [(some (0, 0, .negSucc 0), ([], []), [(.ofNat 0, .ofNat 100000, 0, .ofNat 0)])], [(false, (0, 0, .ofNat 0))])
/-- GridLawsModel.later, row 5 -/
def zc_l1396 : zC := (287, 5, 1, [(3, 88, .ofNat 0), (0, 0, .ofNat 478)], ([(88, (0, 0, .ofNat 28), (1, 0, .ofNat 0)), (1049, (0, 0, .ofNat 478), (0, 0, .ofNat 0))], []), [(.ofNat 0, .ofNat 100000, 0, .ofNat 0)], [], [(some (0, 0, .negSucc 0), ([], []), [(.ofNat 0, .ofNat 100000, 0, .ofNat 0)])], [(false, (0, 0, .ofNat 0))])
/-- GridLawsModel.later, row 5 -/
def zc_l1397 : zC := (287, 5, 1, [(3, 88, .ofNat 0), (0, 0, .ofNat 479)], ([(88, (0, 0, .ofNat 28), (1, 0, .ofNat 0)), (1049, (0, 0, .ofNat 479), (0, 0, .ofNat 0))], []), [(.ofNat 0, .ofNat 100000, 0, .ofNat 0)], [], [(some (0, 0, .negSucc 0), ([], []), [(.ofNat 0, .ofNat 100000, 0, .ofNat 0)])], [(false, (0, 0, .ofNat 0))])
/-- GridLawsModel.later, row 5 -/
def zc_l1398 : zC := (287, 5, 1, [(3, 88, .ofNat 0), (0, 0, .ofNat 480)], ([(88, (0, 0, .ofNat 28), (1, 0, .ofNat 0)), (1049, (0, 0, .ofNat 480), (0, 0, .ofNat 0))], []), [(.ofNat 0, .ofNat 100000, 0, .ofNat 0)], [], [(some (0, 0, .negSucc 0), ([], []), [(.ofNat 0, .ofNat 100000, 0, .ofNat 0)])], [(false, (0, 0, .ofNat 0))])
/-- GridLawsModel.later, row 5 -/
def zc_l1399 : zC := (287, 5, 1, [(3, 88, .ofNat 0), (0, 0, .ofNat 481)], ([(88, (0, 0, .ofNat 28), (1, 0, .ofNat 0)), (1049, (0, 0, .ofNat 481), (0, 0, .ofNat 0))], []), [(.ofNat 0, .ofNat 100000, 0, .ofNat 0)], [], [(some (0, 0, .negSucc 0), ([], []), [(.ofNat 0, .ofNat 100000, 0, .ofNat 0)])], [(false, (0, 0, .ofNat 0))])
/-- GridLawsModel.later, row 5 -/
def zc_l1400 : zC := (287, 5, 1, [(3, 88, .ofNat 0), (0, 0, .ofNat 482)], ([(88, (0, 0, .ofNat 28), (1, 0, .ofNat 0)), (1049, (0, 0, .ofNat 482), (0, 0, .ofNat 0))], []), [(.ofNat 0, .ofNat 100000, 0, .ofNat 0)], [], [(some (0, 0, .negSucc 0), ([], []), [(.ofNat 0, .ofNat 100000, 0, .ofNat 0)])], [(false, (0, 0, .ofNat 0))])
/-- GridLawsModel.later, row 5 -/
def zc_l1401 : zC := (287, 5, 1, [(3, 88, .ofNat 0), (0, 0, .ofNat 483)], ([(88, (0, 0, .ofNat 28), (1, 0, .ofNat 0)), (1049, (0, 0, .ofNat 483), (0, 0, .ofNat 0))], []), [(.ofNat 0, .ofNat 100000, 0, .ofNat 0)], [], [(some (0, 0, .negSucc 0), ([], []), [(.ofNat 0, .ofNat 100000, 0, .ofNat 0)])], [(false, (0, 0, .ofNat 0))])
/-- GridLawsModel.later, row 5 -/
def zc_l1402 : zC := (287, 5, 1, [(3, 88, .ofNat 0), (0, 0, .ofNat 484)], ([(88, (0, 0, .ofNat 28), (1, 0, .ofNat 0)), (1049, (0, 0, .ofNat 484), (0, 0, .ofNat 0))], []), [(.ofNat 0, .ofNat 100000, 0, .ofNat 0)], [], [(some (0, 0, .negSucc 0), ([], []), [(.ofNat 0, .ofNat 100000, 0, .ofNat 0)])], [(false, (0, 0, .ofNat 0))])
/-- GridLawsModel.later, row 5 -/
def zc_l1403 : zC := (287, 5, 1, [(3, 88, .ofNat 0), (0, 0, .ofNat 485)], ([(88, (0, 0, .ofNat 28), (1, 0, .ofNat 0)), (1049, (0, 0, .ofNat 485), (0, 0, .ofNat 0))], []), [(.ofNat 0, .ofNat 100000, 0, .ofNat 0)], [], [(some (0, 0, .negSucc 0), ([], []), [(.ofNat 0, .ofNat 100000, 0, .ofNat 0)])], [(false, (0, 0, .ofNat 0))])
/-- GridLawsModel.later, row 5 -/
def zc_l1404 : zC := (287, 5, 1, [(3, 88, .ofNat 0), (0, 0, .ofNat 486)], ([(88, (0, 0, .ofNat 28), (1, 0, .ofNat 0)), (1049, (0, 0, .ofNat 486), (0, 0, .ofNat 0))], []), [(.ofNat 0, .ofNat 100000, 0, .ofNat 0)], [], [(some (0, 0, .negSucc 0), ([], []), [(.ofNat 0, .ofNat 100000, 0, .ofNat 0)])], [(false, (0, 0, .ofNat 0))])
/-- GridLawsModel.later, row 5 -/
def zc_l1405 : zC := (287, 5, 1, [(3, 88, .ofNat 0), (0, 0, .ofNat 487)], ([(88, (0, 0, .ofNat 28), (1, 0, .ofNat 0)), (1049, (0, 0, .ofNat 487), (0, 0, .ofNat 0))], []), [(.ofNat 0, .ofNat 100000, 0, .ofNat 0)], [], [(some (0, 0, .negSucc 0), ([], []), [(.ofNat 0, .ofNat 100000, 0, .ofNat 0)])], [(false, (0, 0, .ofNat 0))])
/-- GridLawsModel.later, row 5 -/
def zc_l1406 : zC := (287, 5, 1, [(3, 88, .ofNat 0), (0, 0, .ofNat 488)], ([(88, (0, 0, .ofNat 28), (1, 0, .ofNat 0)), (1049, (0, 0, .ofNat 488), (0, 0, .ofNat 0))], []), [(.ofNat 0, .ofNat 100000, 0, .ofNat 0)], [], [(some (0, 0, .negSucc 0), ([], []), [(.ofNat 0, .ofNat 100000, 0, .ofNat 0)])], [(false, (0, 0, .ofNat 0))])
/-- GridLawsModel.later, row 5 -/
def zc_l1407 : zC := (287, 5, 1, [(3, 88, .ofNat 0), (0, 0, .ofNat 489)], ([(88, (0, 0, .ofNat 28), (1, 0, .ofNat 0)), (1049, (0, 0, .ofNat 489), (0, 0, .ofNat 0))], []), [(.ofNat 0, .ofNat 100000, 0, .ofNat 0)], [], [(some (0, 0, .negSucc 0), ([], []), [(.ofNat 0, .ofNat 100000, 0, .ofNat 0)])], [(false, (0, 0, .ofNat 0))])
/-- GridLawsModel.later, row 5 -/
def zc_l1408 : zC := (287, 5, 1, [(3, 88, .ofNat 0), (0, 0, .ofNat 490)], ([(88, (0, 0, .ofNat 28), (1, 0, .ofNat 0)), (1049, (0, 0, .ofNat 490), (0, 0, .ofNat 0))], []), [(.ofNat 0, .ofNat 100000, 0, .ofNat 0)], [], [(some (0, 0, .negSucc 0), ([], []), [(.ofNat 0, .ofNat 100000, 0, .ofNat 0)])], [(false, (0, 0, .ofNat 0))])
/-- GridLawsModel.later, row 5 -/
def zc_l1409 : zC := (287, 5, 1, [(3, 88, .ofNat 0), (0, 0, .ofNat 491)], ([(88, (0, 0, .ofNat 28), (1, 0, .ofNat 0)), (1049, (0, 0, .ofNat 491), (0, 0, .ofNat 0))], []), [(.ofNat 0, .ofNat 100000, 0, .ofNat 0)], [], [(some (0, 0, .negSucc 0), ([], []), [(.ofNat 0, .ofNat 100000, 0, .ofNat 0)])], [(false, (0, 0, .ofNat 0))])
/-- GridLawsModel.later, row 5 -/
def zc_l1410 : zC := (287, 5, 1, [(3, 88, .ofNat 0), (0, 0, .ofNat 492)], ([(88, (0, 0, .ofNat 28), (1, 0, .ofNat 0)), (1049, (0, 0, .ofNat 492), (0, 0, .ofNat 0))], []), [(.ofNat 0, .ofNat 100000, 0, .ofNat 0)], [], [(some (0, 0, .negSucc 0), ([], []), [(.ofNat 0, .ofNat 100000, 0, .ofNat 0)])], [(false, (0, 0, .ofNat 0))])
/-- GridLawsModel.later, row 5 -/
def zc_l1411 : zC := (287, 5, 1, [(3, 88, .ofNat 0), (0, 0, .ofNat 493)], ([(88, (0, 0, .ofNat 28), (1, 0, .ofNat 0)), (1049, (0, 0, .ofNat 493), (0, 0, .ofNat 0))], []), [(.ofNat 0, .ofNat 100000, 0, .ofNat 0)], [], [(some (0, 0, .negSucc 0), ([], []), [(.ofNat 0, .ofNat 100000, 0, .ofNat 0)])], [(false, (0, 0, .ofNat 0))])
/-- GridLawsModel.later, row 5 -/
def zc_l1412 : zC := (287, 5, 1, [(3, 88, .ofNat 0), (0, 0, .ofNat 494)], ([(88, (0, 0, .ofNat 28), (1, 0, .ofNat 0)), (1049, (0, 0, .ofNat 494), (0, 0, .ofNat 0))], []), [(.ofNat 0, .ofNat 100000, 0, .ofNat 0)], [], [(some (0, 0, .negSucc 0), ([], []), [(.ofNat 0, .ofNat 100000, 0, .ofNat 0)])], [(false, (0, 0, .ofNat 0))])
/-- GridLawsModel.later, row 5 -/
def zc_l1413 : zC := (287, 5, 1, [(3, 88, .ofNat 0), (0, 0, .ofNat 495)], ([(88, (0, 0, .ofNat 28), (1, 0, .ofNat 0)), (1049, (0, 0, .ofNat 495), (0, 0, .ofNat 0))], []), [(.ofNat 0, .ofNat 100000, 0, .ofNat 0)], [], [(some (0, 0, .negSucc 0), ([], []), [(.ofNat 0, .ofNat 100000, 0, .ofNat 0)])], [(false, (0, 0, .ofNat 0))])
/-- GridLawsModel.later, row 5 -/
def zc_l1414 : zC := (287, 5, 1, [(3, 88, .ofNat 0), (0, 0, .ofNat 496)], ([(88, (0, 0, .ofNat 28), (1, 0, .ofNat 0)), (1049, (0, 0, .ofNat 496), (0, 0, .ofNat 0))], []), [(.ofNat 0, .ofNat 100000, 0, .ofNat 0)], [], [(some (0, 0, .negSucc 0), ([], []), [(.ofNat 0, .ofNat 100000, 0, .ofNat 0)])], [(false, (0, 0, .ofNat 0))])
/-- GridLawsModel.later, row 5 -/
def zc_l1415 : zC := (287, 5, 1, [(3, 88, .ofNat 0), (0, 0, .ofNat 497)], ([(88, (0, 0, .ofNat 28), (1, 0, .ofNat 0)), (1049, (0, 0, .ofNat 497), (0, 0, .ofNat 0))], []), [(.ofNat 0, .ofNat 100000, 0, .ofNat 0)], [], [(some (0, 0, .negSucc 0), ([], []), [(.ofNat 0, .ofNat 100000, 0, .ofNat 0)])], [(false, (0, 0, .ofNat 0))])
/-- GridLawsModel.later, row 5 -/
def zc_l1416 : zC := (287, 5, 1, [(3, 88, .ofNat 0), (0, 0, .ofNat 498)], ([(88, (0, 0, .ofNat 28), (1, 0, .ofNat 0)), (1049, (0, 0, .ofNat 498), (0, 0, .ofNat 0))], []), [(.ofNat 0, .ofNat 100000, 0, .ofNat 0)], [], [(some (0, 0, .negSucc 0), ([], []), [(.ofNat 0, .ofNat 100000, 0, .ofNat 0)])], [(false, (0, 0, .ofNat 0))])
/-- GridLawsModel.later, row 5 -/
def zc_l1417 : zC := (287, 5, 1, [(3, 88, .ofNat 0), (0, 0, .ofNat 499)], ([(88, (0, 0, .ofNat 28), (1, 0, .ofNat 0)), (1049, (0, 0, .ofNat 499), (0, 0, .ofNat 0))], []), [(.ofNat 0, .ofNat 100000, 0, .ofNat 0)], [], [(some (0, 0, .negSucc 0), ([], []), [(.ofNat 0, .ofNat 100000, 0, .ofNat 0)])], [(false, (0, 0, .ofNat 0))])
def zgl_l1317_0 : List zC := [zc_l1317, zc_l1318, zc_l1319, zc_l1320, zc_l1321, zc_l1322, zc_l1323, zc_l1324, zc_l1325, zc_l1326, zc_l1327, zc_l1328, zc_l1329, zc_l1330, zc_l1331, zc_l1332]
def zgl_l1317_1 : List zC := [zc_l1333, zc_l1334, zc_l1335, zc_l1336, zc_l1337, zc_l1338, zc_l1339, zc_l1340, zc_l1341, zc_l1342, zc_l1343, zc_l1344, zc_l1345, zc_l1346, zc_l1347, zc_l1348]
def zgl_l1317_2 : List zC := [zc_l1349, zc_l1350, zc_l1351, zc_l1352, zc_l1353, zc_l1354, zc_l1355, zc_l1356, zc_l1357, zc_l1358, zc_l1359, zc_l1360, zc_l1361, zc_l1362, zc_l1363, zc_l1364]
def zgl_l1317_3 : List zC := [zc_l1365, zc_l1366, zc_l1367, zc_l1368, zc_l1369, zc_l1370, zc_l1371, zc_l1372, zc_l1373, zc_l1374, zc_l1375, zc_l1376, zc_l1377, zc_l1378, zc_l1379, zc_l1380]
def zgl_l1317_4 : List zC := [zc_l1381, zc_l1382, zc_l1383, zc_l1384, zc_l1385, zc_l1386, zc_l1387, zc_l1388, zc_l1389, zc_l1390, zc_l1391, zc_l1392, zc_l1393, zc_l1394, zc_l1395, zc_l1396]
def zgl_l1317_5 : List zC := [zc_l1397, zc_l1398, zc_l1399, zc_l1400, zc_l1401, zc_l1402, zc_l1403, zc_l1404, zc_l1405, zc_l1406, zc_l1407, zc_l1408, zc_l1409, zc_l1410, zc_l1411, zc_l1412]
def zgl_l1317_6 : List zC := [zc_l1413, zc_l1414, zc_l1415, zc_l1416, zc_l1417]
def zgl_l1317 : List zC := zgl_l1317_0 ++ (zgl_l1317_1 ++ (zgl_l1317_2 ++ (zgl_l1317_3 ++ (zgl_l1317_4 ++ (zgl_l1317_5 ++ (zgl_l1317_6))))))
def zgh_l1317_0 : List (zC × zHt) := [(zc_l1317, [(5, 0, 0), (5, 1, 0)]), (zc_l1318, [(13, 2, 94)]), (zc_l1319, [(13, 2, 94)]), (zc_l1320, [(13, 2, 94)]), (zc_l1321, [(13, 2, 94)]), (zc_l1322, [(13, 2, 94)]), (zc_l1323, [(13, 2, 94)]), (zc_l1324, [(13, 2, 94)]), (zc_l1325, [(13, 2, 94)]), (zc_l1326, [(13, 2, 94)]), (zc_l1327, [(13, 2, 94)]), (zc_l1328, [(13, 2, 94)]), (zc_l1329, [(13, 2, 94)]), (zc_l1330, [(13, 2, 94)]), (zc_l1331, [(13, 2, 94)]), (zc_l1332, [(13, 2, 94)])]
def zgh_l1317_1 : List (zC × zHt) := [(zc_l1333, [(13, 2, 94)]), (zc_l1334, [(13, 2, 94)]), (zc_l1335, [(13, 2, 94)]), (zc_l1336, [(13, 2, 94)]), (zc_l1337, [(13, 2, 94)]), (zc_l1338, [(13, 2, 94)]), (zc_l1339, [(13, 2, 94)]), (zc_l1340, [(13, 2, 94)]), (zc_l1341, [(13, 2, 94)]), (zc_l1342, [(13, 2, 94)]), (zc_l1343, [(13, 2, 94)]), (zc_l1344, [(13, 2, 94)]), (zc_l1345, [(13, 2, 94)]), (zc_l1346, [(13, 2, 94)]), (zc_l1347, [(13, 2, 94)]), (zc_l1348, [(13, 2, 94)])]
def zgh_l1317_2 : List (zC × zHt) := [(zc_l1349, [(13, 2, 94)]), (zc_l1350, [(13, 2, 94)]), (zc_l1351, [(13, 2, 94)]), (zc_l1352, [(13, 2, 94)]), (zc_l1353, [(13, 2, 94)]), (zc_l1354, [(13, 2, 94)]), (zc_l1355, [(13, 2, 94)]), (zc_l1356, [(13, 2, 94)]), (zc_l1357, [(13, 2, 94)]), (zc_l1358, [(13, 2, 94)]), (zc_l1359, [(13, 2, 94)]), (zc_l1360, [(13, 2, 94)]), (zc_l1361, [(13, 2, 94)]), (zc_l1362, [(13, 2, 94)]), (zc_l1363, [(13, 2, 94)]), (zc_l1364, [(13, 2, 94)])]
def zgh_l1317_3 : List (zC × zHt) := [(zc_l1365, [(13, 2, 94)]), (zc_l1366, [(13, 2, 94)]), (zc_l1367, [(13, 2, 94)]), (zc_l1368, [(13, 2, 94)]), (zc_l1369, [(13, 2, 94)]), (zc_l1370, [(13, 2, 94)]), (zc_l1371, [(13, 2, 94)]), (zc_l1372, [(13, 2, 94)]), (zc_l1373, [(13, 2, 94)]), (zc_l1374, [(13, 2, 94)]), (zc_l1375, [(13, 2, 94)]), (zc_l1376, [(13, 2, 94)]), (zc_l1377, [(13, 2, 94)]), (zc_l1378, [(13, 2, 94)]), (zc_l1379, [(13, 2, 94)]), (zc_l1380, [(13, 2, 94)])]
def zgh_l1317_4 : List (zC × zHt) := [(zc_l1381, [(13, 2, 94)]), (zc_l1382, [(13, 2, 94)]), (zc_l1383, [(13, 2, 94)]), (zc_l1384, [(13, 2, 94)]), (zc_l1385, [(13, 2, 94)]), (zc_l1386, [(13, 2, 94)]), (zc_l1387, [(13, 2, 94)]), (zc_l1388, [(13, 2, 94)]), (zc_l1389, [(13, 2, 94)]), (zc_l1390, [(13, 2, 94)]), (zc_l1391, [(13, 2, 94)]), (zc_l1392, [(13, 2, 94)]), (zc_l1393, [(13, 2, 94)]), (zc_l1394, [(13, 2, 94)]), (zc_l1395, [(13, 2, 94)]), (zc_l1396, [(13, 2, 94)])]
def zgh_l1317_5 : List (zC × zHt) := [(zc_l1397, [(13, 2, 94)]), (zc_l1398, [(13, 2, 94)]), (zc_l1399, [(13, 2, 94)]), (zc_l1400, [(13, 2, 94)]), (zc_l1401, [(13, 2, 94)]), (zc_l1402, [(13, 2, 94)]), (zc_l1403, [(13, 2, 94)]), (zc_l1404, [(13, 2, 94)]), (zc_l1405, [(13, 2, 94)]), (zc_l1406, [(13, 2, 94)]), (zc_l1407, [(13, 2, 94)]), (zc_l1408, [(13, 2, 94)]), (zc_l1409, [(13, 2, 94)]), (zc_l1410, [(13, 2, 94)]), (zc_l1411, [(13, 2, 94)]), (zc_l1412, [(13, 2, 94)])]
def zgh_l1317_6 : List (zC × zHt) := [(zc_l1413, [(13, 2, 94)]), (zc_l1414, [(13, 2, 94)]), (zc_l1415, [(13, 2, 94)]), (zc_l1416, [(13, 2, 94)]), (zc_l1417, [(13, 2, 94)])]
theorem zge_l1317_0 : zgh_l1317_0.map Prod.fst = zgl_l1317_0 := rfl
theorem zge_l1317_1 : zgh_l1317_1.map Prod.fst = zgl_l1317_1 := rfl
theorem zge_l1317_2 : zgh_l1317_2.map Prod.fst = zgl_l1317_2 := rfl
theorem zge_l1317_3 : zgh_l1317_3.map Prod.fst = zgl_l1317_3 := rfl
theorem zge_l1317_4 : zgh_l1317_4.map Prod.fst = zgl_l1317_4 := rfl
theorem zge_l1317_5 : zgh_l1317_5.map Prod.fst = zgl_l1317_5 := rfl
theorem zge_l1317_6 : zgh_l1317_6.map Prod.fst = zgl_l1317_6 := rfl
theorem zge_l1317 : (zgh_l1317_0 ++ (zgh_l1317_1 ++ (zgh_l1317_2 ++ (zgh_l1317_3 ++ (zgh_l1317_4 ++ (zgh_l1317_5 ++ (zgh_l1317_6))))))).map Prod.fst = zgl_l1317 := by
  rw [List.map_append, zge_l1317_0, List.map_append, zge_l1317_1, List.map_append, zge_l1317_2, List.map_append, zge_l1317_3, List.map_append, zge_l1317_4, List.map_append, zge_l1317_5, zge_l1317_6]
  rfl
